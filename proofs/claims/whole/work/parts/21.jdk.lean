/-! what the JDK does -/
abbrev wArr (n_a : Nat) (f_a : Nat → Int32) : List ce := [.inl (0, n_a, .inl f_a)]
def mArrays_fill0 : MD := (14, ⟨"java/util/Arrays", "fill", "([II)V"⟩, prog_22_method_103_code, 4, none)
theorem ok_mArrays_fill0 : okMS mArrays_fill0 2 := ⟨⟨in_tbl (List.mem_of_getElem? (i := 409) (by decide +kernel)) rfl, in_tbl (List.mem_of_getElem? (i := 13) (by decide +kernel)) rfl, ⟨by decide, by decide, by decide +kernel⟩, by decide⟩, in_tbl (List.mem_of_getElem? (i := 408) (by decide +kernel)) rfl⟩
def mArrays_rangeCheck : MD := (14, ⟨"java/util/Arrays", "rangeCheck", "(III)V"⟩, prog_22_method_30_code, 3, none)
theorem ok_mArrays_rangeCheck : okMS mArrays_rangeCheck 3 := ⟨⟨in_tbl (List.mem_of_getElem? (i := 897) (by decide +kernel)) rfl, in_tbl (List.mem_of_getElem? (i := 13) (by decide +kernel)) rfl, ⟨by decide, by decide, by decide +kernel⟩, by decide⟩, in_tbl (List.mem_of_getElem? (i := 896) (by decide +kernel)) rfl⟩
def mArrays_fill1 : MD := (14, ⟨"java/util/Arrays", "fill", "([IIII)V"⟩, prog_22_method_104_code, 5, none)
theorem ok_mArrays_fill1 : okMS mArrays_fill1 4 := ⟨⟨in_tbl (List.mem_of_getElem? (i := 894) (by decide +kernel)) rfl, in_tbl (List.mem_of_getElem? (i := 13) (by decide +kernel)) rfl, ⟨by decide, by decide, by decide +kernel⟩, by decide⟩, in_tbl (List.mem_of_getElem? (i := 893) (by decide +kernel)) rfl⟩
def mInteger_bitCount : MD := (15, ⟨"java/lang/Integer", "bitCount", "(I)I"⟩, prog_16_method_49_code, 1, some .int)
theorem ok_mInteger_bitCount : okMS mInteger_bitCount 1 := ⟨⟨in_tbl (List.mem_of_getElem? (i := 1119) (by decide +kernel)) rfl, in_tbl (List.mem_of_getElem? (i := 22) (by decide +kernel)) rfl, ⟨by decide, by decide, by decide +kernel⟩, by decide⟩, in_tbl (List.mem_of_getElem? (i := 1118) (by decide +kernel)) rfl⟩
theorem lk14_13 : Cond.methodLink "java/util/Arrays" 13 ⟨"java/util/Arrays", "rangeCheck", "(III)V"⟩ ∈ tbl := in_tbl (List.mem_of_getElem? (i := 895) (by decide +kernel)) rfl
noncomputable def Arrays_fill_L5 (v1 : Int32) (v3 : Int32) (n_a : Nat) : (Int32 × (Nat → Int32)) → Option ((Int32 × (Nat → Int32)) ⊕ (Nat → Int32)) := fun s5 =>
  if s5.1 < v3 then (gd (ix s5.1 n_a) (some (.inl (s5.1 + 1, upd s5.2 (s5.1 : Int32).toNatClampNeg v1)))) else (some (.inr s5.2))
noncomputable def Arrays_fill (n_a : Nat) (f_a : Nat → Int32) (a1 : Int32) : Option (Nat → Int32) :=
  ob (lp (Arrays_fill_L5 a1 (Int32.ofNat n_a) n_a) (0, f_a)) fun x1 =>
  some x1
set_option maxHeartbeats 4000000 in
set_option maxRecDepth 20000 in
theorem Arrays_fill_L5_v {Z : VZ} {cells slots : Nat} (hZ : 1 ≤ Z.1) (hC : cells ≤ Z.2.1) (hL : slots ≤ Z.2.2.1) {n_a : Nat} {v1 : Int32} {v3 : Int32} (s5 : Int32 × (Nat → Int32)) (y : (Int32 × (Nat → Int32)) ⊕ (Nat → Int32)) (h : Arrays_fill_L5 v1 v3 n_a s5 = some y) (kI : ∀ s' : Int32 × (Nat → Int32), y = .inl s' → V mArrays_fill0 Z cells slots 5 [some (.ref 0), some (.int v1), some (.int s'.1), some (.int v3)] [] (wArr n_a s'.2)) (kR0 : ∀ r : Nat → Int32, y = .inr r → V mArrays_fill0 Z cells slots 20 [none, none, none, none] [] (wArr n_a r)) :
    V mArrays_fill0 Z cells slots 5 [some (.ref 0), some (.int v1), some (.int s5.1), some (.int v3)] [] (wArr n_a s5.2) := by
  unfold Arrays_fill_L5 at h
  refine V.blk [(.iload_n 2, 0, 0, 0, 0), (.iload_n 3, 0, 0, 0, 0)] (by decide +kernel) (pc' := 7) (l' := [some (.ref 0), some (.int v1), some (.int s5.1), some (.int v3)]) (st' := [.int v3, .int s5.1]) (hs' := (wArr n_a s5.2)) rfl trivial rfl ?_
  refine V.ic_ge (tgt := 20) 13 (by decide +kernel) (by decide +kernel) (fun c2 => ?_) (fun c2 => ?_)
  · replace h := if_t h c2
    obtain ⟨g1, h⟩ := gd_some h
    refine V.blk [(.aload_n 0, 0, 0, 0, 0), (.iload_n 2, 0, 0, 0, 0), (.iload_n 1, 0, 0, 0, 0), (.iastore, 0, 0, 0, 0), (.iinc 2 1, 0, 0, 0, 1), (.goto (-12), 5, 0, 0, 0)] (by decide +kernel) (pc' := 5) (l' := [some (.ref 0), some (.int v1), some (.int (s5.1 + 1)), some (.int v3)]) (st' := []) (hs' := (wArr n_a (upd s5.2 (s5.1 : Int32).toNatClampNeg v1))) rfl ⟨g1, trivial⟩ rfl ?_
    cases h
    exact kI (s5.1 + 1, upd s5.2 (s5.1 : Int32).toNatClampNeg v1) rfl
  · replace h := if_f h c2
    cases h
    refine V.weak [false, false, false, false] (l' := [none, none, none, none]) rfl rfl ?_
    exact kR0 s5.2 rfl

set_option maxHeartbeats 4000000 in
set_option maxRecDepth 20000 in
theorem Arrays_fill_c {n_a : Nat} {f_a : Nat → Int32} {a1 : Int32} {y : Nat → Int32} (h : Arrays_fill n_a f_a a1 = some y) :
    C mArrays_fill0 1 0 0 kpT [.ref 0, .int a1] (wArr n_a f_a) none (wArr n_a y) := by
  refine C.of rfl rfl (Nat.le_of_ble_eq_true rfl) rfl ?_
  show V mArrays_fill0 (1, 0, 0, kpT, none, (wArr n_a y)) 0 0 0 [some (.ref 0), some (.int a1), none, none] [] (wArr n_a f_a)
  unfold Arrays_fill at h
  refine V.blk [(.iconst 0, 0, 0, 0, 0), (.istore_n 2, 0, 0, 0, 0), (.aload_n 0, 0, 0, 0, 0), (.arraylength, 0, 0, 0, 0), (.istore_n 3, 0, 0, 0, 0)] (by decide +kernel) (pc' := 5) (l' := [some (.ref 0), some (.int a1), some (.int 0), some (.int (Int32.ofNat n_a))]) (st' := []) (hs' := (wArr n_a f_a)) rfl trivial rfl ?_
  obtain ⟨x1, hx, h⟩ := ob_some h
  refine lp_V (A := fun s5 => V mArrays_fill0 (1, 0, 0, kpT, none, (wArr n_a y)) 0 0 5 [some (.ref 0), some (.int a1), some (.int s5.1), some (.int (Int32.ofNat n_a))] [] (wArr n_a s5.2)) (B := fun x1 => V mArrays_fill0 (1, 0, 0, kpT, none, (wArr n_a y)) 0 0 20 [none, none, none, none] [] (wArr n_a x1)) (fun s y hs kI kR => Arrays_fill_L5_v (Nat.le_refl _) (Nat.le_refl _) (Nat.le_refl _) s y hs kI (fun r e => kR r e)) hx ?_
  show V mArrays_fill0 (1, 0, 0, kpT, none, (wArr n_a y)) 0 0 20 [none, none, none, none] [] (wArr n_a x1)
  cases h
  exact V.vret rfl (Nat.le_refl _) (Nat.le_refl _) (by decide +kernel)

noncomputable def Arrays_rangeCheck (a0 : Int32) (a1 : Int32) (a2 : Int32) : Option (Unit) :=
  if a1 ≤ a2 then (if a1 < 0 then (none) else (if a2 ≤ a0 then (some ()) else (none))) else (none)
set_option maxHeartbeats 4000000 in
set_option maxRecDepth 20000 in
theorem Arrays_rangeCheck_c  {a0 : Int32} {a1 : Int32} {a2 : Int32} {y : Unit} (h : Arrays_rangeCheck a0 a1 a2 = some y) :
    C mArrays_rangeCheck 1 0 0 kpT [.int a0, .int a1, .int a2] (wNone ) none (wNone ) := by
  refine C.of rfl rfl (Nat.le_of_ble_eq_true rfl) rfl ?_
  show V mArrays_rangeCheck (1, 0, 0, kpT, none, (wNone )) 0 0 0 [some (.int a0), some (.int a1), some (.int a2)] [] (wNone )
  unfold Arrays_rangeCheck at h
  refine V.blk [(.iload_n 1, 0, 0, 0, 0), (.iload_n 2, 0, 0, 0, 0)] (by decide +kernel) (pc' := 2) (l' := [some (.int a0), some (.int a1), some (.int a2)]) (st' := [.int a2, .int a1]) (hs' := (wNone )) rfl trivial rfl ?_
  refine V.ic_le (tgt := 46) 44 (by decide +kernel) (by decide +kernel) (fun c3 => ?_) (fun c3 => ?_)
  · replace h := if_t h c3
    refine V.blk [(.iload_n 1, 0, 0, 0, 0)] (by decide +kernel) (pc' := 47) (l' := [some (.int a0), some (.int a1), some (.int a2)]) (st' := [.int a1]) (hs' := (wNone )) rfl trivial rfl ?_
    refine V.if_ge (tgt := 59) 12 (by decide +kernel) (by decide +kernel) (fun c2 => ?_) (fun c2 => ?_)
    · replace h := if_t h c2
      cases h
    · replace h := if_f h c2
      refine V.blk [(.iload_n 2, 0, 0, 0, 0), (.iload_n 0, 0, 0, 0, 0)] (by decide +kernel) (pc' := 61) (l' := [some (.int a0), some (.int a1), some (.int a2)]) (st' := [.int a0, .int a2]) (hs' := (wNone )) rfl trivial rfl ?_
      refine V.ic_le (tgt := 73) 12 (by decide +kernel) (by decide +kernel) (fun c1 => ?_) (fun c1 => ?_)
      · replace h := if_t h c1
        cases h
        exact V.vret rfl (Nat.le_refl _) (Nat.le_refl _) (by decide +kernel)
      · replace h := if_f h c1
        cases h
  · replace h := if_f h c3
    cases h

noncomputable def Arrays_fill3_L10 (v2 : Int32) (v3 : Int32) (n_a : Nat) : (Int32 × (Nat → Int32)) → Option ((Int32 × (Nat → Int32)) ⊕ (Nat → Int32)) := fun s10 =>
  if s10.1 < v2 then (gd (ix s10.1 n_a) (some (.inl (s10.1 + 1, upd s10.2 (s10.1 : Int32).toNatClampNeg v3)))) else (some (.inr s10.2))
noncomputable def Arrays_fill3 (n_a : Nat) (f_a : Nat → Int32) (a1 : Int32) (a2 : Int32) (a3 : Int32) : Option (Nat → Int32) :=
  ob (Arrays_rangeCheck (Int32.ofNat n_a) a1 a2) fun x1 =>
  ob (lp (Arrays_fill3_L10 a2 a3 n_a) (a1, f_a)) fun x2 =>
  some x2
set_option maxHeartbeats 4000000 in
set_option maxRecDepth 20000 in
theorem Arrays_fill3_L10_v {Z : VZ} {cells slots : Nat} (hZ : 2 ≤ Z.1) (hC : cells ≤ Z.2.1) (hL : slots ≤ Z.2.2.1) {n_a : Nat} {v2 : Int32} {v3 : Int32} (s10 : Int32 × (Nat → Int32)) (y : (Int32 × (Nat → Int32)) ⊕ (Nat → Int32)) (h : Arrays_fill3_L10 v2 v3 n_a s10 = some y) (kI : ∀ s' : Int32 × (Nat → Int32), y = .inl s' → V mArrays_fill1 Z cells slots 10 [some (.ref 0), none, some (.int v2), some (.int v3), some (.int s'.1)] [] (wArr n_a s'.2)) (kR0 : ∀ r : Nat → Int32, y = .inr r → V mArrays_fill1 Z cells slots 27 [none, none, none, none, none] [] (wArr n_a r)) :
    V mArrays_fill1 Z cells slots 10 [some (.ref 0), none, some (.int v2), some (.int v3), some (.int s10.1)] [] (wArr n_a s10.2) := by
  unfold Arrays_fill3_L10 at h
  refine V.blk [(.iload 4, 0, 0, 0, 0), (.iload_n 2, 0, 0, 0, 0)] (by decide +kernel) (pc' := 13) (l' := [some (.ref 0), none, some (.int v2), some (.int v3), some (.int s10.1)]) (st' := [.int v2, .int s10.1]) (hs' := (wArr n_a s10.2)) rfl trivial rfl ?_
  refine V.ic_ge (tgt := 27) 14 (by decide +kernel) (by decide +kernel) (fun c2 => ?_) (fun c2 => ?_)
  · replace h := if_t h c2
    obtain ⟨g1, h⟩ := gd_some h
    refine V.blk [(.aload_n 0, 0, 0, 0, 0), (.iload 4, 0, 0, 0, 0), (.iload_n 3, 0, 0, 0, 0), (.iastore, 0, 0, 0, 0), (.iinc 4 1, 0, 0, 0, 1), (.goto (-14), 10, 0, 0, 0)] (by decide +kernel) (pc' := 10) (l' := [some (.ref 0), none, some (.int v2), some (.int v3), some (.int (s10.1 + 1))]) (st' := []) (hs' := (wArr n_a (upd s10.2 (s10.1 : Int32).toNatClampNeg v3))) rfl ⟨g1, trivial⟩ rfl ?_
    cases h
    exact kI (s10.1 + 1, upd s10.2 (s10.1 : Int32).toNatClampNeg v3) rfl
  · replace h := if_f h c2
    cases h
    refine V.weak [false, true, false, false, false] (l' := [none, none, none, none, none]) rfl rfl ?_
    exact kR0 s10.2 rfl

set_option maxHeartbeats 4000000 in
set_option maxRecDepth 20000 in
theorem Arrays_fill3_c {n_a : Nat} {f_a : Nat → Int32} {a1 : Int32} {a2 : Int32} {a3 : Int32} {y : Nat → Int32} (h : Arrays_fill3 n_a f_a a1 a2 a3 = some y) :
    C mArrays_fill1 2 0 0 kpT [.ref 0, .int a1, .int a2, .int a3] (wArr n_a f_a) none (wArr n_a y) := by
  refine C.of rfl rfl (Nat.le_of_ble_eq_true rfl) rfl ?_
  show V mArrays_fill1 (2, 0, 0, kpT, none, (wArr n_a y)) 0 0 0 [some (.ref 0), some (.int a1), some (.int a2), some (.int a3), none] [] (wArr n_a f_a)
  unfold Arrays_fill3 at h
  refine V.blk [(.aload_n 0, 0, 0, 0, 0), (.arraylength, 0, 0, 0, 0), (.iload_n 1, 0, 0, 0, 0), (.iload_n 2, 0, 0, 0, 0)] (by decide +kernel) (pc' := 4) (l' := [some (.ref 0), some (.int a1), some (.int a2), some (.int a3), none]) (st' := [.int a2, .int a1, .int (Int32.ofNat n_a)]) (hs' := (wArr n_a f_a)) rfl trivial rfl ?_
  obtain ⟨x1, hx, h⟩ := ob_some h
  refine V.callS (ρ := fun j => [].getD j 0) (as' := [.int (Int32.ofNat n_a), .int a1, .int a2]) (rest := []) (hc := (wNone )) (hc' := (wNone )) (hs' := (wArr n_a f_a)) (Arrays_rangeCheck_c hx) ok_mArrays_rangeCheck lk14_13 rfl (Sub.list rfl rfl) (Aft.list rfl rfl rfl rfl) (Nat.le_trans (by decide : 1 + 1 ≤ 2) (Nat.le_refl _)) (Nat.le_refl _) (Nat.le_refl _) (Nat.le_of_ble_eq_true rfl) (by decide +kernel) ?_
  show V mArrays_fill1 (2, 0, 0, kpT, none, (wArr n_a y)) 0 0 7 [some (.ref 0), some (.int a1), some (.int a2), some (.int a3), none] [] (wArr n_a f_a)
  refine V.blk [(.iload_n 1, 0, 0, 0, 0), (.istore 4, 0, 0, 0, 0)] (by decide +kernel) (pc' := 10) (l' := [some (.ref 0), some (.int a1), some (.int a2), some (.int a3), some (.int a1)]) (st' := []) (hs' := (wArr n_a f_a)) rfl trivial rfl ?_
  refine V.weak [true, false, true, true, true] (l' := [some (.ref 0), none, some (.int a2), some (.int a3), some (.int a1)]) rfl rfl ?_
  obtain ⟨x2, hx, h⟩ := ob_some h
  refine lp_V (A := fun s10 => V mArrays_fill1 (2, 0, 0, kpT, none, (wArr n_a y)) 0 0 10 [some (.ref 0), none, some (.int a2), some (.int a3), some (.int s10.1)] [] (wArr n_a s10.2)) (B := fun x2 => V mArrays_fill1 (2, 0, 0, kpT, none, (wArr n_a y)) 0 0 27 [none, none, none, none, none] [] (wArr n_a x2)) (fun s y hs kI kR => Arrays_fill3_L10_v (Nat.le_refl _) (Nat.le_refl _) (Nat.le_refl _) s y hs kI (fun r e => kR r e)) hx ?_
  show V mArrays_fill1 (2, 0, 0, kpT, none, (wArr n_a y)) 0 0 27 [none, none, none, none, none] [] (wArr n_a x2)
  cases h
  exact V.vret rfl (Nat.le_refl _) (Nat.le_refl _) (by decide +kernel)

noncomputable def Integer_bitCount (a0 : Int32) : Option (Int32) :=
  some ((((((((a0 - ((juS a0 1) &&& 1431655765)) &&& 858993459) + ((juS (a0 - ((juS a0 1) &&& 1431655765)) 2) &&& 858993459)) + (juS (((a0 - ((juS a0 1) &&& 1431655765)) &&& 858993459) + ((juS (a0 - ((juS a0 1) &&& 1431655765)) 2) &&& 858993459)) 4)) &&& 252645135) + (juS (((((a0 - ((juS a0 1) &&& 1431655765)) &&& 858993459) + ((juS (a0 - ((juS a0 1) &&& 1431655765)) 2) &&& 858993459)) + (juS (((a0 - ((juS a0 1) &&& 1431655765)) &&& 858993459) + ((juS (a0 - ((juS a0 1) &&& 1431655765)) 2) &&& 858993459)) 4)) &&& 252645135) 8)) + (juS ((((((a0 - ((juS a0 1) &&& 1431655765)) &&& 858993459) + ((juS (a0 - ((juS a0 1) &&& 1431655765)) 2) &&& 858993459)) + (juS (((a0 - ((juS a0 1) &&& 1431655765)) &&& 858993459) + ((juS (a0 - ((juS a0 1) &&& 1431655765)) 2) &&& 858993459)) 4)) &&& 252645135) + (juS (((((a0 - ((juS a0 1) &&& 1431655765)) &&& 858993459) + ((juS (a0 - ((juS a0 1) &&& 1431655765)) 2) &&& 858993459)) + (juS (((a0 - ((juS a0 1) &&& 1431655765)) &&& 858993459) + ((juS (a0 - ((juS a0 1) &&& 1431655765)) 2) &&& 858993459)) 4)) &&& 252645135) 8)) 16)) &&& 63)
set_option maxHeartbeats 4000000 in
set_option maxRecDepth 20000 in
theorem Integer_bitCount_c  {a0 : Int32} {y : Int32} (h : Integer_bitCount a0 = some y) :
    C mInteger_bitCount 1 0 0 kpT [.int a0] (wNone ) (some (.int y)) (wNone ) := by
  refine C.of rfl rfl (Nat.le_of_ble_eq_true rfl) rfl ?_
  show V mInteger_bitCount (1, 0, 0, kpT, some (.int y), (wNone )) 0 0 0 [some (.int a0)] [] (wNone )
  unfold Integer_bitCount at h
  refine V.blk [(.iload_n 0, 0, 0, 0, 0), (.iload_n 0, 0, 0, 0, 0), (.iconst 1, 0, 0, 0, 1), (.iushr, 0, 0, 0, 0), (.ldc_w 265, 0, 0, 0, 1431655765), (.iand, 0, 0, 0, 0), (.isub, 0, 0, 0, 0), (.istore_n 0, 0, 0, 0, 0), (.iload_n 0, 0, 0, 0, 0), (.ldc_w 266, 0, 0, 0, 858993459), (.iand, 0, 0, 0, 0), (.iload_n 0, 0, 0, 0, 0), (.iconst 2, 0, 0, 0, 2), (.iushr, 0, 0, 0, 0), (.ldc_w 266, 0, 0, 0, 858993459), (.iand, 0, 0, 0, 0), (.iadd, 0, 0, 0, 0), (.istore_n 0, 0, 0, 0, 0), (.iload_n 0, 0, 0, 0, 0), (.iload_n 0, 0, 0, 0, 0), (.iconst 4, 0, 0, 0, 4), (.iushr, 0, 0, 0, 0), (.iadd, 0, 0, 0, 0), (.ldc_w 267, 0, 0, 0, 252645135), (.iand, 0, 0, 0, 0), (.istore_n 0, 0, 0, 0, 0), (.iload_n 0, 0, 0, 0, 0), (.iload_n 0, 0, 0, 0, 0), (.bipush 8, 0, 0, 0, 8), (.iushr, 0, 0, 0, 0), (.iadd, 0, 0, 0, 0), (.istore_n 0, 0, 0, 0, 0), (.iload_n 0, 0, 0, 0, 0), (.iload_n 0, 0, 0, 0, 0), (.bipush 16, 0, 0, 0, 16), (.iushr, 0, 0, 0, 0), (.iadd, 0, 0, 0, 0), (.istore_n 0, 0, 0, 0, 0), (.iload_n 0, 0, 0, 0, 0), (.bipush 63, 0, 0, 0, 63), (.iand, 0, 0, 0, 0)] (by decide +kernel) (pc' := 52) (l' := [some (.int (((((((a0 - ((juS a0 1) &&& 1431655765)) &&& 858993459) + ((juS (a0 - ((juS a0 1) &&& 1431655765)) 2) &&& 858993459)) + (juS (((a0 - ((juS a0 1) &&& 1431655765)) &&& 858993459) + ((juS (a0 - ((juS a0 1) &&& 1431655765)) 2) &&& 858993459)) 4)) &&& 252645135) + (juS (((((a0 - ((juS a0 1) &&& 1431655765)) &&& 858993459) + ((juS (a0 - ((juS a0 1) &&& 1431655765)) 2) &&& 858993459)) + (juS (((a0 - ((juS a0 1) &&& 1431655765)) &&& 858993459) + ((juS (a0 - ((juS a0 1) &&& 1431655765)) 2) &&& 858993459)) 4)) &&& 252645135) 8)) + (juS ((((((a0 - ((juS a0 1) &&& 1431655765)) &&& 858993459) + ((juS (a0 - ((juS a0 1) &&& 1431655765)) 2) &&& 858993459)) + (juS (((a0 - ((juS a0 1) &&& 1431655765)) &&& 858993459) + ((juS (a0 - ((juS a0 1) &&& 1431655765)) 2) &&& 858993459)) 4)) &&& 252645135) + (juS (((((a0 - ((juS a0 1) &&& 1431655765)) &&& 858993459) + ((juS (a0 - ((juS a0 1) &&& 1431655765)) 2) &&& 858993459)) + (juS (((a0 - ((juS a0 1) &&& 1431655765)) &&& 858993459) + ((juS (a0 - ((juS a0 1) &&& 1431655765)) 2) &&& 858993459)) 4)) &&& 252645135) 8)) 16)))]) (st' := [.int ((((((((a0 - ((juS a0 1) &&& 1431655765)) &&& 858993459) + ((juS (a0 - ((juS a0 1) &&& 1431655765)) 2) &&& 858993459)) + (juS (((a0 - ((juS a0 1) &&& 1431655765)) &&& 858993459) + ((juS (a0 - ((juS a0 1) &&& 1431655765)) 2) &&& 858993459)) 4)) &&& 252645135) + (juS (((((a0 - ((juS a0 1) &&& 1431655765)) &&& 858993459) + ((juS (a0 - ((juS a0 1) &&& 1431655765)) 2) &&& 858993459)) + (juS (((a0 - ((juS a0 1) &&& 1431655765)) &&& 858993459) + ((juS (a0 - ((juS a0 1) &&& 1431655765)) 2) &&& 858993459)) 4)) &&& 252645135) 8)) + (juS ((((((a0 - ((juS a0 1) &&& 1431655765)) &&& 858993459) + ((juS (a0 - ((juS a0 1) &&& 1431655765)) 2) &&& 858993459)) + (juS (((a0 - ((juS a0 1) &&& 1431655765)) &&& 858993459) + ((juS (a0 - ((juS a0 1) &&& 1431655765)) 2) &&& 858993459)) 4)) &&& 252645135) + (juS (((((a0 - ((juS a0 1) &&& 1431655765)) &&& 858993459) + ((juS (a0 - ((juS a0 1) &&& 1431655765)) 2) &&& 858993459)) + (juS (((a0 - ((juS a0 1) &&& 1431655765)) &&& 858993459) + ((juS (a0 - ((juS a0 1) &&& 1431655765)) 2) &&& 858993459)) 4)) &&& 252645135) 8)) 16)) &&& 63)]) (hs' := (wNone )) rfl trivial rfl ?_
  cases h
  exact V.iret rfl (Nat.le_refl _) (Nat.le_refl _) (by decide +kernel)

