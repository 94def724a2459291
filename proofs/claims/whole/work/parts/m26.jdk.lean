/-! what the JDK does: the bytecode does what the functions say -/
set_option maxHeartbeats 4000000 in
set_option maxRecDepth 20000 in
theorem Arrays_fill_L5_v {Z : VZ} {cells slots : Nat} (hZ : 1 ≤ Z.1) (hC : cells ≤ Z.2.1) (hL : slots ≤ Z.2.2.1) {n_a : Nat} {v1 : Int32} {v3 : Int32} (s5 : Int32 × (Nat → Int32)) (y : (Int32 × (Nat → Int32)) ⊕ (Nat → Int32)) (h : Arrays_fill_L5 v1 v3 n_a s5 = some y)  (kI : ∀ s' : Int32 × (Nat → Int32), y = .inl s' → V mArrays_fill0 Z cells slots 5 [some (.ref 0), some (.int v1), some (.int s'.1), some (.int v3)] [] (wArr n_a s'.2)) (kR0 : ∀ r : Nat → Int32, y = .inr r → V mArrays_fill0 Z cells slots 20 [none, none, none, none] [] (wArr n_a r)) :
    V mArrays_fill0 Z cells slots 5 [some (.ref 0), some (.int v1), some (.int s5.1), some (.int v3)] [] (wArr n_a s5.2) := by
  unfold Arrays_fill_L5 at h
  refine V.blk [(.iload_n 2, 0, 0, 0, 0), (.iload_n 3, 0, 0, 0, 0)] (by decide +kernel) (pc' := 7) (l' := [some (.ref 0), some (.int v1), some (.int s5.1), some (.int v3)]) (st' := [.int v3, .int s5.1]) (hs' := (wArr n_a s5.2)) rfl trivial rfl ?_
  refine V.ic_ge (tgt := 20) 13 (by decide +kernel) (by decide +kernel) (fun c2 => ?_) (fun c2 => ?_)
  · replace h := if_t h c2
    obtain ⟨g1, h⟩ := gd_some h
    refine V.blk [(.aload_n 0, 0, 0, 0, 0), (.iload_n 2, 0, 0, 0, 0), (.iload_n 1, 0, 0, 0, 0), (.iastore, 0, 0, 0, 0), (.iinc 2 1, 0, 0, 0, 1), (.goto (-12), 5, 0, 0, 0)] (by decide +kernel) (pc' := 5) (l' := [some (.ref 0), some (.int v1), some (.int (s5.1 + 1)), some (.int v3)]) (st' := []) (hs' := (wArr n_a (upd s5.2 (s5.1 : Int32).toNatClampNeg v1))) rfl ⟨g1, trivial⟩ rfl ?_
    replace h := Option.some.inj h
    subst h
    exact kI (s5.1 + 1, upd s5.2 (s5.1 : Int32).toNatClampNeg v1) rfl
  · replace h := if_f h c2
    replace h := Option.some.inj h
    subst h
    refine V.weak [false, false, false, false] (l' := [none, none, none, none]) rfl rfl ?_
    exact kR0 s5.2 rfl

set_option maxHeartbeats 4000000 in
set_option maxRecDepth 20000 in
theorem Arrays_fill_c {n_a : Nat} {f_a : Nat → Int32} {a1 : Int32} {y : Nat → Int32} (h : Arrays_fill n_a f_a a1 = some y) :
    C mArrays_fill0 1 0 0 kpT [.ref 0, .int a1] (wArr n_a f_a) none (wArr n_a y) := by
  refine C.of rfl rfl (Nat.le_of_ble_eq_true rfl) rfl rfl ?_
  show V mArrays_fill0 (1, 0, 0, kpT, none, (wArr n_a y), 0, 0) 0 0 0 [some (.ref 0), some (.int a1), none, none] [] (wArr n_a f_a)
  unfold Arrays_fill at h
  refine V.blk [(.iconst 0, 0, 0, 0, 0), (.istore_n 2, 0, 0, 0, 0), (.aload_n 0, 0, 0, 0, 0), (.arraylength, 0, 0, 0, 0), (.istore_n 3, 0, 0, 0, 0)] (by decide +kernel) (pc' := 5) (l' := [some (.ref 0), some (.int a1), some (.int 0), some (.int (Int32.ofNat n_a))]) (st' := []) (hs' := (wArr n_a f_a)) rfl trivial rfl ?_
  obtain ⟨x1, hx, h⟩ := ob_some h
  refine lp_V (A := fun s5 : Int32 × (Nat → Int32) => V mArrays_fill0 (1, 0, 0, kpT, none, (wArr n_a y), 0, 0) 0 0 5 [some (.ref 0), some (.int a1), some (.int s5.1), some (.int (Int32.ofNat n_a))] [] (wArr n_a s5.2)) (B := fun x1 : Nat → Int32 => V mArrays_fill0 (1, 0, 0, kpT, none, (wArr n_a y), 0, 0) 0 0 20 [none, none, none, none] [] (wArr n_a x1)) (s := (0, f_a)) (fun sq yq hq kIq kRq => Arrays_fill_L5_v (Z := (1, 0, 0, kpT, none, (wArr n_a y), 0, 0)) (cells := 0) (slots := 0) (Nat.le_refl _) (Nat.le_refl _) (Nat.le_refl _) sq yq hq kIq (fun r e => kRq r e)) hx ?_
  show V mArrays_fill0 (1, 0, 0, kpT, none, (wArr n_a y), 0, 0) 0 0 20 [none, none, none, none] [] (wArr n_a x1)
  replace h := Option.some.inj h
  subst h
  exact V.vret rfl (Nat.le_refl _) (Nat.le_refl _) (by decide +kernel)

set_option maxHeartbeats 4000000 in
set_option maxRecDepth 20000 in
theorem Arrays_rangeCheck_c  {a0 : Int32} {a1 : Int32} {a2 : Int32} {y : Unit} (h : Arrays_rangeCheck a0 a1 a2 = some y) :
    C mArrays_rangeCheck 1 0 0 kpT [.int a0, .int a1, .int a2] (wNone ) none (wNone ) := by
  refine C.of rfl rfl (Nat.le_of_ble_eq_true rfl) rfl rfl ?_
  show V mArrays_rangeCheck (1, 0, 0, kpT, none, (wNone ), 0, 0) 0 0 0 [some (.int a0), some (.int a1), some (.int a2)] [] (wNone )
  unfold Arrays_rangeCheck at h
  refine V.blk [(.iload_n 1, 0, 0, 0, 0), (.iload_n 2, 0, 0, 0, 0)] (by decide +kernel) (pc' := 2) (l' := [some (.int a0), some (.int a1), some (.int a2)]) (st' := [.int a2, .int a1]) (hs' := (wNone )) rfl trivial rfl ?_
  refine V.ic_le (tgt := 46) 44 (by decide +kernel) (by decide +kernel) (fun c3 => ?_) (fun c3 => ?_)
  · replace h := if_t h c3
    refine V.blk [(.iload_n 1, 0, 0, 0, 0)] (by decide +kernel) (pc' := 47) (l' := [some (.int a0), some (.int a1), some (.int a2)]) (st' := [.int a1]) (hs' := (wNone )) rfl trivial rfl ?_
    refine V.if_ge (tgt := 59) 12 (by decide +kernel) (by decide +kernel) (fun c2 => ?_) (fun c2 => ?_)
    · replace h := if_t h c2
      cases h
    · replace h := if_f h c2
      refine V.blk [(.iload_n 2, 0, 0, 0, 0), (.iload_n 0, 0, 0, 0, 0)] (by decide +kernel) (pc' := 61) (l' := [some (.int a0), some (.int a1), some (.int a2)]) (st' := [.int a0, .int a2]) (hs' := (wNone )) rfl trivial rfl ?_
      refine V.ic_le (tgt := 73) 12 (by decide +kernel) (by decide +kernel) (fun c1 => ?_) (fun c1 => ?_)
      · replace h := if_t h c1
        replace h := Option.some.inj h
        subst h
        exact V.vret rfl (Nat.le_refl _) (Nat.le_refl _) (by decide +kernel)
      · replace h := if_f h c1
        cases h
  · replace h := if_f h c3
    cases h

set_option maxHeartbeats 4000000 in
set_option maxRecDepth 20000 in
theorem Arrays_fill3_L10_v {Z : VZ} {cells slots : Nat} (hZ : 2 ≤ Z.1) (hC : cells ≤ Z.2.1) (hL : slots ≤ Z.2.2.1) {n_a : Nat} {v2 : Int32} {v3 : Int32} (s10 : Int32 × (Nat → Int32)) (y : (Int32 × (Nat → Int32)) ⊕ (Nat → Int32)) (h : Arrays_fill3_L10 v2 v3 n_a s10 = some y)  (kI : ∀ s' : Int32 × (Nat → Int32), y = .inl s' → V mArrays_fill1 Z cells slots 10 [some (.ref 0), none, some (.int v2), some (.int v3), some (.int s'.1)] [] (wArr n_a s'.2)) (kR0 : ∀ r : Nat → Int32, y = .inr r → V mArrays_fill1 Z cells slots 27 [none, none, none, none, none] [] (wArr n_a r)) :
    V mArrays_fill1 Z cells slots 10 [some (.ref 0), none, some (.int v2), some (.int v3), some (.int s10.1)] [] (wArr n_a s10.2) := by
  unfold Arrays_fill3_L10 at h
  refine V.blk [(.iload 4, 0, 0, 0, 0), (.iload_n 2, 0, 0, 0, 0)] (by decide +kernel) (pc' := 13) (l' := [some (.ref 0), none, some (.int v2), some (.int v3), some (.int s10.1)]) (st' := [.int v2, .int s10.1]) (hs' := (wArr n_a s10.2)) rfl trivial rfl ?_
  refine V.ic_ge (tgt := 27) 14 (by decide +kernel) (by decide +kernel) (fun c2 => ?_) (fun c2 => ?_)
  · replace h := if_t h c2
    obtain ⟨g1, h⟩ := gd_some h
    refine V.blk [(.aload_n 0, 0, 0, 0, 0), (.iload 4, 0, 0, 0, 0), (.iload_n 3, 0, 0, 0, 0), (.iastore, 0, 0, 0, 0), (.iinc 4 1, 0, 0, 0, 1), (.goto (-14), 10, 0, 0, 0)] (by decide +kernel) (pc' := 10) (l' := [some (.ref 0), none, some (.int v2), some (.int v3), some (.int (s10.1 + 1))]) (st' := []) (hs' := (wArr n_a (upd s10.2 (s10.1 : Int32).toNatClampNeg v3))) rfl ⟨g1, trivial⟩ rfl ?_
    replace h := Option.some.inj h
    subst h
    exact kI (s10.1 + 1, upd s10.2 (s10.1 : Int32).toNatClampNeg v3) rfl
  · replace h := if_f h c2
    replace h := Option.some.inj h
    subst h
    refine V.weak [false, true, false, false, false] (l' := [none, none, none, none, none]) rfl rfl ?_
    exact kR0 s10.2 rfl

set_option maxHeartbeats 4000000 in
set_option maxRecDepth 20000 in
theorem Arrays_fill3_c {n_a : Nat} {f_a : Nat → Int32} {a1 : Int32} {a2 : Int32} {a3 : Int32} {y : Nat → Int32} (h : Arrays_fill3 n_a f_a a1 a2 a3 = some y) :
    C mArrays_fill1 2 0 0 kpT [.ref 0, .int a1, .int a2, .int a3] (wArr n_a f_a) none (wArr n_a y) := by
  refine C.of rfl rfl (Nat.le_of_ble_eq_true rfl) rfl rfl ?_
  show V mArrays_fill1 (2, 0, 0, kpT, none, (wArr n_a y), 0, 0) 0 0 0 [some (.ref 0), some (.int a1), some (.int a2), some (.int a3), none] [] (wArr n_a f_a)
  unfold Arrays_fill3 at h
  refine V.blk [(.aload_n 0, 0, 0, 0, 0), (.arraylength, 0, 0, 0, 0), (.iload_n 1, 0, 0, 0, 0), (.iload_n 2, 0, 0, 0, 0)] (by decide +kernel) (pc' := 4) (l' := [some (.ref 0), some (.int a1), some (.int a2), some (.int a3), none]) (st' := [.int a2, .int a1, .int (Int32.ofNat n_a)]) (hs' := (wArr n_a f_a)) rfl trivial rfl ?_
  obtain ⟨x1, hx, h⟩ := ob_some h
  refine V.callS (ρ := fun j => [].getD j 0) (as' := [.int (Int32.ofNat n_a), .int a1, .int a2]) (rest := []) (hc := (wNone )) (hc' := (wNone )) (hs' := (wArr n_a f_a)) (Arrays_rangeCheck_c hx) ok_mArrays_rangeCheck lk14_13 rfl (Sub.list rfl rfl) (Aft.list rfl rfl rfl rfl) (Nat.le_trans (by decide : 1 + 1 ≤ 2) (Nat.le_refl _)) (Nat.le_refl _) (Nat.le_refl _) (Nat.le_of_ble_eq_true rfl) (by decide +kernel) ?_
  show V mArrays_fill1 (2, 0, 0, kpT, none, (wArr n_a y), 0, 0) 0 0 7 [some (.ref 0), some (.int a1), some (.int a2), some (.int a3), none] [] (wArr n_a f_a)
  refine V.blk [(.iload_n 1, 0, 0, 0, 0), (.istore 4, 0, 0, 0, 0)] (by decide +kernel) (pc' := 10) (l' := [some (.ref 0), some (.int a1), some (.int a2), some (.int a3), some (.int a1)]) (st' := []) (hs' := (wArr n_a f_a)) rfl trivial rfl ?_
  refine V.weak [true, false, true, true, true] (l' := [some (.ref 0), none, some (.int a2), some (.int a3), some (.int a1)]) rfl rfl ?_
  obtain ⟨x2, hx, h⟩ := ob_some h
  refine lp_V (A := fun s10 : Int32 × (Nat → Int32) => V mArrays_fill1 (2, 0, 0, kpT, none, (wArr n_a y), 0, 0) 0 0 10 [some (.ref 0), none, some (.int a2), some (.int a3), some (.int s10.1)] [] (wArr n_a s10.2)) (B := fun x2 : Nat → Int32 => V mArrays_fill1 (2, 0, 0, kpT, none, (wArr n_a y), 0, 0) 0 0 27 [none, none, none, none, none] [] (wArr n_a x2)) (s := (a1, f_a)) (fun sq yq hq kIq kRq => Arrays_fill3_L10_v (Z := (2, 0, 0, kpT, none, (wArr n_a y), 0, 0)) (cells := 0) (slots := 0) (Nat.le_refl _) (Nat.le_refl _) (Nat.le_refl _) sq yq hq kIq (fun r e => kRq r e)) hx ?_
  show V mArrays_fill1 (2, 0, 0, kpT, none, (wArr n_a y), 0, 0) 0 0 27 [none, none, none, none, none] [] (wArr n_a x2)
  replace h := Option.some.inj h
  subst h
  exact V.vret rfl (Nat.le_refl _) (Nat.le_refl _) (by decide +kernel)

set_option maxHeartbeats 4000000 in
set_option maxRecDepth 20000 in
theorem Integer_bitCount_c  {a0 : Int32} {y : Int32} (h : Integer_bitCount a0 = some y) :
    C mInteger_bitCount 1 0 0 kpT [.int a0] (wNone ) (some (.int y)) (wNone ) := by
  refine C.of rfl rfl (Nat.le_of_ble_eq_true rfl) rfl rfl ?_
  show V mInteger_bitCount (1, 0, 0, kpT, some (.int y), (wNone ), 0, 0) 0 0 0 [some (.int a0)] [] (wNone )
  unfold Integer_bitCount at h
  refine V.blk [(.iload_n 0, 0, 0, 0, 0), (.iload_n 0, 0, 0, 0, 0), (.iconst 1, 0, 0, 0, 1), (.iushr, 0, 0, 0, 0), (.ldc_w 265, 0, 0, 0, 1431655765), (.iand, 0, 0, 0, 0), (.isub, 0, 0, 0, 0), (.istore_n 0, 0, 0, 0, 0), (.iload_n 0, 0, 0, 0, 0), (.ldc_w 266, 0, 0, 0, 858993459), (.iand, 0, 0, 0, 0), (.iload_n 0, 0, 0, 0, 0), (.iconst 2, 0, 0, 0, 2), (.iushr, 0, 0, 0, 0), (.ldc_w 266, 0, 0, 0, 858993459), (.iand, 0, 0, 0, 0), (.iadd, 0, 0, 0, 0), (.istore_n 0, 0, 0, 0, 0), (.iload_n 0, 0, 0, 0, 0), (.iload_n 0, 0, 0, 0, 0), (.iconst 4, 0, 0, 0, 4), (.iushr, 0, 0, 0, 0), (.iadd, 0, 0, 0, 0), (.ldc_w 267, 0, 0, 0, 252645135), (.iand, 0, 0, 0, 0), (.istore_n 0, 0, 0, 0, 0), (.iload_n 0, 0, 0, 0, 0), (.iload_n 0, 0, 0, 0, 0), (.bipush 8, 0, 0, 0, 8), (.iushr, 0, 0, 0, 0), (.iadd, 0, 0, 0, 0), (.istore_n 0, 0, 0, 0, 0), (.iload_n 0, 0, 0, 0, 0), (.iload_n 0, 0, 0, 0, 0), (.bipush 16, 0, 0, 0, 16), (.iushr, 0, 0, 0, 0), (.iadd, 0, 0, 0, 0), (.istore_n 0, 0, 0, 0, 0), (.iload_n 0, 0, 0, 0, 0), (.bipush 63, 0, 0, 0, 63), (.iand, 0, 0, 0, 0)] (by decide +kernel) (pc' := 52) (l' := [some (.int (((((((a0 - ((juS a0 1) &&& 1431655765)) &&& 858993459) + ((juS (a0 - ((juS a0 1) &&& 1431655765)) 2) &&& 858993459)) + (juS (((a0 - ((juS a0 1) &&& 1431655765)) &&& 858993459) + ((juS (a0 - ((juS a0 1) &&& 1431655765)) 2) &&& 858993459)) 4)) &&& 252645135) + (juS (((((a0 - ((juS a0 1) &&& 1431655765)) &&& 858993459) + ((juS (a0 - ((juS a0 1) &&& 1431655765)) 2) &&& 858993459)) + (juS (((a0 - ((juS a0 1) &&& 1431655765)) &&& 858993459) + ((juS (a0 - ((juS a0 1) &&& 1431655765)) 2) &&& 858993459)) 4)) &&& 252645135) 8)) + (juS ((((((a0 - ((juS a0 1) &&& 1431655765)) &&& 858993459) + ((juS (a0 - ((juS a0 1) &&& 1431655765)) 2) &&& 858993459)) + (juS (((a0 - ((juS a0 1) &&& 1431655765)) &&& 858993459) + ((juS (a0 - ((juS a0 1) &&& 1431655765)) 2) &&& 858993459)) 4)) &&& 252645135) + (juS (((((a0 - ((juS a0 1) &&& 1431655765)) &&& 858993459) + ((juS (a0 - ((juS a0 1) &&& 1431655765)) 2) &&& 858993459)) + (juS (((a0 - ((juS a0 1) &&& 1431655765)) &&& 858993459) + ((juS (a0 - ((juS a0 1) &&& 1431655765)) 2) &&& 858993459)) 4)) &&& 252645135) 8)) 16)))]) (st' := [.int ((((((((a0 - ((juS a0 1) &&& 1431655765)) &&& 858993459) + ((juS (a0 - ((juS a0 1) &&& 1431655765)) 2) &&& 858993459)) + (juS (((a0 - ((juS a0 1) &&& 1431655765)) &&& 858993459) + ((juS (a0 - ((juS a0 1) &&& 1431655765)) 2) &&& 858993459)) 4)) &&& 252645135) + (juS (((((a0 - ((juS a0 1) &&& 1431655765)) &&& 858993459) + ((juS (a0 - ((juS a0 1) &&& 1431655765)) 2) &&& 858993459)) + (juS (((a0 - ((juS a0 1) &&& 1431655765)) &&& 858993459) + ((juS (a0 - ((juS a0 1) &&& 1431655765)) 2) &&& 858993459)) 4)) &&& 252645135) 8)) + (juS ((((((a0 - ((juS a0 1) &&& 1431655765)) &&& 858993459) + ((juS (a0 - ((juS a0 1) &&& 1431655765)) 2) &&& 858993459)) + (juS (((a0 - ((juS a0 1) &&& 1431655765)) &&& 858993459) + ((juS (a0 - ((juS a0 1) &&& 1431655765)) 2) &&& 858993459)) 4)) &&& 252645135) + (juS (((((a0 - ((juS a0 1) &&& 1431655765)) &&& 858993459) + ((juS (a0 - ((juS a0 1) &&& 1431655765)) 2) &&& 858993459)) + (juS (((a0 - ((juS a0 1) &&& 1431655765)) &&& 858993459) + ((juS (a0 - ((juS a0 1) &&& 1431655765)) 2) &&& 858993459)) 4)) &&& 252645135) 8)) 16)) &&& 63)]) (hs' := (wNone )) rfl trivial rfl ?_
  replace h := Option.some.inj h
  subst h
  exact V.iret rfl (Nat.le_refl _) (Nat.le_refl _) (by decide +kernel)

