/-! Tape: the bytecode does what the functions say -/
set_option maxHeartbeats 4000000 in
set_option maxRecDepth 20000 in
theorem Tape_append_L3_J45_v {Z : VZ} {cells slots : Nat} (hZ : 1 ≤ Z.1) (hC : cells ≤ Z.2.1) (hL : slots ≤ Z.2.2.1) {bytes_t : Nat → Int32} {length_t : Int32} {end_t : Int32} {at_t : Int32} {fault_t : Int32} {v1 : Int32} {v2 : Int32} (y : (Int32 × (Nat → Int32) × Int32) ⊕ ((Nat → Int32) × Int32)) (h : Tape_append_L3_J45 v1 v2 bytes_t length_t = some y)  (kI : ∀ s' : Int32 × (Nat → Int32) × Int32, y = .inl s' → V mTape_append Z cells slots 3 [some (.ref 0), some (.int v1), some (.int s'.1)] [] (wTape s'.2.1 s'.2.2 end_t at_t fault_t)) (kR0 : ∀ r : (Nat → Int32) × Int32, y = .inr r → V mTape_append Z cells slots 51 [none, none, none] [] (wTape r.1 r.2 end_t at_t fault_t)) :
    V mTape_append Z cells slots 45 [some (.ref 0), some (.int v1), some (.int v2)] [] (wTape bytes_t length_t end_t at_t fault_t) := by
  unfold Tape_append_L3_J45 at h
  refine V.blk [(.iinc 2 (-8), 0, 0, 0, (-8)), (.goto (-45), 3, 0, 0, 0)] (by decide +kernel) (pc' := 3) (l' := [some (.ref 0), some (.int v1), some (.int (v2 + (-8)))]) (st' := []) (hs' := (wTape bytes_t length_t end_t at_t fault_t)) rfl trivial rfl ?_
  replace h := Option.some.inj h
  subst h
  exact kI (v2 + (-8), bytes_t, length_t) rfl

set_option maxHeartbeats 4000000 in
set_option maxRecDepth 20000 in
theorem Tape_append_L3_v {Z : VZ} {cells slots : Nat} (hZ : 1 ≤ Z.1) (hC : cells ≤ Z.2.1) (hL : slots ≤ Z.2.2.1) {end_t : Int32} {at_t : Int32} {fault_t : Int32} {v1 : Int32} (s3 : Int32 × (Nat → Int32) × Int32) (y : (Int32 × (Nat → Int32) × Int32) ⊕ ((Nat → Int32) × Int32)) (h : Tape_append_L3 v1 s3 = some y)  (kI : ∀ s' : Int32 × (Nat → Int32) × Int32, y = .inl s' → V mTape_append Z cells slots 3 [some (.ref 0), some (.int v1), some (.int s'.1)] [] (wTape s'.2.1 s'.2.2 end_t at_t fault_t)) (kR0 : ∀ r : (Nat → Int32) × Int32, y = .inr r → V mTape_append Z cells slots 51 [none, none, none] [] (wTape r.1 r.2 end_t at_t fault_t)) :
    V mTape_append Z cells slots 3 [some (.ref 0), some (.int v1), some (.int s3.1)] [] (wTape s3.2.1 s3.2.2 end_t at_t fault_t) := by
  unfold Tape_append_L3 at h
  refine V.blk [(.iload_n 2, 0, 0, 0, 0)] (by decide +kernel) (pc' := 4) (l' := [some (.ref 0), some (.int v1), some (.int s3.1)]) (st' := [.int s3.1]) (hs' := (wTape s3.2.1 s3.2.2 end_t at_t fault_t)) rfl trivial rfl ?_
  refine V.if_lt (tgt := 51) 47 (by decide +kernel) (by decide +kernel) (fun c3 => ?_) (fun c3 => ?_)
  · replace h := if_t h c3
    replace h := Option.some.inj h
    subst h
    refine V.weak [false, false, false] (l' := [none, none, none]) rfl rfl ?_
    exact kR0 (s3.2.1, s3.2.2) rfl
  · replace h := if_f h c3
    refine V.blk [(.aload_n 0, 0, 0, 0, 0), (.getfield 15, 10, 1, 0, 0), (.aload_n 0, 0, 0, 0, 0), (.getfield 9, 10, 0, 0, 0), (.arraylength, 0, 0, 0, 0)] (by decide +kernel) (pc' := 16) (l' := [some (.ref 0), some (.int v1), some (.int s3.1)]) (st' := [.int 260, .int s3.2.2]) (hs' := (wTape s3.2.1 s3.2.2 end_t at_t fault_t)) rfl trivial rfl ?_
    refine V.ic_ge (tgt := 45) 29 (by decide +kernel) (by decide +kernel) (fun c2 => ?_) (fun c2 => ?_)
    · replace h := if_t h c2
      obtain ⟨g1, h⟩ := gd_some h
      refine V.blk [(.aload_n 0, 0, 0, 0, 0), (.getfield 9, 10, 0, 0, 0), (.aload_n 0, 0, 0, 0, 0), (.getfield 15, 10, 1, 0, 0), (.iload_n 1, 0, 0, 0, 0), (.iload_n 2, 0, 0, 0, 0), (.iushr, 0, 0, 0, 0), (.sipush 255, 0, 0, 0, 255), (.iand, 0, 0, 0, 0), (.iastore, 0, 0, 0, 0), (.aload_n 0, 0, 0, 0, 0), (.dup, 0, 0, 0, 0), (.getfield 15, 10, 1, 0, 0), (.iconst 1, 0, 0, 0, 1), (.iadd, 0, 0, 0, 0), (.putfield 15, 10, 1, 0, 0)] (by decide +kernel) (pc' := 45) (l' := [some (.ref 0), some (.int v1), some (.int s3.1)]) (st' := []) (hs' := (wTape (upd s3.2.1 (s3.2.2 : Int32).toNatClampNeg ((juS v1 s3.1) &&& 255)) (s3.2.2 + 1) end_t at_t fault_t)) rfl ⟨g1, trivial⟩ rfl ?_
      exact Tape_append_L3_J45_v hZ hC hL y h kI kR0
    · replace h := if_f h c2
      exact Tape_append_L3_J45_v hZ hC hL y h kI kR0

set_option maxHeartbeats 4000000 in
set_option maxRecDepth 20000 in
theorem Tape_append_c {bytes_t : Nat → Int32} {length_t : Int32} {end_t : Int32} {at_t : Int32} {fault_t : Int32} {a1 : Int32} {y : (Nat → Int32) × Int32} (h : Tape_append bytes_t length_t a1 = some y) :
    C mTape_append 1 0 0 kpT [.ref 0, .int a1] (wTape bytes_t length_t end_t at_t fault_t) none (wTape y.1 y.2 end_t at_t fault_t) := by
  refine C.of rfl rfl (Nat.le_of_ble_eq_true rfl) rfl rfl ?_
  show V mTape_append (1, 0, 0, kpT, none, (wTape y.1 y.2 end_t at_t fault_t), 0, 0) 0 0 0 [some (.ref 0), some (.int a1), none] [] (wTape bytes_t length_t end_t at_t fault_t)
  unfold Tape_append at h
  refine V.blk [(.bipush 24, 0, 0, 0, 24), (.istore_n 2, 0, 0, 0, 0)] (by decide +kernel) (pc' := 3) (l' := [some (.ref 0), some (.int a1), some (.int 24)]) (st' := []) (hs' := (wTape bytes_t length_t end_t at_t fault_t)) rfl trivial rfl ?_
  obtain ⟨x1, hx, h⟩ := ob_some h
  refine lp_V (A := fun s3 : Int32 × (Nat → Int32) × Int32 => V mTape_append (1, 0, 0, kpT, none, (wTape y.1 y.2 end_t at_t fault_t), 0, 0) 0 0 3 [some (.ref 0), some (.int a1), some (.int s3.1)] [] (wTape s3.2.1 s3.2.2 end_t at_t fault_t)) (B := fun x1 : (Nat → Int32) × Int32 => V mTape_append (1, 0, 0, kpT, none, (wTape y.1 y.2 end_t at_t fault_t), 0, 0) 0 0 51 [none, none, none] [] (wTape x1.1 x1.2 end_t at_t fault_t)) (s := (24, bytes_t, length_t)) (fun sq yq hq kIq kRq => Tape_append_L3_v (Z := (1, 0, 0, kpT, none, (wTape y.1 y.2 end_t at_t fault_t), 0, 0)) (cells := 0) (slots := 0) (Nat.le_refl _) (Nat.le_refl _) (Nat.le_refl _) sq yq hq kIq (fun r e => kRq r e)) hx ?_
  show V mTape_append (1, 0, 0, kpT, none, (wTape y.1 y.2 end_t at_t fault_t), 0, 0) 0 0 51 [none, none, none] [] (wTape x1.1 x1.2 end_t at_t fault_t)
  replace h := Option.some.inj h
  subst h
  exact V.vret rfl (Nat.le_refl _) (Nat.le_refl _) (by decide +kernel)

set_option maxHeartbeats 4000000 in
set_option maxRecDepth 20000 in
theorem Tape_holds_J22_v {bytes_t : Nat → Int32} {length_t : Int32} {end_t : Int32} {at_t : Int32} {fault_t : Int32}  (y : Int32) (h : Tape_holds_J22 length_t = some y)  :
    V mTape_holds (1, 0, 0, kpT, some (.int y), (wTape bytes_t length_t end_t at_t fault_t), 0, 0) 0 0 22 [none, none, none, none] [] (wTape bytes_t length_t end_t at_t fault_t) := by
  unfold Tape_holds_J22 at h
  refine V.blk [(.iconst 0, 0, 0, 0, 0)] (by decide +kernel) (pc' := 23) (l' := [none, none, none, none]) (st' := [.int 0]) (hs' := (wTape bytes_t length_t end_t at_t fault_t)) rfl trivial rfl ?_
  replace h := Option.some.inj h
  subst h
  exact V.zret (Or.inl rfl) rfl (Nat.le_refl _) (Nat.le_refl _) (by decide +kernel)

set_option maxHeartbeats 4000000 in
set_option maxRecDepth 20000 in
theorem Tape_holds_c {bytes_t : Nat → Int32} {length_t : Int32} {end_t : Int32} {at_t : Int32} {fault_t : Int32} {a1 : Int32} {a2 : Int32} {a3 : Int32} {y : Int32} (h : Tape_holds length_t a1 a2 a3 = some y) :
    C mTape_holds 1 0 0 kpT [.ref 0, .int a1, .int a2, .int a3] (wTape bytes_t length_t end_t at_t fault_t) (some (.int y)) (wTape bytes_t length_t end_t at_t fault_t) := by
  refine C.of rfl rfl (Nat.le_of_ble_eq_true rfl) rfl rfl ?_
  show V mTape_holds (1, 0, 0, kpT, some (.int y), (wTape bytes_t length_t end_t at_t fault_t), 0, 0) 0 0 0 [some (.ref 0), some (.int a1), some (.int a2), some (.int a3)] [] (wTape bytes_t length_t end_t at_t fault_t)
  unfold Tape_holds at h
  refine V.blk [(.iload_n 1, 0, 0, 0, 0), (.iload_n 2, 0, 0, 0, 0)] (by decide +kernel) (pc' := 2) (l' := [some (.ref 0), some (.int a1), some (.int a2), some (.int a3)]) (st' := [.int a2, .int a1]) (hs' := (wTape bytes_t length_t end_t at_t fault_t)) rfl trivial rfl ?_
  refine V.ic_lt (tgt := 22) 20 (by decide +kernel) (by decide +kernel) (fun c3 => ?_) (fun c3 => ?_)
  · replace h := if_t h c3
    refine V.weak [false, false, false, false] (l' := [none, none, none, none]) rfl rfl ?_
    exact Tape_holds_J22_v y h
  · replace h := if_f h c3
    refine V.blk [(.iload_n 1, 0, 0, 0, 0), (.iload_n 3, 0, 0, 0, 0)] (by decide +kernel) (pc' := 7) (l' := [some (.ref 0), some (.int a1), some (.int a2), some (.int a3)]) (st' := [.int a3, .int a1]) (hs' := (wTape bytes_t length_t end_t at_t fault_t)) rfl trivial rfl ?_
    refine V.ic_gt (tgt := 22) 15 (by decide +kernel) (by decide +kernel) (fun c2 => ?_) (fun c2 => ?_)
    · replace h := if_t h c2
      refine V.blk [(.iload_n 1, 0, 0, 0, 0), (.aload_n 0, 0, 0, 0, 0), (.getfield 15, 10, 1, 0, 0)] (by decide +kernel) (pc' := 15) (l' := [some (.ref 0), some (.int a1), some (.int a2), some (.int a3)]) (st' := [.int length_t, .int a1]) (hs' := (wTape bytes_t length_t end_t at_t fault_t)) rfl trivial rfl ?_
      refine V.ic_gt (tgt := 22) 7 (by decide +kernel) (by decide +kernel) (fun c1 => ?_) (fun c1 => ?_)
      · replace h := if_t h c1
        refine V.blk [(.iconst 1, 0, 0, 0, 1), (.goto 4, 23, 0, 0, 0)] (by decide +kernel) (pc' := 23) (l' := [some (.ref 0), some (.int a1), some (.int a2), some (.int a3)]) (st' := [.int 1]) (hs' := (wTape bytes_t length_t end_t at_t fault_t)) rfl trivial rfl ?_
        replace h := Option.some.inj h
        subst h
        exact V.zret (Or.inr rfl) rfl (Nat.le_refl _) (Nat.le_refl _) (by decide +kernel)
      · replace h := if_f h c1
        refine V.weak [false, false, false, false] (l' := [none, none, none, none]) rfl rfl ?_
        exact Tape_holds_J22_v y h
    · replace h := if_f h c2
      refine V.weak [false, false, false, false] (l' := [none, none, none, none]) rfl rfl ?_
      exact Tape_holds_J22_v y h

set_option maxHeartbeats 4000000 in
set_option maxRecDepth 20000 in
theorem Tape_begin_c {bytes_t : Nat → Int32} {length_t : Int32} {end_t : Int32} {at_t : Int32} {fault_t : Int32} {a1 : Int32} {y : Int32 × Int32 × Int32 × Int32} (h : Tape_begin length_t end_t at_t fault_t a1 = some y) :
    C mTape_begin 1 0 0 kpT [.ref 0, .int a1] (wTape bytes_t length_t end_t at_t fault_t) none (wTape bytes_t y.1 y.2.1 y.2.2.1 y.2.2.2) := by
  refine C.of rfl rfl (Nat.le_of_ble_eq_true rfl) rfl rfl ?_
  show V mTape_begin (1, 0, 0, kpT, none, (wTape bytes_t y.1 y.2.1 y.2.2.1 y.2.2.2), 0, 0) 0 0 0 [some (.ref 0), some (.int a1)] [] (wTape bytes_t length_t end_t at_t fault_t)
  unfold Tape_begin at h
  refine V.blk [(.aload_n 0, 0, 0, 0, 0), (.iload_n 1, 0, 0, 0, 0), (.putfield 19, 10, 2, 0, 0), (.aload_n 0, 0, 0, 0, 0), (.iconst 0, 0, 0, 0, 0), (.putfield 22, 10, 3, 0, 0), (.aload_n 0, 0, 0, 0, 0), (.iconst 0, 0, 0, 0, 0), (.putfield 25, 10, 4, 0, 0), (.aload_n 0, 0, 0, 0, 0), (.iconst 0, 0, 0, 0, 0), (.putfield 15, 10, 1, 0, 0)] (by decide +kernel) (pc' := 20) (l' := [some (.ref 0), some (.int a1)]) (st' := []) (hs' := (wTape bytes_t 0 a1 0 0)) rfl trivial rfl ?_
  replace h := Option.some.inj h
  subst h
  exact V.vret rfl (Nat.le_refl _) (Nat.le_refl _) (by decide +kernel)

set_option maxHeartbeats 4000000 in
set_option maxRecDepth 20000 in
theorem Tape_byteAt_J30_v {bytes_t : Nat → Int32} {length_t : Int32} {end_t : Int32} {at_t : Int32} {fault_t : Int32}  (y : Int32) (h : Tape_byteAt_J30 bytes_t end_t = some y)  :
    V mTape_byteAt (1, 0, 0, kpT, some (.int y), (wTape bytes_t length_t end_t at_t fault_t), 0, 0) 0 0 30 [none, none] [] (wTape bytes_t length_t end_t at_t fault_t) := by
  unfold Tape_byteAt_J30 at h
  refine V.blk [(.iconst (-1), 0, 0, 0, (-1))] (by decide +kernel) (pc' := 31) (l' := [none, none]) (st' := [.int (-1)]) (hs' := (wTape bytes_t length_t end_t at_t fault_t)) rfl trivial rfl ?_
  replace h := Option.some.inj h
  subst h
  exact V.iret rfl (Nat.le_refl _) (Nat.le_refl _) (by decide +kernel)

set_option maxHeartbeats 4000000 in
set_option maxRecDepth 20000 in
theorem Tape_byteAt_c {bytes_t : Nat → Int32} {length_t : Int32} {end_t : Int32} {at_t : Int32} {fault_t : Int32} {a1 : Int32} {y : Int32} (h : Tape_byteAt bytes_t end_t a1 = some y) :
    C mTape_byteAt 1 0 0 kpT [.ref 0, .int a1] (wTape bytes_t length_t end_t at_t fault_t) (some (.int y)) (wTape bytes_t length_t end_t at_t fault_t) := by
  refine C.of rfl rfl (Nat.le_of_ble_eq_true rfl) rfl rfl ?_
  show V mTape_byteAt (1, 0, 0, kpT, some (.int y), (wTape bytes_t length_t end_t at_t fault_t), 0, 0) 0 0 0 [some (.ref 0), some (.int a1)] [] (wTape bytes_t length_t end_t at_t fault_t)
  unfold Tape_byteAt at h
  refine V.blk [(.iload_n 1, 0, 0, 0, 0)] (by decide +kernel) (pc' := 1) (l' := [some (.ref 0), some (.int a1)]) (st' := [.int a1]) (hs' := (wTape bytes_t length_t end_t at_t fault_t)) rfl trivial rfl ?_
  refine V.if_lt (tgt := 30) 29 (by decide +kernel) (by decide +kernel) (fun c4 => ?_) (fun c4 => ?_)
  · replace h := if_t h c4
    refine V.weak [false, false] (l' := [none, none]) rfl rfl ?_
    exact Tape_byteAt_J30_v y h
  · replace h := if_f h c4
    refine V.blk [(.iload_n 1, 0, 0, 0, 0), (.aload_n 0, 0, 0, 0, 0), (.getfield 19, 10, 2, 0, 0)] (by decide +kernel) (pc' := 9) (l' := [some (.ref 0), some (.int a1)]) (st' := [.int end_t, .int a1]) (hs' := (wTape bytes_t length_t end_t at_t fault_t)) rfl trivial rfl ?_
    refine V.ic_ge (tgt := 30) 21 (by decide +kernel) (by decide +kernel) (fun c3 => ?_) (fun c3 => ?_)
    · replace h := if_t h c3
      refine V.blk [(.iload_n 1, 0, 0, 0, 0), (.aload_n 0, 0, 0, 0, 0), (.getfield 9, 10, 0, 0, 0), (.arraylength, 0, 0, 0, 0)] (by decide +kernel) (pc' := 18) (l' := [some (.ref 0), some (.int a1)]) (st' := [.int 260, .int a1]) (hs' := (wTape bytes_t length_t end_t at_t fault_t)) rfl trivial rfl ?_
      refine V.ic_ge (tgt := 30) 12 (by decide +kernel) (by decide +kernel) (fun c2 => ?_) (fun c2 => ?_)
      · replace h := if_t h c2
        obtain ⟨g1, h⟩ := gd_some h
        refine V.blk [(.aload_n 0, 0, 0, 0, 0), (.getfield 9, 10, 0, 0, 0), (.iload_n 1, 0, 0, 0, 0), (.iaload, 0, 0, 0, 0), (.goto 4, 31, 0, 0, 0)] (by decide +kernel) (pc' := 31) (l' := [some (.ref 0), some (.int a1)]) (st' := [.int (bytes_t (a1 : Int32).toNatClampNeg)]) (hs' := (wTape bytes_t length_t end_t at_t fault_t)) rfl ⟨g1, trivial⟩ rfl ?_
        replace h := Option.some.inj h
        subst h
        exact V.iret rfl (Nat.le_refl _) (Nat.le_refl _) (by decide +kernel)
      · replace h := if_f h c2
        refine V.weak [false, false] (l' := [none, none]) rfl rfl ?_
        exact Tape_byteAt_J30_v y h
    · replace h := if_f h c3
      refine V.weak [false, false] (l' := [none, none]) rfl rfl ?_
      exact Tape_byteAt_J30_v y h

set_option maxHeartbeats 4000000 in
set_option maxRecDepth 20000 in
theorem Tape_peek_J35_v {bytes_t : Nat → Int32} {length_t : Int32} {end_t : Int32} {at_t : Int32} {fault_t : Int32}  (y : Int32) (h : Tape_peek_J35 bytes_t end_t at_t = some y)  :
    V mTape_peek (1, 0, 0, kpT, some (.int y), (wTape bytes_t length_t end_t at_t fault_t), 0, 0) 0 0 35 [none] [] (wTape bytes_t length_t end_t at_t fault_t) := by
  unfold Tape_peek_J35 at h
  refine V.blk [(.iconst (-1), 0, 0, 0, (-1))] (by decide +kernel) (pc' := 36) (l' := [none]) (st' := [.int (-1)]) (hs' := (wTape bytes_t length_t end_t at_t fault_t)) rfl trivial rfl ?_
  replace h := Option.some.inj h
  subst h
  exact V.iret rfl (Nat.le_refl _) (Nat.le_refl _) (by decide +kernel)

set_option maxHeartbeats 4000000 in
set_option maxRecDepth 20000 in
theorem Tape_peek_c {bytes_t : Nat → Int32} {length_t : Int32} {end_t : Int32} {at_t : Int32} {fault_t : Int32}  {y : Int32} (h : Tape_peek bytes_t end_t at_t = some y) :
    C mTape_peek 1 0 0 kpT [.ref 0] (wTape bytes_t length_t end_t at_t fault_t) (some (.int y)) (wTape bytes_t length_t end_t at_t fault_t) := by
  refine C.of rfl rfl (Nat.le_of_ble_eq_true rfl) rfl rfl ?_
  show V mTape_peek (1, 0, 0, kpT, some (.int y), (wTape bytes_t length_t end_t at_t fault_t), 0, 0) 0 0 0 [some (.ref 0)] [] (wTape bytes_t length_t end_t at_t fault_t)
  unfold Tape_peek at h
  refine V.blk [(.aload_n 0, 0, 0, 0, 0), (.getfield 22, 10, 3, 0, 0), (.aload_n 0, 0, 0, 0, 0), (.getfield 19, 10, 2, 0, 0)] (by decide +kernel) (pc' := 8) (l' := [some (.ref 0)]) (st' := [.int end_t, .int at_t]) (hs' := (wTape bytes_t length_t end_t at_t fault_t)) rfl trivial rfl ?_
  refine V.ic_ge (tgt := 35) 27 (by decide +kernel) (by decide +kernel) (fun c3 => ?_) (fun c3 => ?_)
  · replace h := if_t h c3
    refine V.blk [(.aload_n 0, 0, 0, 0, 0), (.getfield 22, 10, 3, 0, 0), (.aload_n 0, 0, 0, 0, 0), (.getfield 9, 10, 0, 0, 0), (.arraylength, 0, 0, 0, 0)] (by decide +kernel) (pc' := 20) (l' := [some (.ref 0)]) (st' := [.int 260, .int at_t]) (hs' := (wTape bytes_t length_t end_t at_t fault_t)) rfl trivial rfl ?_
    refine V.ic_ge (tgt := 35) 15 (by decide +kernel) (by decide +kernel) (fun c2 => ?_) (fun c2 => ?_)
    · replace h := if_t h c2
      obtain ⟨g1, h⟩ := gd_some h
      refine V.blk [(.aload_n 0, 0, 0, 0, 0), (.getfield 9, 10, 0, 0, 0), (.aload_n 0, 0, 0, 0, 0), (.getfield 22, 10, 3, 0, 0), (.iaload, 0, 0, 0, 0), (.goto 4, 36, 0, 0, 0)] (by decide +kernel) (pc' := 36) (l' := [some (.ref 0)]) (st' := [.int (bytes_t (at_t : Int32).toNatClampNeg)]) (hs' := (wTape bytes_t length_t end_t at_t fault_t)) rfl ⟨g1, trivial⟩ rfl ?_
      replace h := Option.some.inj h
      subst h
      exact V.iret rfl (Nat.le_refl _) (Nat.le_refl _) (by decide +kernel)
    · replace h := if_f h c2
      refine V.weak [false] (l' := [none]) rfl rfl ?_
      exact Tape_peek_J35_v y h
  · replace h := if_f h c3
    refine V.weak [false] (l' := [none]) rfl rfl ?_
    exact Tape_peek_J35_v y h

set_option maxHeartbeats 4000000 in
set_option maxRecDepth 20000 in
theorem Tape_atEnd_c {bytes_t : Nat → Int32} {length_t : Int32} {end_t : Int32} {at_t : Int32} {fault_t : Int32}  {y : Int32} (h : Tape_atEnd end_t at_t = some y) :
    C mTape_atEnd 1 0 0 kpT [.ref 0] (wTape bytes_t length_t end_t at_t fault_t) (some (.int y)) (wTape bytes_t length_t end_t at_t fault_t) := by
  refine C.of rfl rfl (Nat.le_of_ble_eq_true rfl) rfl rfl ?_
  show V mTape_atEnd (1, 0, 0, kpT, some (.int y), (wTape bytes_t length_t end_t at_t fault_t), 0, 0) 0 0 0 [some (.ref 0)] [] (wTape bytes_t length_t end_t at_t fault_t)
  unfold Tape_atEnd at h
  refine V.blk [(.aload_n 0, 0, 0, 0, 0), (.getfield 22, 10, 3, 0, 0), (.aload_n 0, 0, 0, 0, 0), (.getfield 19, 10, 2, 0, 0)] (by decide +kernel) (pc' := 8) (l' := [some (.ref 0)]) (st' := [.int end_t, .int at_t]) (hs' := (wTape bytes_t length_t end_t at_t fault_t)) rfl trivial rfl ?_
  refine V.ic_lt (tgt := 15) 7 (by decide +kernel) (by decide +kernel) (fun c1 => ?_) (fun c1 => ?_)
  · replace h := if_t h c1
    refine V.blk [(.iconst 0, 0, 0, 0, 0)] (by decide +kernel) (pc' := 16) (l' := [some (.ref 0)]) (st' := [.int 0]) (hs' := (wTape bytes_t length_t end_t at_t fault_t)) rfl trivial rfl ?_
    replace h := Option.some.inj h
    subst h
    exact V.zret (Or.inl rfl) rfl (Nat.le_refl _) (Nat.le_refl _) (by decide +kernel)
  · replace h := if_f h c1
    refine V.blk [(.iconst 1, 0, 0, 0, 1), (.goto 4, 16, 0, 0, 0)] (by decide +kernel) (pc' := 16) (l' := [some (.ref 0)]) (st' := [.int 1]) (hs' := (wTape bytes_t length_t end_t at_t fault_t)) rfl trivial rfl ?_
    replace h := Option.some.inj h
    subst h
    exact V.zret (Or.inr rfl) rfl (Nat.le_refl _) (Nat.le_refl _) (by decide +kernel)

set_option maxHeartbeats 4000000 in
set_option maxRecDepth 20000 in
theorem Tape_skip_c {bytes_t : Nat → Int32} {length_t : Int32} {end_t : Int32} {at_t : Int32} {fault_t : Int32}  {y : Int32} (h : Tape_skip at_t = some y) :
    C mTape_skip 1 0 0 kpT [.ref 0] (wTape bytes_t length_t end_t at_t fault_t) none (wTape bytes_t length_t end_t y fault_t) := by
  refine C.of rfl rfl (Nat.le_of_ble_eq_true rfl) rfl rfl ?_
  show V mTape_skip (1, 0, 0, kpT, none, (wTape bytes_t length_t end_t y fault_t), 0, 0) 0 0 0 [some (.ref 0)] [] (wTape bytes_t length_t end_t at_t fault_t)
  unfold Tape_skip at h
  refine V.blk [(.aload_n 0, 0, 0, 0, 0), (.dup, 0, 0, 0, 0), (.getfield 22, 10, 3, 0, 0), (.iconst 1, 0, 0, 0, 1), (.iadd, 0, 0, 0, 0), (.putfield 22, 10, 3, 0, 0)] (by decide +kernel) (pc' := 10) (l' := [some (.ref 0)]) (st' := []) (hs' := (wTape bytes_t length_t end_t (at_t + 1) fault_t)) rfl trivial rfl ?_
  replace h := Option.some.inj h
  subst h
  exact V.vret rfl (Nat.le_refl _) (Nat.le_refl _) (by decide +kernel)

set_option maxHeartbeats 4000000 in
set_option maxRecDepth 20000 in
theorem Tape_fail_c {bytes_t : Nat → Int32} {length_t : Int32} {end_t : Int32} {at_t : Int32} {fault_t : Int32} {a1 : Int32} {a2 : Int32} {y : Int32 × Int32} (h : Tape_fail end_t fault_t a1 a2 = some y) :
    C mTape_fail 1 0 0 kpT [.ref 0, .int a1, .int a2] (wTape bytes_t length_t end_t at_t fault_t) none (wTape bytes_t length_t y.1 at_t y.2) := by
  refine C.of rfl rfl (Nat.le_of_ble_eq_true rfl) rfl rfl ?_
  show V mTape_fail (1, 0, 0, kpT, none, (wTape bytes_t length_t y.1 at_t y.2), 0, 0) 0 0 0 [some (.ref 0), some (.int a1), some (.int a2)] [] (wTape bytes_t length_t end_t at_t fault_t)
  unfold Tape_fail at h
  refine V.blk [(.aload_n 0, 0, 0, 0, 0), (.getfield 25, 10, 4, 0, 0)] (by decide +kernel) (pc' := 4) (l' := [some (.ref 0), some (.int a1), some (.int a2)]) (st' := [.int fault_t]) (hs' := (wTape bytes_t length_t end_t at_t fault_t)) rfl trivial rfl ?_
  refine V.if_ne (tgt := 23) 19 (by decide +kernel) (by decide +kernel) (fun c1 => ?_) (fun c1 => ?_)
  · replace h := if_t h c1
    refine V.blk [(.aload_n 0, 0, 0, 0, 0), (.sipush (-1000), 0, 0, 0, (-1000)), (.iload_n 1, 0, 0, 0, 0), (.imul, 0, 0, 0, 0), (.iload_n 2, 0, 0, 0, 0), (.isub, 0, 0, 0, 0), (.putfield 25, 10, 4, 0, 0), (.aload_n 0, 0, 0, 0, 0), (.iconst 0, 0, 0, 0, 0), (.putfield 19, 10, 2, 0, 0)] (by decide +kernel) (pc' := 23) (l' := [some (.ref 0), some (.int a1), some (.int a2)]) (st' := []) (hs' := (wTape bytes_t length_t 0 at_t (((-1000) * a1) - a2))) rfl trivial rfl ?_
    replace h := Option.some.inj h
    subst h
    exact V.vret rfl (Nat.le_refl _) (Nat.le_refl _) (by decide +kernel)
  · replace h := if_f h c1
    replace h := Option.some.inj h
    subst h
    exact V.vret rfl (Nat.le_refl _) (Nat.le_refl _) (by decide +kernel)

set_option maxHeartbeats 4000000 in
set_option maxRecDepth 20000 in
theorem Tape_take_c {bytes_t : Nat → Int32} {length_t : Int32} {end_t : Int32} {at_t : Int32} {fault_t : Int32} {a1 : Int32} {y : Int32 × Int32 × Int32 × Int32} (h : Tape_take bytes_t end_t at_t fault_t a1 = some y) :
    C mTape_take 2 0 0 kpT [.ref 0, .int a1] (wTape bytes_t length_t end_t at_t fault_t) (some (.int y.1)) (wTape bytes_t length_t y.2.1 y.2.2.1 y.2.2.2) := by
  refine C.of rfl rfl (Nat.le_of_ble_eq_true rfl) rfl rfl ?_
  show V mTape_take (2, 0, 0, kpT, some (.int y.1), (wTape bytes_t length_t y.2.1 y.2.2.1 y.2.2.2), 0, 0) 0 0 0 [some (.ref 0), some (.int a1)] [] (wTape bytes_t length_t end_t at_t fault_t)
  unfold Tape_take at h
  refine V.blk [(.aload_n 0, 0, 0, 0, 0)] (by decide +kernel) (pc' := 1) (l' := [some (.ref 0), some (.int a1)]) (st' := [.ref 0]) (hs' := (wTape bytes_t length_t end_t at_t fault_t)) rfl trivial rfl ?_
  obtain ⟨x1, hx, h⟩ := ob_some h
  refine V.callV (ρ := fun j => j) (j0 := 0) (as' := []) (rest := []) (hc := (wTape bytes_t length_t end_t at_t fault_t)) (hc' := (wTape bytes_t length_t end_t at_t fault_t)) (hs' := (wTape bytes_t length_t end_t at_t fault_t)) (Tape_peek_c hx) ok_mTape_peek lk10_28 rfl (Sub.self _) (Aft.self rfl) ⟨_, _, rfl, by decide, rfl⟩ (Nat.le_trans (by decide : 1 + 1 ≤ 2) (Nat.le_refl _)) (Nat.le_refl _) (Nat.le_refl _) (Nat.le_of_ble_eq_true rfl) (by decide +kernel) ?_
  show V mTape_take (2, 0, 0, kpT, some (.int y.1), (wTape bytes_t length_t y.2.1 y.2.2.1 y.2.2.2), 0, 0) 0 0 4 [some (.ref 0), some (.int a1)] [.int x1] (wTape bytes_t length_t end_t at_t fault_t)
  refine V.blk [(.iload_n 1, 0, 0, 0, 0)] (by decide +kernel) (pc' := 5) (l' := [some (.ref 0), some (.int a1)]) (st' := [.int a1, .int x1]) (hs' := (wTape bytes_t length_t end_t at_t fault_t)) rfl trivial rfl ?_
  refine V.ic_eq (tgt := 19) 14 (by decide +kernel) (by decide +kernel) (fun c3 => ?_) (fun c3 => ?_)
  · replace h := if_t h c3
    refine V.blk [(.aload_n 0, 0, 0, 0, 0), (.dup, 0, 0, 0, 0), (.getfield 22, 10, 3, 0, 0), (.iconst 1, 0, 0, 0, 1), (.iadd, 0, 0, 0, 0), (.putfield 22, 10, 3, 0, 0), (.iconst 1, 0, 0, 0, 1)] (by decide +kernel) (pc' := 30) (l' := [some (.ref 0), some (.int a1)]) (st' := [.int 1]) (hs' := (wTape bytes_t length_t end_t (at_t + 1) fault_t)) rfl trivial rfl ?_
    replace h := Option.some.inj h
    subst h
    exact V.zret (Or.inr rfl) rfl (Nat.le_refl _) (Nat.le_refl _) (by decide +kernel)
  · replace h := if_f h c3
    refine V.blk [(.aload_n 0, 0, 0, 0, 0), (.iconst 1, 0, 0, 0, 1), (.aload_n 0, 0, 0, 0, 0), (.getfield 22, 10, 3, 0, 0)] (by decide +kernel) (pc' := 14) (l' := [some (.ref 0), some (.int a1)]) (st' := [.int at_t, .int 1, .ref 0]) (hs' := (wTape bytes_t length_t end_t at_t fault_t)) rfl trivial rfl ?_
    obtain ⟨x2, hx, h⟩ := ob_some h
    refine V.callV (ρ := fun j => j) (j0 := 0) (as' := [.int 1, .int at_t]) (rest := []) (hc := (wTape bytes_t length_t end_t at_t fault_t)) (hc' := (wTape bytes_t length_t x2.1 at_t x2.2)) (hs' := (wTape bytes_t length_t x2.1 at_t x2.2)) (Tape_fail_c hx) ok_mTape_fail lk10_32 rfl (Sub.self _) (Aft.self rfl) ⟨_, _, rfl, by decide, rfl⟩ (Nat.le_trans (by decide : 1 + 1 ≤ 2) (Nat.le_refl _)) (Nat.le_refl _) (Nat.le_refl _) (Nat.le_of_ble_eq_true rfl) (by decide +kernel) ?_
    show V mTape_take (2, 0, 0, kpT, some (.int y.1), (wTape bytes_t length_t y.2.1 y.2.2.1 y.2.2.2), 0, 0) 0 0 17 [some (.ref 0), some (.int a1)] [] (wTape bytes_t length_t x2.1 at_t x2.2)
    refine V.blk [(.iconst 0, 0, 0, 0, 0)] (by decide +kernel) (pc' := 18) (l' := [some (.ref 0), some (.int a1)]) (st' := [.int 0]) (hs' := (wTape bytes_t length_t x2.1 at_t x2.2)) rfl trivial rfl ?_
    replace h := Option.some.inj h
    subst h
    exact V.zret (Or.inl rfl) rfl (Nat.le_refl _) (Nat.le_refl _) (by decide +kernel)

set_option maxHeartbeats 4000000 in
set_option maxRecDepth 20000 in
theorem Tape_letter_J18_v {bytes_t : Nat → Int32} {length_t : Int32} {end_t : Int32} {at_t : Int32} {fault_t : Int32}  (y : Int32 × Int32 × Int32 × Int32) (h : Tape_letter_J18 bytes_t end_t at_t fault_t = some y)  :
    V mTape_letter (2, 0, 0, kpT, some (.int y.1), (wTape bytes_t length_t y.2.1 y.2.2.1 y.2.2.2), 0, 0) 0 0 18 [some (.ref 0), none] [] (wTape bytes_t length_t end_t at_t fault_t) := by
  unfold Tape_letter_J18 at h
  refine V.blk [(.aload_n 0, 0, 0, 0, 0), (.iconst 1, 0, 0, 0, 1), (.aload_n 0, 0, 0, 0, 0), (.getfield 22, 10, 3, 0, 0)] (by decide +kernel) (pc' := 24) (l' := [some (.ref 0), none]) (st' := [.int at_t, .int 1, .ref 0]) (hs' := (wTape bytes_t length_t end_t at_t fault_t)) rfl trivial rfl ?_
  obtain ⟨x1, hx, h⟩ := ob_some h
  refine V.callV (ρ := fun j => j) (j0 := 0) (as' := [.int 1, .int at_t]) (rest := []) (hc := (wTape bytes_t length_t end_t at_t fault_t)) (hc' := (wTape bytes_t length_t x1.1 at_t x1.2)) (hs' := (wTape bytes_t length_t x1.1 at_t x1.2)) (Tape_fail_c hx) ok_mTape_fail lk10_32 rfl (Sub.self _) (Aft.self rfl) ⟨_, _, rfl, by decide, rfl⟩ (Nat.le_trans (by decide : 1 + 1 ≤ 2) (Nat.le_refl _)) (Nat.le_refl _) (Nat.le_refl _) (Nat.le_of_ble_eq_true rfl) (by decide +kernel) ?_
  show V mTape_letter (2, 0, 0, kpT, some (.int y.1), (wTape bytes_t length_t y.2.1 y.2.2.1 y.2.2.2), 0, 0) 0 0 27 [some (.ref 0), none] [] (wTape bytes_t length_t x1.1 at_t x1.2)
  refine V.blk [(.iconst (-1), 0, 0, 0, (-1))] (by decide +kernel) (pc' := 28) (l' := [some (.ref 0), none]) (st' := [.int (-1)]) (hs' := (wTape bytes_t length_t x1.1 at_t x1.2)) rfl trivial rfl ?_
  replace h := Option.some.inj h
  subst h
  exact V.iret rfl (Nat.le_refl _) (Nat.le_refl _) (by decide +kernel)

set_option maxHeartbeats 4000000 in
set_option maxRecDepth 20000 in
theorem Tape_letter_c {bytes_t : Nat → Int32} {length_t : Int32} {end_t : Int32} {at_t : Int32} {fault_t : Int32}  {y : Int32 × Int32 × Int32 × Int32} (h : Tape_letter bytes_t end_t at_t fault_t = some y) :
    C mTape_letter 2 0 0 kpT [.ref 0] (wTape bytes_t length_t end_t at_t fault_t) (some (.int y.1)) (wTape bytes_t length_t y.2.1 y.2.2.1 y.2.2.2) := by
  refine C.of rfl rfl (Nat.le_of_ble_eq_true rfl) rfl rfl ?_
  show V mTape_letter (2, 0, 0, kpT, some (.int y.1), (wTape bytes_t length_t y.2.1 y.2.2.1 y.2.2.2), 0, 0) 0 0 0 [some (.ref 0), none] [] (wTape bytes_t length_t end_t at_t fault_t)
  unfold Tape_letter at h
  refine V.blk [(.aload_n 0, 0, 0, 0, 0)] (by decide +kernel) (pc' := 1) (l' := [some (.ref 0), none]) (st' := [.ref 0]) (hs' := (wTape bytes_t length_t end_t at_t fault_t)) rfl trivial rfl ?_
  obtain ⟨x1, hx, h⟩ := ob_some h
  refine V.callV (ρ := fun j => j) (j0 := 0) (as' := []) (rest := []) (hc := (wTape bytes_t length_t end_t at_t fault_t)) (hc' := (wTape bytes_t length_t end_t at_t fault_t)) (hs' := (wTape bytes_t length_t end_t at_t fault_t)) (Tape_peek_c hx) ok_mTape_peek lk10_28 rfl (Sub.self _) (Aft.self rfl) ⟨_, _, rfl, by decide, rfl⟩ (Nat.le_trans (by decide : 1 + 1 ≤ 2) (Nat.le_refl _)) (Nat.le_refl _) (Nat.le_refl _) (Nat.le_of_ble_eq_true rfl) (by decide +kernel) ?_
  show V mTape_letter (2, 0, 0, kpT, some (.int y.1), (wTape bytes_t length_t y.2.1 y.2.2.1 y.2.2.2), 0, 0) 0 0 4 [some (.ref 0), none] [.int x1] (wTape bytes_t length_t end_t at_t fault_t)
  refine V.blk [(.bipush 97, 0, 0, 0, 97), (.isub, 0, 0, 0, 0), (.istore_n 1, 0, 0, 0, 0), (.iload_n 1, 0, 0, 0, 0)] (by decide +kernel) (pc' := 9) (l' := [some (.ref 0), some (.int (x1 - 97))]) (st' := [.int (x1 - 97)]) (hs' := (wTape bytes_t length_t end_t at_t fault_t)) rfl trivial rfl ?_
  refine V.if_lt (tgt := 18) 9 (by decide +kernel) (by decide +kernel) (fun c3 => ?_) (fun c3 => ?_)
  · replace h := if_t h c3
    refine V.weak [true, false] (l' := [some (.ref 0), none]) rfl rfl ?_
    exact Tape_letter_J18_v y h
  · replace h := if_f h c3
    refine V.blk [(.iload_n 1, 0, 0, 0, 0), (.bipush 12, 0, 0, 0, 12)] (by decide +kernel) (pc' := 15) (l' := [some (.ref 0), some (.int (x1 - 97))]) (st' := [.int 12, .int (x1 - 97)]) (hs' := (wTape bytes_t length_t end_t at_t fault_t)) rfl trivial rfl ?_
    refine V.ic_lt (tgt := 29) 14 (by decide +kernel) (by decide +kernel) (fun c2 => ?_) (fun c2 => ?_)
    · replace h := if_t h c2
      refine V.blk [(.aload_n 0, 0, 0, 0, 0), (.dup, 0, 0, 0, 0), (.getfield 22, 10, 3, 0, 0), (.iconst 1, 0, 0, 0, 1), (.iadd, 0, 0, 0, 0), (.putfield 22, 10, 3, 0, 0), (.iload_n 1, 0, 0, 0, 0)] (by decide +kernel) (pc' := 40) (l' := [some (.ref 0), some (.int (x1 - 97))]) (st' := [.int (x1 - 97)]) (hs' := (wTape bytes_t length_t end_t (at_t + 1) fault_t)) rfl trivial rfl ?_
      replace h := Option.some.inj h
      subst h
      exact V.iret rfl (Nat.le_refl _) (Nat.le_refl _) (by decide +kernel)
    · replace h := if_f h c2
      refine V.weak [true, false] (l' := [some (.ref 0), none]) rfl rfl ?_
      exact Tape_letter_J18_v y h

set_option maxHeartbeats 4000000 in
set_option maxRecDepth 20000 in
theorem Tape_isDigit_J16_v   (y : Int32) (h : Tape_isDigit_J16  = some y)  :
    V mTape_isDigit (1, 0, 0, kpT, some (.int y), (wNone ), 0, 0) 0 0 16 [none] [] (wNone ) := by
  unfold Tape_isDigit_J16 at h
  refine V.blk [(.iconst 0, 0, 0, 0, 0)] (by decide +kernel) (pc' := 17) (l' := [none]) (st' := [.int 0]) (hs' := (wNone )) rfl trivial rfl ?_
  replace h := Option.some.inj h
  subst h
  exact V.zret (Or.inl rfl) rfl (Nat.le_refl _) (Nat.le_refl _) (by decide +kernel)

set_option maxHeartbeats 4000000 in
set_option maxRecDepth 20000 in
theorem Tape_isDigit_c  {a0 : Int32} {y : Int32} (h : Tape_isDigit a0 = some y) :
    C mTape_isDigit 1 0 0 kpT [.int a0] (wNone ) (some (.int y)) (wNone ) := by
  refine C.of rfl rfl (Nat.le_of_ble_eq_true rfl) rfl rfl ?_
  show V mTape_isDigit (1, 0, 0, kpT, some (.int y), (wNone ), 0, 0) 0 0 0 [some (.int a0)] [] (wNone )
  unfold Tape_isDigit at h
  refine V.blk [(.iload_n 0, 0, 0, 0, 0), (.bipush 48, 0, 0, 0, 48)] (by decide +kernel) (pc' := 3) (l' := [some (.int a0)]) (st' := [.int 48, .int a0]) (hs' := (wNone )) rfl trivial rfl ?_
  refine V.ic_lt (tgt := 16) 13 (by decide +kernel) (by decide +kernel) (fun c2 => ?_) (fun c2 => ?_)
  · replace h := if_t h c2
    refine V.weak [false] (l' := [none]) rfl rfl ?_
    exact Tape_isDigit_J16_v y h
  · replace h := if_f h c2
    refine V.blk [(.iload_n 0, 0, 0, 0, 0), (.bipush 57, 0, 0, 0, 57)] (by decide +kernel) (pc' := 9) (l' := [some (.int a0)]) (st' := [.int 57, .int a0]) (hs' := (wNone )) rfl trivial rfl ?_
    refine V.ic_gt (tgt := 16) 7 (by decide +kernel) (by decide +kernel) (fun c1 => ?_) (fun c1 => ?_)
    · replace h := if_t h c1
      refine V.blk [(.iconst 1, 0, 0, 0, 1), (.goto 4, 17, 0, 0, 0)] (by decide +kernel) (pc' := 17) (l' := [some (.int a0)]) (st' := [.int 1]) (hs' := (wNone )) rfl trivial rfl ?_
      replace h := Option.some.inj h
      subst h
      exact V.zret (Or.inr rfl) rfl (Nat.le_refl _) (Nat.le_refl _) (by decide +kernel)
    · replace h := if_f h c1
      refine V.weak [false] (l' := [none]) rfl rfl ?_
      exact Tape_isDigit_J16_v y h

set_option maxHeartbeats 4000000 in
set_option maxRecDepth 20000 in
theorem Tape_digits_L10_v {Z : VZ} {cells slots : Nat} (hZ : 2 ≤ Z.1) (hC : cells ≤ Z.2.1) (hL : slots ≤ Z.2.2.1) {bytes_t : Nat → Int32} {length_t : Int32} {end_t : Int32} {fault_t : Int32} {v1 : Int32} {v3 : Int32} (s10 : Int32 × Int32 × Int32) (y : (Int32 × Int32 × Int32) ⊕ (Int32 × Int32)) (h : Tape_digits_L10 v1 v3 bytes_t end_t s10 = some y)  (kI : ∀ s' : Int32 × Int32 × Int32, y = .inl s' → V mTape_digits Z cells slots 10 [some (.ref 0), some (.int v1), some (.int s'.1), some (.int v3), some (.int s'.2.1)] [] (wTape bytes_t length_t end_t s'.2.2 fault_t)) (kR0 : ∀ r : Int32 × Int32, y = .inr r → V mTape_digits Z cells slots 55 [some (.ref 0), none, some (.int r.1), some (.int v3), none] [] (wTape bytes_t length_t end_t r.2 fault_t)) :
    V mTape_digits Z cells slots 10 [some (.ref 0), some (.int v1), some (.int s10.1), some (.int v3), some (.int s10.2.1)] [] (wTape bytes_t length_t end_t s10.2.2 fault_t) := by
  unfold Tape_digits_L10 at h
  refine V.blk [(.iload 4, 0, 0, 0, 0), (.iload_n 1, 0, 0, 0, 0)] (by decide +kernel) (pc' := 13) (l' := [some (.ref 0), some (.int v1), some (.int s10.1), some (.int v3), some (.int s10.2.1)]) (st' := [.int v1, .int s10.2.1]) (hs' := (wTape bytes_t length_t end_t s10.2.2 fault_t)) rfl trivial rfl ?_
  refine V.ic_ge (tgt := 55) 42 (by decide +kernel) (by decide +kernel) (fun c5 => ?_) (fun c5 => ?_)
  · replace h := if_t h c5
    refine V.blk [(.aload_n 0, 0, 0, 0, 0)] (by decide +kernel) (pc' := 17) (l' := [some (.ref 0), some (.int v1), some (.int s10.1), some (.int v3), some (.int s10.2.1)]) (st' := [.ref 0]) (hs' := (wTape bytes_t length_t end_t s10.2.2 fault_t)) rfl trivial rfl ?_
    obtain ⟨x1, hx, h⟩ := ob_some h
    refine V.callV (ρ := fun j => j) (j0 := 0) (as' := []) (rest := []) (hc := (wTape bytes_t length_t end_t s10.2.2 fault_t)) (hc' := (wTape bytes_t length_t end_t s10.2.2 fault_t)) (hs' := (wTape bytes_t length_t end_t s10.2.2 fault_t)) (Tape_peek_c hx) ok_mTape_peek lk10_28 rfl (Sub.self _) (Aft.self rfl) ⟨_, _, rfl, by decide, rfl⟩ (Nat.le_trans (by decide : 1 + 1 ≤ 2) hZ) hC hL (Nat.le_of_ble_eq_true rfl) (by decide +kernel) ?_
    show V mTape_digits Z cells slots 20 [some (.ref 0), some (.int v1), some (.int s10.1), some (.int v3), some (.int s10.2.1)] [.int x1] (wTape bytes_t length_t end_t s10.2.2 fault_t)
    obtain ⟨x2, hx, h⟩ := ob_some h
    refine V.callS (ρ := fun j => [].getD j 0) (as' := [.int x1]) (rest := []) (hc := (wNone )) (hc' := (wNone )) (hs' := (wTape bytes_t length_t end_t s10.2.2 fault_t)) (Tape_isDigit_c hx) ok_mTape_isDigit lk10_36 rfl (Sub.list rfl rfl) (Aft.list rfl rfl rfl rfl) (Nat.le_trans (by decide : 1 + 1 ≤ 2) hZ) hC hL (Nat.le_of_ble_eq_true rfl) (by decide +kernel) ?_
    show V mTape_digits Z cells slots 23 [some (.ref 0), some (.int v1), some (.int s10.1), some (.int v3), some (.int s10.2.1)] [.int x2] (wTape bytes_t length_t end_t s10.2.2 fault_t)
    refine V.if_eq (tgt := 55) 32 (by decide +kernel) (by decide +kernel) (fun c4 => ?_) (fun c4 => ?_)
    · replace h := if_t h c4
      replace h := Option.some.inj h
      subst h
      refine V.weak [true, false, true, true, false] (l' := [some (.ref 0), none, some (.int s10.1), some (.int v3), none]) rfl rfl ?_
      exact kR0 (s10.1, s10.2.2) rfl
    · replace h := if_f h c4
      refine V.blk [(.iload_n 2, 0, 0, 0, 0), (.bipush 10, 0, 0, 0, 10), (.imul, 0, 0, 0, 0), (.aload_n 0, 0, 0, 0, 0)] (by decide +kernel) (pc' := 31) (l' := [some (.ref 0), some (.int v1), some (.int s10.1), some (.int v3), some (.int s10.2.1)]) (st' := [.ref 0, .int (s10.1 * 10)]) (hs' := (wTape bytes_t length_t end_t s10.2.2 fault_t)) rfl trivial rfl ?_
      obtain ⟨x3, hx, h⟩ := ob_some h
      refine V.callV (ρ := fun j => j) (j0 := 0) (as' := []) (rest := [.int (s10.1 * 10)]) (hc := (wTape bytes_t length_t end_t s10.2.2 fault_t)) (hc' := (wTape bytes_t length_t end_t s10.2.2 fault_t)) (hs' := (wTape bytes_t length_t end_t s10.2.2 fault_t)) (Tape_peek_c hx) ok_mTape_peek lk10_28 rfl (Sub.self _) (Aft.self rfl) ⟨_, _, rfl, by decide, rfl⟩ (Nat.le_trans (by decide : 1 + 1 ≤ 2) hZ) hC hL (Nat.le_of_ble_eq_true rfl) (by decide +kernel) ?_
      show V mTape_digits Z cells slots 34 [some (.ref 0), some (.int v1), some (.int s10.1), some (.int v3), some (.int s10.2.1)] [.int x3, .int (s10.1 * 10)] (wTape bytes_t length_t end_t s10.2.2 fault_t)
      refine V.blk [(.iadd, 0, 0, 0, 0), (.bipush 48, 0, 0, 0, 48), (.isub, 0, 0, 0, 0), (.istore_n 2, 0, 0, 0, 0), (.aload_n 0, 0, 0, 0, 0), (.dup, 0, 0, 0, 0), (.getfield 22, 10, 3, 0, 0), (.iconst 1, 0, 0, 0, 1), (.iadd, 0, 0, 0, 0), (.putfield 22, 10, 3, 0, 0), (.iinc 4 1, 0, 0, 0, 1), (.goto (-42), 10, 0, 0, 0)] (by decide +kernel) (pc' := 10) (l' := [some (.ref 0), some (.int v1), some (.int (((s10.1 * 10) + x3) - 48)), some (.int v3), some (.int (s10.2.1 + 1))]) (st' := []) (hs' := (wTape bytes_t length_t end_t (s10.2.2 + 1) fault_t)) rfl trivial rfl ?_
      replace h := Option.some.inj h
      subst h
      exact kI (((s10.1 * 10) + x3) - 48, s10.2.1 + 1, s10.2.2 + 1) rfl
  · replace h := if_f h c5
    replace h := Option.some.inj h
    subst h
    refine V.weak [true, false, true, true, false] (l' := [some (.ref 0), none, some (.int s10.1), some (.int v3), none]) rfl rfl ?_
    exact kR0 (s10.1, s10.2.2) rfl

set_option maxHeartbeats 4000000 in
set_option maxRecDepth 20000 in
theorem Tape_digits_J55_v {bytes_t : Nat → Int32} {length_t : Int32} {end_t : Int32} {at_t : Int32} {fault_t : Int32} {v2 : Int32} {v3 : Int32} (y : Int32 × Int32 × Int32 × Int32) (h : Tape_digits_J55 v2 v3 bytes_t end_t at_t fault_t = some y)  :
    V mTape_digits (2, 0, 0, kpT, some (.int y.1), (wTape bytes_t length_t y.2.1 y.2.2.1 y.2.2.2), 0, 0) 0 0 55 [some (.ref 0), none, some (.int v2), some (.int v3), none] [] (wTape bytes_t length_t end_t at_t fault_t) := by
  unfold Tape_digits_J55 at h
  refine V.blk [(.aload_n 0, 0, 0, 0, 0), (.getfield 22, 10, 3, 0, 0), (.iload_n 3, 0, 0, 0, 0)] (by decide +kernel) (pc' := 60) (l' := [some (.ref 0), none, some (.int v2), some (.int v3), none]) (st' := [.int v3, .int at_t]) (hs' := (wTape bytes_t length_t end_t at_t fault_t)) rfl trivial rfl ?_
  refine V.ic_ne (tgt := 75) 15 (by decide +kernel) (by decide +kernel) (fun c6 => ?_) (fun c6 => ?_)
  · replace h := if_t h c6
    refine V.blk [(.aload_n 0, 0, 0, 0, 0), (.iconst 1, 0, 0, 0, 1), (.aload_n 0, 0, 0, 0, 0), (.getfield 22, 10, 3, 0, 0)] (by decide +kernel) (pc' := 69) (l' := [some (.ref 0), none, some (.int v2), some (.int v3), none]) (st' := [.int at_t, .int 1, .ref 0]) (hs' := (wTape bytes_t length_t end_t at_t fault_t)) rfl trivial rfl ?_
    obtain ⟨x1, hx, h⟩ := ob_some h
    refine V.callV (ρ := fun j => j) (j0 := 0) (as' := [.int 1, .int at_t]) (rest := []) (hc := (wTape bytes_t length_t end_t at_t fault_t)) (hc' := (wTape bytes_t length_t x1.1 at_t x1.2)) (hs' := (wTape bytes_t length_t x1.1 at_t x1.2)) (Tape_fail_c hx) ok_mTape_fail lk10_32 rfl (Sub.self _) (Aft.self rfl) ⟨_, _, rfl, by decide, rfl⟩ (Nat.le_trans (by decide : 1 + 1 ≤ 2) (Nat.le_refl _)) (Nat.le_refl _) (Nat.le_refl _) (Nat.le_of_ble_eq_true rfl) (by decide +kernel) ?_
    show V mTape_digits (2, 0, 0, kpT, some (.int y.1), (wTape bytes_t length_t y.2.1 y.2.2.1 y.2.2.2), 0, 0) 0 0 72 [some (.ref 0), none, some (.int v2), some (.int v3), none] [] (wTape bytes_t length_t x1.1 at_t x1.2)
    refine V.blk [(.goto 22, 94, 0, 0, 0)] (by decide +kernel) (pc' := 94) (l' := [some (.ref 0), none, some (.int v2), some (.int v3), none]) (st' := []) (hs' := (wTape bytes_t length_t x1.1 at_t x1.2)) rfl trivial rfl ?_
    refine V.blk [(.iload_n 2, 0, 0, 0, 0)] (by decide +kernel) (pc' := 95) (l' := [some (.ref 0), none, some (.int v2), some (.int v3), none]) (st' := [.int v2]) (hs' := (wTape bytes_t length_t x1.1 at_t x1.2)) rfl trivial rfl ?_
    replace h := Option.some.inj h
    subst h
    exact V.iret rfl (Nat.le_refl _) (Nat.le_refl _) (by decide +kernel)
  · replace h := if_f h c6
    refine V.blk [(.aload_n 0, 0, 0, 0, 0)] (by decide +kernel) (pc' := 76) (l' := [some (.ref 0), none, some (.int v2), some (.int v3), none]) (st' := [.ref 0]) (hs' := (wTape bytes_t length_t end_t at_t fault_t)) rfl trivial rfl ?_
    obtain ⟨x2, hx, h⟩ := ob_some h
    refine V.callV (ρ := fun j => j) (j0 := 0) (as' := []) (rest := []) (hc := (wTape bytes_t length_t end_t at_t fault_t)) (hc' := (wTape bytes_t length_t end_t at_t fault_t)) (hs' := (wTape bytes_t length_t end_t at_t fault_t)) (Tape_peek_c hx) ok_mTape_peek lk10_28 rfl (Sub.self _) (Aft.self rfl) ⟨_, _, rfl, by decide, rfl⟩ (Nat.le_trans (by decide : 1 + 1 ≤ 2) (Nat.le_refl _)) (Nat.le_refl _) (Nat.le_refl _) (Nat.le_of_ble_eq_true rfl) (by decide +kernel) ?_
    show V mTape_digits (2, 0, 0, kpT, some (.int y.1), (wTape bytes_t length_t y.2.1 y.2.2.1 y.2.2.2), 0, 0) 0 0 79 [some (.ref 0), none, some (.int v2), some (.int v3), none] [.int x2] (wTape bytes_t length_t end_t at_t fault_t)
    obtain ⟨x3, hx, h⟩ := ob_some h
    refine V.callS (ρ := fun j => [].getD j 0) (as' := [.int x2]) (rest := []) (hc := (wNone )) (hc' := (wNone )) (hs' := (wTape bytes_t length_t end_t at_t fault_t)) (Tape_isDigit_c hx) ok_mTape_isDigit lk10_36 rfl (Sub.list rfl rfl) (Aft.list rfl rfl rfl rfl) (Nat.le_trans (by decide : 1 + 1 ≤ 2) (Nat.le_refl _)) (Nat.le_refl _) (Nat.le_refl _) (Nat.le_of_ble_eq_true rfl) (by decide +kernel) ?_
    show V mTape_digits (2, 0, 0, kpT, some (.int y.1), (wTape bytes_t length_t y.2.1 y.2.2.1 y.2.2.2), 0, 0) 0 0 82 [some (.ref 0), none, some (.int v2), some (.int v3), none] [.int x3] (wTape bytes_t length_t end_t at_t fault_t)
    refine V.if_eq (tgt := 94) 12 (by decide +kernel) (by decide +kernel) (fun c5 => ?_) (fun c5 => ?_)
    · replace h := if_t h c5
      refine V.blk [(.iload_n 2, 0, 0, 0, 0)] (by decide +kernel) (pc' := 95) (l' := [some (.ref 0), none, some (.int v2), some (.int v3), none]) (st' := [.int v2]) (hs' := (wTape bytes_t length_t end_t at_t fault_t)) rfl trivial rfl ?_
      replace h := Option.some.inj h
      subst h
      exact V.iret rfl (Nat.le_refl _) (Nat.le_refl _) (by decide +kernel)
    · replace h := if_f h c5
      refine V.blk [(.aload_n 0, 0, 0, 0, 0), (.iconst 2, 0, 0, 0, 2), (.aload_n 0, 0, 0, 0, 0), (.getfield 22, 10, 3, 0, 0)] (by decide +kernel) (pc' := 91) (l' := [some (.ref 0), none, some (.int v2), some (.int v3), none]) (st' := [.int at_t, .int 2, .ref 0]) (hs' := (wTape bytes_t length_t end_t at_t fault_t)) rfl trivial rfl ?_
      obtain ⟨x4, hx, h⟩ := ob_some h
      refine V.callV (ρ := fun j => j) (j0 := 0) (as' := [.int 2, .int at_t]) (rest := []) (hc := (wTape bytes_t length_t end_t at_t fault_t)) (hc' := (wTape bytes_t length_t x4.1 at_t x4.2)) (hs' := (wTape bytes_t length_t x4.1 at_t x4.2)) (Tape_fail_c hx) ok_mTape_fail lk10_32 rfl (Sub.self _) (Aft.self rfl) ⟨_, _, rfl, by decide, rfl⟩ (Nat.le_trans (by decide : 1 + 1 ≤ 2) (Nat.le_refl _)) (Nat.le_refl _) (Nat.le_refl _) (Nat.le_of_ble_eq_true rfl) (by decide +kernel) ?_
      show V mTape_digits (2, 0, 0, kpT, some (.int y.1), (wTape bytes_t length_t y.2.1 y.2.2.1 y.2.2.2), 0, 0) 0 0 94 [some (.ref 0), none, some (.int v2), some (.int v3), none] [] (wTape bytes_t length_t x4.1 at_t x4.2)
      refine V.blk [(.iload_n 2, 0, 0, 0, 0)] (by decide +kernel) (pc' := 95) (l' := [some (.ref 0), none, some (.int v2), some (.int v3), none]) (st' := [.int v2]) (hs' := (wTape bytes_t length_t x4.1 at_t x4.2)) rfl trivial rfl ?_
      replace h := Option.some.inj h
      subst h
      exact V.iret rfl (Nat.le_refl _) (Nat.le_refl _) (by decide +kernel)

set_option maxHeartbeats 4000000 in
set_option maxRecDepth 20000 in
theorem Tape_digits_c {bytes_t : Nat → Int32} {length_t : Int32} {end_t : Int32} {at_t : Int32} {fault_t : Int32} {a1 : Int32} {y : Int32 × Int32 × Int32 × Int32} (h : Tape_digits bytes_t end_t at_t fault_t a1 = some y) :
    C mTape_digits 2 0 0 kpT [.ref 0, .int a1] (wTape bytes_t length_t end_t at_t fault_t) (some (.int y.1)) (wTape bytes_t length_t y.2.1 y.2.2.1 y.2.2.2) := by
  refine C.of rfl rfl (Nat.le_of_ble_eq_true rfl) rfl rfl ?_
  show V mTape_digits (2, 0, 0, kpT, some (.int y.1), (wTape bytes_t length_t y.2.1 y.2.2.1 y.2.2.2), 0, 0) 0 0 0 [some (.ref 0), some (.int a1), none, none, none] [] (wTape bytes_t length_t end_t at_t fault_t)
  unfold Tape_digits at h
  refine V.blk [(.iconst 0, 0, 0, 0, 0), (.istore_n 2, 0, 0, 0, 0), (.aload_n 0, 0, 0, 0, 0), (.getfield 22, 10, 3, 0, 0), (.istore_n 3, 0, 0, 0, 0), (.iconst 0, 0, 0, 0, 0), (.istore 4, 0, 0, 0, 0)] (by decide +kernel) (pc' := 10) (l' := [some (.ref 0), some (.int a1), some (.int 0), some (.int at_t), some (.int 0)]) (st' := []) (hs' := (wTape bytes_t length_t end_t at_t fault_t)) rfl trivial rfl ?_
  obtain ⟨x1, hx, h⟩ := ob_some h
  refine lp_V (A := fun s10 : Int32 × Int32 × Int32 => V mTape_digits (2, 0, 0, kpT, some (.int y.1), (wTape bytes_t length_t y.2.1 y.2.2.1 y.2.2.2), 0, 0) 0 0 10 [some (.ref 0), some (.int a1), some (.int s10.1), some (.int at_t), some (.int s10.2.1)] [] (wTape bytes_t length_t end_t s10.2.2 fault_t)) (B := fun x1 : Int32 × Int32 => V mTape_digits (2, 0, 0, kpT, some (.int y.1), (wTape bytes_t length_t y.2.1 y.2.2.1 y.2.2.2), 0, 0) 0 0 55 [some (.ref 0), none, some (.int x1.1), some (.int at_t), none] [] (wTape bytes_t length_t end_t x1.2 fault_t)) (s := (0, 0, at_t)) (fun sq yq hq kIq kRq => Tape_digits_L10_v (Z := (2, 0, 0, kpT, some (.int y.1), (wTape bytes_t length_t y.2.1 y.2.2.1 y.2.2.2), 0, 0)) (cells := 0) (slots := 0) (Nat.le_refl _) (Nat.le_refl _) (Nat.le_refl _) sq yq hq kIq (fun r e => kRq r e)) hx ?_
  show V mTape_digits (2, 0, 0, kpT, some (.int y.1), (wTape bytes_t length_t y.2.1 y.2.2.1 y.2.2.2), 0, 0) 0 0 55 [some (.ref 0), none, some (.int x1.1), some (.int at_t), none] [] (wTape bytes_t length_t end_t x1.2 fault_t)
  exact Tape_digits_J55_v y h

