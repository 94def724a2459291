/-! Land: the bytecode does what the functions say -/
set_option maxHeartbeats 4000000 in
set_option maxRecDepth 20000 in
theorem Land_has_J16_v {wells_l : Int32} {next_l : Nat → Int32} {ways_l : Nat → Int32}  (y : Int32) (h : Land_has_J16 wells_l = some y)  :
    V mLand_has (1, 0, 0, kpT, some (.int y), (wLand wells_l next_l ways_l), 0, 0) 0 0 16 [none, none] [] (wLand wells_l next_l ways_l) := by
  unfold Land_has_J16 at h
  refine V.blk [(.iconst 0, 0, 0, 0, 0)] (by decide +kernel) (pc' := 17) (l' := [none, none]) (st' := [.int 0]) (hs' := (wLand wells_l next_l ways_l)) rfl trivial rfl ?_
  replace h := Option.some.inj h
  subst h
  exact V.zret (Or.inl rfl) rfl (Nat.le_refl _) (Nat.le_refl _) (by decide +kernel)

set_option maxHeartbeats 4000000 in
set_option maxRecDepth 20000 in
theorem Land_has_c {wells_l : Int32} {next_l : Nat → Int32} {ways_l : Nat → Int32} {a1 : Int32} {y : Int32} (h : Land_has wells_l a1 = some y) :
    C mLand_has 1 0 0 kpT [.ref 0, .int a1] (wLand wells_l next_l ways_l) (some (.int y)) (wLand wells_l next_l ways_l) := by
  refine C.of rfl rfl (Nat.le_of_ble_eq_true rfl) rfl rfl ?_
  show V mLand_has (1, 0, 0, kpT, some (.int y), (wLand wells_l next_l ways_l), 0, 0) 0 0 0 [some (.ref 0), some (.int a1)] [] (wLand wells_l next_l ways_l)
  unfold Land_has at h
  refine V.blk [(.iload_n 1, 0, 0, 0, 0)] (by decide +kernel) (pc' := 1) (l' := [some (.ref 0), some (.int a1)]) (st' := [.int a1]) (hs' := (wLand wells_l next_l ways_l)) rfl trivial rfl ?_
  refine V.if_lt (tgt := 16) 15 (by decide +kernel) (by decide +kernel) (fun c2 => ?_) (fun c2 => ?_)
  · replace h := if_t h c2
    refine V.weak [false, false] (l' := [none, none]) rfl rfl ?_
    exact Land_has_J16_v y h
  · replace h := if_f h c2
    refine V.blk [(.iload_n 1, 0, 0, 0, 0), (.aload_n 0, 0, 0, 0, 0), (.getfield 18, 2, 0, 0, 0)] (by decide +kernel) (pc' := 9) (l' := [some (.ref 0), some (.int a1)]) (st' := [.int wells_l, .int a1]) (hs' := (wLand wells_l next_l ways_l)) rfl trivial rfl ?_
    refine V.ic_ge (tgt := 16) 7 (by decide +kernel) (by decide +kernel) (fun c1 => ?_) (fun c1 => ?_)
    · replace h := if_t h c1
      refine V.blk [(.iconst 1, 0, 0, 0, 1), (.goto 4, 17, 0, 0, 0)] (by decide +kernel) (pc' := 17) (l' := [some (.ref 0), some (.int a1)]) (st' := [.int 1]) (hs' := (wLand wells_l next_l ways_l)) rfl trivial rfl ?_
      replace h := Option.some.inj h
      subst h
      exact V.zret (Or.inr rfl) rfl (Nat.le_refl _) (Nat.le_refl _) (by decide +kernel)
    · replace h := if_f h c1
      refine V.weak [false, false] (l' := [none, none]) rfl rfl ?_
      exact Land_has_J16_v y h

set_option maxHeartbeats 4000000 in
set_option maxRecDepth 20000 in
theorem Land_areNext_J33_v {wells_l : Int32} {next_l : Nat → Int32} {ways_l : Nat → Int32}  (y : Int32) (h : Land_areNext_J33 wells_l next_l = some y)  :
    V mLand_areNext (2, 0, 0, kpT, some (.int y), (wLand wells_l next_l ways_l), 0, 0) 0 0 33 [none, none, none] [] (wLand wells_l next_l ways_l) := by
  unfold Land_areNext_J33 at h
  refine V.blk [(.iconst 0, 0, 0, 0, 0)] (by decide +kernel) (pc' := 34) (l' := [none, none, none]) (st' := [.int 0]) (hs' := (wLand wells_l next_l ways_l)) rfl trivial rfl ?_
  replace h := Option.some.inj h
  subst h
  exact V.zret (Or.inl rfl) rfl (Nat.le_refl _) (Nat.le_refl _) (by decide +kernel)

set_option maxHeartbeats 4000000 in
set_option maxRecDepth 20000 in
theorem Land_areNext_c {wells_l : Int32} {next_l : Nat → Int32} {ways_l : Nat → Int32} {a1 : Int32} {a2 : Int32} {y : Int32} (h : Land_areNext wells_l next_l a1 a2 = some y) :
    C mLand_areNext 2 0 0 kpT [.ref 0, .int a1, .int a2] (wLand wells_l next_l ways_l) (some (.int y)) (wLand wells_l next_l ways_l) := by
  refine C.of rfl rfl (Nat.le_of_ble_eq_true rfl) rfl rfl ?_
  show V mLand_areNext (2, 0, 0, kpT, some (.int y), (wLand wells_l next_l ways_l), 0, 0) 0 0 0 [some (.ref 0), some (.int a1), some (.int a2)] [] (wLand wells_l next_l ways_l)
  unfold Land_areNext at h
  refine V.blk [(.aload_n 0, 0, 0, 0, 0), (.iload_n 1, 0, 0, 0, 0)] (by decide +kernel) (pc' := 2) (l' := [some (.ref 0), some (.int a1), some (.int a2)]) (st' := [.int a1, .ref 0]) (hs' := (wLand wells_l next_l ways_l)) rfl trivial rfl ?_
  obtain ⟨x1, hx, h⟩ := ob_some h
  refine V.callV (ρ := fun j => j) (j0 := 0) (as' := [.int a1]) (rest := []) (hc := (wLand wells_l next_l ways_l)) (hc' := (wLand wells_l next_l ways_l)) (hs' := (wLand wells_l next_l ways_l)) (Land_has_c hx) ok_mLand_has lk2_22 rfl (Sub.self _) (Aft.self rfl) ⟨_, _, rfl, by decide, rfl⟩ (Nat.le_trans (by decide : 1 + 1 ≤ 2) (Nat.le_refl _)) (Nat.le_refl _) (Nat.le_refl _) (Nat.le_of_ble_eq_true rfl) (by decide +kernel) ?_
  show V mLand_areNext (2, 0, 0, kpT, some (.int y), (wLand wells_l next_l ways_l), 0, 0) 0 0 5 [some (.ref 0), some (.int a1), some (.int a2)] [.int x1] (wLand wells_l next_l ways_l)
  refine V.if_eq (tgt := 33) 28 (by decide +kernel) (by decide +kernel) (fun c6 => ?_) (fun c6 => ?_)
  · replace h := if_t h c6
    refine V.weak [false, false, false] (l' := [none, none, none]) rfl rfl ?_
    exact Land_areNext_J33_v y h
  · replace h := if_f h c6
    refine V.blk [(.aload_n 0, 0, 0, 0, 0), (.iload_n 2, 0, 0, 0, 0)] (by decide +kernel) (pc' := 10) (l' := [some (.ref 0), some (.int a1), some (.int a2)]) (st' := [.int a2, .ref 0]) (hs' := (wLand wells_l next_l ways_l)) rfl trivial rfl ?_
    obtain ⟨x2, hx, h⟩ := ob_some h
    refine V.callV (ρ := fun j => j) (j0 := 0) (as' := [.int a2]) (rest := []) (hc := (wLand wells_l next_l ways_l)) (hc' := (wLand wells_l next_l ways_l)) (hs' := (wLand wells_l next_l ways_l)) (Land_has_c hx) ok_mLand_has lk2_22 rfl (Sub.self _) (Aft.self rfl) ⟨_, _, rfl, by decide, rfl⟩ (Nat.le_trans (by decide : 1 + 1 ≤ 2) (Nat.le_refl _)) (Nat.le_refl _) (Nat.le_refl _) (Nat.le_of_ble_eq_true rfl) (by decide +kernel) ?_
    show V mLand_areNext (2, 0, 0, kpT, some (.int y), (wLand wells_l next_l ways_l), 0, 0) 0 0 13 [some (.ref 0), some (.int a1), some (.int a2)] [.int x2] (wLand wells_l next_l ways_l)
    refine V.if_eq (tgt := 33) 20 (by decide +kernel) (by decide +kernel) (fun c5 => ?_) (fun c5 => ?_)
    · replace h := if_t h c5
      refine V.weak [false, false, false] (l' := [none, none, none]) rfl rfl ?_
      exact Land_areNext_J33_v y h
    · replace h := if_f h c5
      obtain ⟨g3, h⟩ := gd_some h
      refine V.blk [(.aload_n 0, 0, 0, 0, 0), (.getfield 9, 2, 1, 0, 0), (.iload_n 1, 0, 0, 0, 0), (.iaload, 0, 0, 0, 0), (.iload_n 2, 0, 0, 0, 0), (.ishr, 0, 0, 0, 0), (.iconst 1, 0, 0, 0, 1), (.iand, 0, 0, 0, 0)] (by decide +kernel) (pc' := 26) (l' := [some (.ref 0), some (.int a1), some (.int a2)]) (st' := [.int (((next_l (a1 : Int32).toNatClampNeg) >>> (a2 &&& 31)) &&& 1)]) (hs' := (wLand wells_l next_l ways_l)) rfl ⟨g3, trivial⟩ rfl ?_
      refine V.if_eq (tgt := 33) 7 (by decide +kernel) (by decide +kernel) (fun c4 => ?_) (fun c4 => ?_)
      · replace h := if_t h c4
        refine V.weak [false, false, false] (l' := [none, none, none]) rfl rfl ?_
        exact Land_areNext_J33_v y h
      · replace h := if_f h c4
        refine V.blk [(.iconst 1, 0, 0, 0, 1), (.goto 4, 34, 0, 0, 0)] (by decide +kernel) (pc' := 34) (l' := [some (.ref 0), some (.int a1), some (.int a2)]) (st' := [.int 1]) (hs' := (wLand wells_l next_l ways_l)) rfl trivial rfl ?_
        replace h := Option.some.inj h
        subst h
        exact V.zret (Or.inr rfl) rfl (Nat.le_refl _) (Nat.le_refl _) (by decide +kernel)

set_option maxHeartbeats 4000000 in
set_option maxRecDepth 20000 in
theorem Land_way_J30_v {wells_l : Int32} {next_l : Nat → Int32} {ways_l : Nat → Int32}  (y : Int32) (h : Land_way_J30 wells_l ways_l = some y)  :
    V mLand_way (2, 0, 0, kpT, some (.int y), (wLand wells_l next_l ways_l), 0, 0) 0 0 30 [none, none, none] [] (wLand wells_l next_l ways_l) := by
  unfold Land_way_J30 at h
  refine V.blk [(.bipush (-2), 0, 0, 0, (-2))] (by decide +kernel) (pc' := 32) (l' := [none, none, none]) (st' := [.int (-2)]) (hs' := (wLand wells_l next_l ways_l)) rfl trivial rfl ?_
  replace h := Option.some.inj h
  subst h
  exact V.iret rfl (Nat.le_refl _) (Nat.le_refl _) (by decide +kernel)

set_option maxHeartbeats 4000000 in
set_option maxRecDepth 20000 in
theorem Land_way_c {wells_l : Int32} {next_l : Nat → Int32} {ways_l : Nat → Int32} {a1 : Int32} {a2 : Int32} {y : Int32} (h : Land_way wells_l ways_l a1 a2 = some y) :
    C mLand_way 2 0 0 kpT [.ref 0, .int a1, .int a2] (wLand wells_l next_l ways_l) (some (.int y)) (wLand wells_l next_l ways_l) := by
  refine C.of rfl rfl (Nat.le_of_ble_eq_true rfl) rfl rfl ?_
  show V mLand_way (2, 0, 0, kpT, some (.int y), (wLand wells_l next_l ways_l), 0, 0) 0 0 0 [some (.ref 0), some (.int a1), some (.int a2)] [] (wLand wells_l next_l ways_l)
  unfold Land_way at h
  refine V.blk [(.aload_n 0, 0, 0, 0, 0), (.iload_n 1, 0, 0, 0, 0)] (by decide +kernel) (pc' := 2) (l' := [some (.ref 0), some (.int a1), some (.int a2)]) (st' := [.int a1, .ref 0]) (hs' := (wLand wells_l next_l ways_l)) rfl trivial rfl ?_
  obtain ⟨x1, hx, h⟩ := ob_some h
  refine V.callV (ρ := fun j => j) (j0 := 0) (as' := [.int a1]) (rest := []) (hc := (wLand wells_l next_l ways_l)) (hc' := (wLand wells_l next_l ways_l)) (hs' := (wLand wells_l next_l ways_l)) (Land_has_c hx) ok_mLand_has lk2_22 rfl (Sub.self _) (Aft.self rfl) ⟨_, _, rfl, by decide, rfl⟩ (Nat.le_trans (by decide : 1 + 1 ≤ 2) (Nat.le_refl _)) (Nat.le_refl _) (Nat.le_refl _) (Nat.le_of_ble_eq_true rfl) (by decide +kernel) ?_
  show V mLand_way (2, 0, 0, kpT, some (.int y), (wLand wells_l next_l ways_l), 0, 0) 0 0 5 [some (.ref 0), some (.int a1), some (.int a2)] [.int x1] (wLand wells_l next_l ways_l)
  refine V.if_eq (tgt := 30) 25 (by decide +kernel) (by decide +kernel) (fun c5 => ?_) (fun c5 => ?_)
  · replace h := if_t h c5
    refine V.weak [false, false, false] (l' := [none, none, none]) rfl rfl ?_
    exact Land_way_J30_v y h
  · replace h := if_f h c5
    refine V.blk [(.aload_n 0, 0, 0, 0, 0), (.iload_n 2, 0, 0, 0, 0)] (by decide +kernel) (pc' := 10) (l' := [some (.ref 0), some (.int a1), some (.int a2)]) (st' := [.int a2, .ref 0]) (hs' := (wLand wells_l next_l ways_l)) rfl trivial rfl ?_
    obtain ⟨x2, hx, h⟩ := ob_some h
    refine V.callV (ρ := fun j => j) (j0 := 0) (as' := [.int a2]) (rest := []) (hc := (wLand wells_l next_l ways_l)) (hc' := (wLand wells_l next_l ways_l)) (hs' := (wLand wells_l next_l ways_l)) (Land_has_c hx) ok_mLand_has lk2_22 rfl (Sub.self _) (Aft.self rfl) ⟨_, _, rfl, by decide, rfl⟩ (Nat.le_trans (by decide : 1 + 1 ≤ 2) (Nat.le_refl _)) (Nat.le_refl _) (Nat.le_refl _) (Nat.le_of_ble_eq_true rfl) (by decide +kernel) ?_
    show V mLand_way (2, 0, 0, kpT, some (.int y), (wLand wells_l next_l ways_l), 0, 0) 0 0 13 [some (.ref 0), some (.int a1), some (.int a2)] [.int x2] (wLand wells_l next_l ways_l)
    refine V.if_eq (tgt := 30) 17 (by decide +kernel) (by decide +kernel) (fun c4 => ?_) (fun c4 => ?_)
    · replace h := if_t h c4
      refine V.weak [false, false, false] (l' := [none, none, none]) rfl rfl ?_
      exact Land_way_J30_v y h
    · replace h := if_f h c4
      obtain ⟨g3, h⟩ := gd_some h
      refine V.blk [(.aload_n 0, 0, 0, 0, 0), (.getfield 15, 2, 2, 0, 0), (.iload_n 1, 0, 0, 0, 0), (.bipush 12, 0, 0, 0, 12), (.imul, 0, 0, 0, 0), (.iload_n 2, 0, 0, 0, 0), (.iadd, 0, 0, 0, 0), (.iaload, 0, 0, 0, 0), (.goto 5, 32, 0, 0, 0)] (by decide +kernel) (pc' := 32) (l' := [some (.ref 0), some (.int a1), some (.int a2)]) (st' := [.int (ways_l ((a1 * 12) + a2 : Int32).toNatClampNeg)]) (hs' := (wLand wells_l next_l ways_l)) rfl ⟨g3, trivial⟩ rfl ?_
      replace h := Option.some.inj h
      subst h
      exact V.iret rfl (Nat.le_refl _) (Nat.le_refl _) (by decide +kernel)

set_option maxHeartbeats 4000000 in
set_option maxRecDepth 20000 in
theorem Land_bare_c {wells_l : Int32} {next_l : Nat → Int32} {ways_l : Nat → Int32} {a1 : Int32} {y : Int32 × (Nat → Int32)} (h : Land_bare wells_l next_l a1 = some y) :
    C mLand_bare 2 0 0 kpT [.ref 0, .int a1] (wLand wells_l next_l ways_l) none (wLand y.1 y.2 ways_l) := by
  refine C.of rfl rfl (Nat.le_of_ble_eq_true rfl) rfl rfl ?_
  show V mLand_bare (2, 0, 0, kpT, none, (wLand y.1 y.2 ways_l), 0, 0) 0 0 0 [some (.ref 0), some (.int a1)] [] (wLand wells_l next_l ways_l)
  unfold Land_bare at h
  refine V.blk [(.aload_n 0, 0, 0, 0, 0), (.iconst 0, 0, 0, 0, 0), (.iload_n 1, 0, 0, 0, 0), (.bipush 12, 0, 0, 0, 12)] (by decide +kernel) (pc' := 5) (l' := [some (.ref 0), some (.int a1)]) (st' := [.int 12, .int a1, .int 0, .ref 0]) (hs' := (wLand wells_l next_l ways_l)) rfl trivial rfl ?_
  refine V.mmin (Nat.le_trans (by decide : 1 ≤ 2) (Nat.le_refl _)) (Nat.le_refl _) (Nat.le_refl _) lk2_26 (Nat.le_of_ble_eq_true rfl) (by decide +kernel) ?_
  show V mLand_bare (2, 0, 0, kpT, none, (wLand y.1 y.2 ways_l), 0, 0) 0 0 8 [some (.ref 0), some (.int a1)] [.int (jmin a1 12), .int 0, .ref 0] (wLand wells_l next_l ways_l)
  refine V.mmax (Nat.le_trans (by decide : 1 ≤ 2) (Nat.le_refl _)) (Nat.le_refl _) (Nat.le_refl _) lk2_32 (Nat.le_of_ble_eq_true rfl) (by decide +kernel) ?_
  show V mLand_bare (2, 0, 0, kpT, none, (wLand y.1 y.2 ways_l), 0, 0) 0 0 11 [some (.ref 0), some (.int a1)] [.int (jmax 0 (jmin a1 12)), .ref 0] (wLand wells_l next_l ways_l)
  refine V.blk [(.putfield 18, 2, 0, 0, 0), (.aload_n 0, 0, 0, 0, 0), (.getfield 9, 2, 1, 0, 0), (.iconst 0, 0, 0, 0, 0)] (by decide +kernel) (pc' := 19) (l' := [some (.ref 0), some (.int a1)]) (st' := [.int 0, .ref 1]) (hs' := (wLand (jmax 0 (jmin a1 12)) next_l ways_l)) rfl trivial rfl ?_
  obtain ⟨x1, hx, h⟩ := ob_some h
  refine V.callS (ρ := fun j => [1].getD j 0) (as' := [.ref 0, .int 0]) (rest := []) (hc := (wArr 12 next_l)) (hc' := (wArr 12 x1)) (hs' := (wLand (jmax 0 (jmin a1 12)) x1 ways_l)) (Arrays_fill_c hx) ok_mArrays_fill0 lk2_35 rfl (Sub.list rfl rfl) (Aft.list rfl rfl rfl rfl) (Nat.le_trans (by decide : 1 + 1 ≤ 2) (Nat.le_refl _)) (Nat.le_refl _) (Nat.le_refl _) (Nat.le_of_ble_eq_true rfl) (by decide +kernel) ?_
  show V mLand_bare (2, 0, 0, kpT, none, (wLand y.1 y.2 ways_l), 0, 0) 0 0 22 [some (.ref 0), some (.int a1)] [] (wLand (jmax 0 (jmin a1 12)) x1 ways_l)
  replace h := Option.some.inj h
  subst h
  exact V.vret rfl (Nat.le_refl _) (Nat.le_refl _) (by decide +kernel)

set_option maxHeartbeats 4000000 in
set_option maxRecDepth 20000 in
theorem Land_become_c {wells_l : Int32} {next_l : Nat → Int32} {ways_l : Nat → Int32} {wells_o : Int32} {next_o : Nat → Int32} {ways_o : Nat → Int32}  {y : Int32 × (Nat → Int32)} (h : Land_become wells_l next_l wells_o next_o = some y) :
    C mLand_become 1 0 0 kpT [.ref 0, .ref 3] (wLand2 wells_l next_l ways_l wells_o next_o ways_o) none (wLand2 y.1 y.2 ways_l wells_o next_o ways_o) := by
  refine C.of rfl rfl (Nat.le_of_ble_eq_true rfl) rfl rfl ?_
  show V mLand_become (1, 0, 0, kpT, none, (wLand2 y.1 y.2 ways_l wells_o next_o ways_o), 0, 0) 0 0 0 [some (.ref 0), some (.ref 3)] [] (wLand2 wells_l next_l ways_l wells_o next_o ways_o)
  unfold Land_become at h
  refine V.blk [(.aload_n 0, 0, 0, 0, 0), (.aload_n 1, 0, 0, 0, 0), (.getfield 18, 2, 0, 0, 0), (.putfield 18, 2, 0, 0, 0), (.aload_n 1, 0, 0, 0, 0), (.getfield 9, 2, 1, 0, 0), (.iconst 0, 0, 0, 0, 0), (.aload_n 0, 0, 0, 0, 0), (.getfield 9, 2, 1, 0, 0), (.iconst 0, 0, 0, 0, 0), (.bipush 12, 0, 0, 0, 12)] (by decide +kernel) (pc' := 20) (l' := [some (.ref 0), some (.ref 3)]) (st' := [.int 12, .int 0, .ref 1, .int 0, .ref 4]) (hs' := (wLand2 wells_o next_l ways_l wells_o next_o ways_o)) rfl trivial rfl ?_
  obtain ⟨g1, h⟩ := gd_some h
  refine V.copy (a0 := 4) (a := 1) rfl rfl g1 (Nat.le_trans (by decide : 1 ≤ 1) (Nat.le_refl _)) lk2_41 (Nat.le_of_ble_eq_true rfl) (by decide +kernel) ?_
  show V mLand_become (1, 0, 0, kpT, none, (wLand2 y.1 y.2 ways_l wells_o next_o ways_o), 0, 0) 0 0 23 [some (.ref 0), some (.ref 3)] [] (wLand2 wells_o (va_cpy next_o next_l (0 : Int32).toNatClampNeg (0 : Int32).toNatClampNeg (12 : Int32).toNatClampNeg) ways_l wells_o next_o ways_o)
  replace h := Option.some.inj h
  subst h
  exact V.vret rfl (Nat.le_refl _) (Nat.le_refl _) (by decide +kernel)

set_option maxHeartbeats 4000000 in
set_option maxRecDepth 20000 in
theorem Land_join_c {wells_l : Int32} {next_l : Nat → Int32} {ways_l : Nat → Int32} {a1 : Int32} {a2 : Int32} {y : Nat → Int32} (h : Land_join wells_l next_l a1 a2 = some y) :
    C mLand_join 2 0 0 kpT [.ref 0, .int a1, .int a2] (wLand wells_l next_l ways_l) none (wLand wells_l y ways_l) := by
  refine C.of rfl rfl (Nat.le_of_ble_eq_true rfl) rfl rfl ?_
  show V mLand_join (2, 0, 0, kpT, none, (wLand wells_l y ways_l), 0, 0) 0 0 0 [some (.ref 0), some (.int a1), some (.int a2)] [] (wLand wells_l next_l ways_l)
  unfold Land_join at h
  refine V.blk [(.aload_n 0, 0, 0, 0, 0), (.iload_n 1, 0, 0, 0, 0)] (by decide +kernel) (pc' := 2) (l' := [some (.ref 0), some (.int a1), some (.int a2)]) (st' := [.int a1, .ref 0]) (hs' := (wLand wells_l next_l ways_l)) rfl trivial rfl ?_
  obtain ⟨x1, hx, h⟩ := ob_some h
  refine V.callV (ρ := fun j => j) (j0 := 0) (as' := [.int a1]) (rest := []) (hc := (wLand wells_l next_l ways_l)) (hc' := (wLand wells_l next_l ways_l)) (hs' := (wLand wells_l next_l ways_l)) (Land_has_c hx) ok_mLand_has lk2_22 rfl (Sub.self _) (Aft.self rfl) ⟨_, _, rfl, by decide, rfl⟩ (Nat.le_trans (by decide : 1 + 1 ≤ 2) (Nat.le_refl _)) (Nat.le_refl _) (Nat.le_refl _) (Nat.le_of_ble_eq_true rfl) (by decide +kernel) ?_
  show V mLand_join (2, 0, 0, kpT, none, (wLand wells_l y ways_l), 0, 0) 0 0 5 [some (.ref 0), some (.int a1), some (.int a2)] [.int x1] (wLand wells_l next_l ways_l)
  refine V.if_eq (tgt := 45) 40 (by decide +kernel) (by decide +kernel) (fun c9 => ?_) (fun c9 => ?_)
  · replace h := if_t h c9
    replace h := Option.some.inj h
    subst h
    exact V.vret rfl (Nat.le_refl _) (Nat.le_refl _) (by decide +kernel)
  · replace h := if_f h c9
    refine V.blk [(.aload_n 0, 0, 0, 0, 0), (.iload_n 2, 0, 0, 0, 0)] (by decide +kernel) (pc' := 10) (l' := [some (.ref 0), some (.int a1), some (.int a2)]) (st' := [.int a2, .ref 0]) (hs' := (wLand wells_l next_l ways_l)) rfl trivial rfl ?_
    obtain ⟨x2, hx, h⟩ := ob_some h
    refine V.callV (ρ := fun j => j) (j0 := 0) (as' := [.int a2]) (rest := []) (hc := (wLand wells_l next_l ways_l)) (hc' := (wLand wells_l next_l ways_l)) (hs' := (wLand wells_l next_l ways_l)) (Land_has_c hx) ok_mLand_has lk2_22 rfl (Sub.self _) (Aft.self rfl) ⟨_, _, rfl, by decide, rfl⟩ (Nat.le_trans (by decide : 1 + 1 ≤ 2) (Nat.le_refl _)) (Nat.le_refl _) (Nat.le_refl _) (Nat.le_of_ble_eq_true rfl) (by decide +kernel) ?_
    show V mLand_join (2, 0, 0, kpT, none, (wLand wells_l y ways_l), 0, 0) 0 0 13 [some (.ref 0), some (.int a1), some (.int a2)] [.int x2] (wLand wells_l next_l ways_l)
    refine V.if_eq (tgt := 45) 32 (by decide +kernel) (by decide +kernel) (fun c8 => ?_) (fun c8 => ?_)
    · replace h := if_t h c8
      replace h := Option.some.inj h
      subst h
      exact V.vret rfl (Nat.le_refl _) (Nat.le_refl _) (by decide +kernel)
    · replace h := if_f h c8
      refine V.blk [(.iload_n 1, 0, 0, 0, 0), (.iload_n 2, 0, 0, 0, 0)] (by decide +kernel) (pc' := 18) (l' := [some (.ref 0), some (.int a1), some (.int a2)]) (st' := [.int a2, .int a1]) (hs' := (wLand wells_l next_l ways_l)) rfl trivial rfl ?_
      refine V.ic_eq (tgt := 45) 27 (by decide +kernel) (by decide +kernel) (fun c7 => ?_) (fun c7 => ?_)
      · replace h := if_t h c7
        replace h := Option.some.inj h
        subst h
        exact V.vret rfl (Nat.le_refl _) (Nat.le_refl _) (by decide +kernel)
      · replace h := if_f h c7
        obtain ⟨g3, h⟩ := gd_some h
        obtain ⟨g4, h⟩ := gd_some h
        obtain ⟨g5, h⟩ := gd_some h
        obtain ⟨g6, h⟩ := gd_some h
        refine V.blk [(.aload_n 0, 0, 0, 0, 0), (.getfield 9, 2, 1, 0, 0), (.iload_n 1, 0, 0, 0, 0), (.dup2, 0, 0, 0, 0), (.iaload, 0, 0, 0, 0), (.iconst 1, 0, 0, 0, 1), (.iload_n 2, 0, 0, 0, 0), (.ishl, 0, 0, 0, 0), (.ior, 0, 0, 0, 0), (.iastore, 0, 0, 0, 0), (.aload_n 0, 0, 0, 0, 0), (.getfield 9, 2, 1, 0, 0), (.iload_n 2, 0, 0, 0, 0), (.dup2, 0, 0, 0, 0), (.iaload, 0, 0, 0, 0), (.iconst 1, 0, 0, 0, 1), (.iload_n 1, 0, 0, 0, 0), (.ishl, 0, 0, 0, 0), (.ior, 0, 0, 0, 0), (.iastore, 0, 0, 0, 0)] (by decide +kernel) (pc' := 45) (l' := [some (.ref 0), some (.int a1), some (.int a2)]) (st' := []) (hs' := (wLand wells_l (upd (upd next_l (a1 : Int32).toNatClampNeg ((next_l (a1 : Int32).toNatClampNeg) ||| ((1 : Int32) <<< (a2 &&& 31)))) (a2 : Int32).toNatClampNeg (((upd next_l (a1 : Int32).toNatClampNeg ((next_l (a1 : Int32).toNatClampNeg) ||| ((1 : Int32) <<< (a2 &&& 31)))) (a2 : Int32).toNatClampNeg) ||| ((1 : Int32) <<< (a1 &&& 31)))) ways_l)) rfl ⟨g3, g4, g5, g6, trivial⟩ rfl ?_
        replace h := Option.some.inj h
        subst h
        exact V.vret rfl (Nat.le_refl _) (Nat.le_refl _) (by decide +kernel)

set_option maxHeartbeats 4000000 in
set_option maxRecDepth 20000 in
theorem Land_part_c {wells_l : Int32} {next_l : Nat → Int32} {ways_l : Nat → Int32} {a1 : Int32} {a2 : Int32} {y : Nat → Int32} (h : Land_part wells_l next_l a1 a2 = some y) :
    C mLand_part 2 0 0 kpT [.ref 0, .int a1, .int a2] (wLand wells_l next_l ways_l) none (wLand wells_l y ways_l) := by
  refine C.of rfl rfl (Nat.le_of_ble_eq_true rfl) rfl rfl ?_
  show V mLand_part (2, 0, 0, kpT, none, (wLand wells_l y ways_l), 0, 0) 0 0 0 [some (.ref 0), some (.int a1), some (.int a2)] [] (wLand wells_l next_l ways_l)
  unfold Land_part at h
  refine V.blk [(.aload_n 0, 0, 0, 0, 0), (.iload_n 1, 0, 0, 0, 0)] (by decide +kernel) (pc' := 2) (l' := [some (.ref 0), some (.int a1), some (.int a2)]) (st' := [.int a1, .ref 0]) (hs' := (wLand wells_l next_l ways_l)) rfl trivial rfl ?_
  obtain ⟨x1, hx, h⟩ := ob_some h
  refine V.callV (ρ := fun j => j) (j0 := 0) (as' := [.int a1]) (rest := []) (hc := (wLand wells_l next_l ways_l)) (hc' := (wLand wells_l next_l ways_l)) (hs' := (wLand wells_l next_l ways_l)) (Land_has_c hx) ok_mLand_has lk2_22 rfl (Sub.self _) (Aft.self rfl) ⟨_, _, rfl, by decide, rfl⟩ (Nat.le_trans (by decide : 1 + 1 ≤ 2) (Nat.le_refl _)) (Nat.le_refl _) (Nat.le_refl _) (Nat.le_of_ble_eq_true rfl) (by decide +kernel) ?_
  show V mLand_part (2, 0, 0, kpT, none, (wLand wells_l y ways_l), 0, 0) 0 0 5 [some (.ref 0), some (.int a1), some (.int a2)] [.int x1] (wLand wells_l next_l ways_l)
  refine V.if_eq (tgt := 44) 39 (by decide +kernel) (by decide +kernel) (fun c8 => ?_) (fun c8 => ?_)
  · replace h := if_t h c8
    replace h := Option.some.inj h
    subst h
    exact V.vret rfl (Nat.le_refl _) (Nat.le_refl _) (by decide +kernel)
  · replace h := if_f h c8
    refine V.blk [(.aload_n 0, 0, 0, 0, 0), (.iload_n 2, 0, 0, 0, 0)] (by decide +kernel) (pc' := 10) (l' := [some (.ref 0), some (.int a1), some (.int a2)]) (st' := [.int a2, .ref 0]) (hs' := (wLand wells_l next_l ways_l)) rfl trivial rfl ?_
    obtain ⟨x2, hx, h⟩ := ob_some h
    refine V.callV (ρ := fun j => j) (j0 := 0) (as' := [.int a2]) (rest := []) (hc := (wLand wells_l next_l ways_l)) (hc' := (wLand wells_l next_l ways_l)) (hs' := (wLand wells_l next_l ways_l)) (Land_has_c hx) ok_mLand_has lk2_22 rfl (Sub.self _) (Aft.self rfl) ⟨_, _, rfl, by decide, rfl⟩ (Nat.le_trans (by decide : 1 + 1 ≤ 2) (Nat.le_refl _)) (Nat.le_refl _) (Nat.le_refl _) (Nat.le_of_ble_eq_true rfl) (by decide +kernel) ?_
    show V mLand_part (2, 0, 0, kpT, none, (wLand wells_l y ways_l), 0, 0) 0 0 13 [some (.ref 0), some (.int a1), some (.int a2)] [.int x2] (wLand wells_l next_l ways_l)
    refine V.if_eq (tgt := 44) 31 (by decide +kernel) (by decide +kernel) (fun c7 => ?_) (fun c7 => ?_)
    · replace h := if_t h c7
      replace h := Option.some.inj h
      subst h
      exact V.vret rfl (Nat.le_refl _) (Nat.le_refl _) (by decide +kernel)
    · replace h := if_f h c7
      obtain ⟨g3, h⟩ := gd_some h
      obtain ⟨g4, h⟩ := gd_some h
      obtain ⟨g5, h⟩ := gd_some h
      obtain ⟨g6, h⟩ := gd_some h
      refine V.blk [(.aload_n 0, 0, 0, 0, 0), (.getfield 9, 2, 1, 0, 0), (.iload_n 1, 0, 0, 0, 0), (.dup2, 0, 0, 0, 0), (.iaload, 0, 0, 0, 0), (.iconst 1, 0, 0, 0, 1), (.iload_n 2, 0, 0, 0, 0), (.ishl, 0, 0, 0, 0), (.iconst (-1), 0, 0, 0, (-1)), (.ixor, 0, 0, 0, 0), (.iand, 0, 0, 0, 0), (.iastore, 0, 0, 0, 0), (.aload_n 0, 0, 0, 0, 0), (.getfield 9, 2, 1, 0, 0), (.iload_n 2, 0, 0, 0, 0), (.dup2, 0, 0, 0, 0), (.iaload, 0, 0, 0, 0), (.iconst 1, 0, 0, 0, 1), (.iload_n 1, 0, 0, 0, 0), (.ishl, 0, 0, 0, 0), (.iconst (-1), 0, 0, 0, (-1)), (.ixor, 0, 0, 0, 0), (.iand, 0, 0, 0, 0), (.iastore, 0, 0, 0, 0)] (by decide +kernel) (pc' := 44) (l' := [some (.ref 0), some (.int a1), some (.int a2)]) (st' := []) (hs' := (wLand wells_l (upd (upd next_l (a1 : Int32).toNatClampNeg ((next_l (a1 : Int32).toNatClampNeg) &&& (((1 : Int32) <<< (a2 &&& 31)) ^^^ (-1)))) (a2 : Int32).toNatClampNeg (((upd next_l (a1 : Int32).toNatClampNeg ((next_l (a1 : Int32).toNatClampNeg) &&& (((1 : Int32) <<< (a2 &&& 31)) ^^^ (-1)))) (a2 : Int32).toNatClampNeg) &&& (((1 : Int32) <<< (a1 &&& 31)) ^^^ (-1)))) ways_l)) rfl ⟨g3, g4, g5, g6, trivial⟩ rfl ?_
      replace h := Option.some.inj h
      subst h
      exact V.vret rfl (Nat.le_refl _) (Nat.le_refl _) (by decide +kernel)

set_option maxHeartbeats 4000000 in
set_option maxRecDepth 20000 in
theorem Land_becomeShape_L41_v {Z : VZ} {cells slots : Nat} (hZ : 3 ≤ Z.1) (hC : cells ≤ Z.2.1) (hL : slots ≤ Z.2.2.1) {wells_l : Int32} {ways_l : Nat → Int32} {v1 : Int32} {v3 : Int32} (s41 : Int32 × (Nat → Int32)) (y : (Int32 × (Nat → Int32)) ⊕ (Nat → Int32)) (h : Land_becomeShape_L41 v1 v3 wells_l s41 = some y)  (kI : ∀ s' : Int32 × (Nat → Int32), y = .inl s' → V mLand_becomeShape Z cells slots 41 [some (.ref 0), some (.int v1), none, some (.int v3), some (.int s'.1)] [] (wLand wells_l s'.2 ways_l)) (kR0 : ∀ r : Nat → Int32, y = .inr r → V mLand_becomeShape Z cells slots 66 [some (.ref 0), some (.int v1), none, some (.int v3), none] [] (wLand wells_l r ways_l)) :
    V mLand_becomeShape Z cells slots 41 [some (.ref 0), some (.int v1), none, some (.int v3), some (.int s41.1)] [] (wLand wells_l s41.2 ways_l) := by
  unfold Land_becomeShape_L41 at h
  refine V.blk [(.iload_n 1, 0, 0, 0, 0), (.bipush 75, 0, 0, 0, 75)] (by decide +kernel) (pc' := 44) (l' := [some (.ref 0), some (.int v1), none, some (.int v3), some (.int s41.1)]) (st' := [.int 75, .int v1]) (hs' := (wLand wells_l s41.2 ways_l)) rfl trivial rfl ?_
  refine V.ic_ne (tgt := 66) 22 (by decide +kernel) (by decide +kernel) (fun c3 => ?_) (fun c3 => ?_)
  · replace h := if_t h c3
    refine V.blk [(.iload 4, 0, 0, 0, 0), (.iload_n 3, 0, 0, 0, 0)] (by decide +kernel) (pc' := 50) (l' := [some (.ref 0), some (.int v1), none, some (.int v3), some (.int s41.1)]) (st' := [.int v3, .int s41.1]) (hs' := (wLand wells_l s41.2 ways_l)) rfl trivial rfl ?_
    refine V.ic_ge (tgt := 66) 16 (by decide +kernel) (by decide +kernel) (fun c2 => ?_) (fun c2 => ?_)
    · replace h := if_t h c2
      refine V.blk [(.aload_n 0, 0, 0, 0, 0), (.iload 4, 0, 0, 0, 0), (.iload_n 3, 0, 0, 0, 0)] (by decide +kernel) (pc' := 57) (l' := [some (.ref 0), some (.int v1), none, some (.int v3), some (.int s41.1)]) (st' := [.int v3, .int s41.1, .ref 0]) (hs' := (wLand wells_l s41.2 ways_l)) rfl trivial rfl ?_
      obtain ⟨x1, hx, h⟩ := ob_some h
      refine V.callV (ρ := fun j => j) (j0 := 0) (as' := [.int s41.1, .int v3]) (rest := []) (hc := (wLand wells_l s41.2 ways_l)) (hc' := (wLand wells_l x1 ways_l)) (hs' := (wLand wells_l x1 ways_l)) (Land_join_c hx) ok_mLand_join lk2_51 rfl (Sub.self _) (Aft.self rfl) ⟨_, _, rfl, by decide, rfl⟩ (Nat.le_trans (by decide : 2 + 1 ≤ 3) hZ) hC hL (Nat.le_of_ble_eq_true rfl) (by decide +kernel) ?_
      show V mLand_becomeShape Z cells slots 60 [some (.ref 0), some (.int v1), none, some (.int v3), some (.int s41.1)] [] (wLand wells_l x1 ways_l)
      refine V.blk [(.iinc 4 1, 0, 0, 0, 1), (.goto (-22), 41, 0, 0, 0)] (by decide +kernel) (pc' := 41) (l' := [some (.ref 0), some (.int v1), none, some (.int v3), some (.int (s41.1 + 1))]) (st' := []) (hs' := (wLand wells_l x1 ways_l)) rfl trivial rfl ?_
      replace h := Option.some.inj h
      subst h
      exact kI (s41.1 + 1, x1) rfl
    · replace h := if_f h c2
      replace h := Option.some.inj h
      subst h
      refine V.weak [true, true, true, true, false] (l' := [some (.ref 0), some (.int v1), none, some (.int v3), none]) rfl rfl ?_
      exact kR0 s41.2 rfl
  · replace h := if_f h c3
    replace h := Option.some.inj h
    subst h
    refine V.weak [true, true, true, true, false] (l' := [some (.ref 0), some (.int v1), none, some (.int v3), none]) rfl rfl ?_
    exact kR0 s41.2 rfl

set_option maxHeartbeats 4000000 in
set_option maxRecDepth 20000 in
theorem Land_becomeShape_L7_J66_v {Z : VZ} {cells slots : Nat} (hZ : 3 ≤ Z.1) (hC : cells ≤ Z.2.1) (hL : slots ≤ Z.2.2.1) {wells_l : Int32} {next_l : Nat → Int32} {ways_l : Nat → Int32} {v1 : Int32} {v3 : Int32} (y : (Int32 × (Nat → Int32)) ⊕ (Nat → Int32)) (h : Land_becomeShape_L7_J66 v1 v3 wells_l next_l = some y)  (kI : ∀ s' : Int32 × (Nat → Int32), y = .inl s' → V mLand_becomeShape Z cells slots 7 [some (.ref 0), some (.int v1), none, some (.int s'.1), none] [] (wLand wells_l s'.2 ways_l)) (kR0 : ∀ r : Nat → Int32, y = .inr r → V mLand_becomeShape Z cells slots 72 [some (.ref 0), some (.int v1), none, none, none] [] (wLand wells_l r ways_l)) :
    V mLand_becomeShape Z cells slots 66 [some (.ref 0), some (.int v1), none, some (.int v3), none] [] (wLand wells_l next_l ways_l) := by
  unfold Land_becomeShape_L7_J66 at h
  refine V.blk [(.iinc 3 1, 0, 0, 0, 1), (.goto (-62), 7, 0, 0, 0)] (by decide +kernel) (pc' := 7) (l' := [some (.ref 0), some (.int v1), none, some (.int (v3 + 1)), none]) (st' := []) (hs' := (wLand wells_l next_l ways_l)) rfl trivial rfl ?_
  replace h := Option.some.inj h
  subst h
  exact kI (v3 + 1, next_l) rfl

set_option maxHeartbeats 4000000 in
set_option maxRecDepth 20000 in
theorem Land_becomeShape_L7_J38_v {Z : VZ} {cells slots : Nat} (hZ : 3 ≤ Z.1) (hC : cells ≤ Z.2.1) (hL : slots ≤ Z.2.2.1) {wells_l : Int32} {next_l : Nat → Int32} {ways_l : Nat → Int32} {v1 : Int32} {v3 : Int32} (y : (Int32 × (Nat → Int32)) ⊕ (Nat → Int32)) (h : Land_becomeShape_L7_J38 v1 v3 wells_l next_l = some y)  (kI : ∀ s' : Int32 × (Nat → Int32), y = .inl s' → V mLand_becomeShape Z cells slots 7 [some (.ref 0), some (.int v1), none, some (.int s'.1), none] [] (wLand wells_l s'.2 ways_l)) (kR0 : ∀ r : Nat → Int32, y = .inr r → V mLand_becomeShape Z cells slots 72 [some (.ref 0), some (.int v1), none, none, none] [] (wLand wells_l r ways_l)) :
    V mLand_becomeShape Z cells slots 38 [some (.ref 0), some (.int v1), none, some (.int v3), none] [] (wLand wells_l next_l ways_l) := by
  unfold Land_becomeShape_L7_J38 at h
  refine V.blk [(.iconst 0, 0, 0, 0, 0), (.istore 4, 0, 0, 0, 0)] (by decide +kernel) (pc' := 41) (l' := [some (.ref 0), some (.int v1), none, some (.int v3), some (.int 0)]) (st' := []) (hs' := (wLand wells_l next_l ways_l)) rfl trivial rfl ?_
  obtain ⟨x1, hx, h⟩ := ob_some h
  refine lp_V (A := fun s41 : Int32 × (Nat → Int32) => V mLand_becomeShape Z cells slots 41 [some (.ref 0), some (.int v1), none, some (.int v3), some (.int s41.1)] [] (wLand wells_l s41.2 ways_l)) (B := fun x1 : Nat → Int32 => V mLand_becomeShape Z cells slots 66 [some (.ref 0), some (.int v1), none, some (.int v3), none] [] (wLand wells_l x1 ways_l)) (s := (0, next_l)) (fun sq yq hq kIq kRq => Land_becomeShape_L41_v (Z := Z) (cells := cells) (slots := slots) hZ hC hL sq yq hq kIq (fun r e => kRq r e)) hx ?_
  show V mLand_becomeShape Z cells slots 66 [some (.ref 0), some (.int v1), none, some (.int v3), none] [] (wLand wells_l x1 ways_l)
  exact Land_becomeShape_L7_J66_v hZ hC hL y h kI kR0

set_option maxHeartbeats 4000000 in
set_option maxRecDepth 20000 in
theorem Land_becomeShape_L7_v {Z : VZ} {cells slots : Nat} (hZ : 3 ≤ Z.1) (hC : cells ≤ Z.2.1) (hL : slots ≤ Z.2.2.1) {wells_l : Int32} {ways_l : Nat → Int32} {v1 : Int32} (s7 : Int32 × (Nat → Int32)) (y : (Int32 × (Nat → Int32)) ⊕ (Nat → Int32)) (h : Land_becomeShape_L7 v1 wells_l s7 = some y)  (kI : ∀ s' : Int32 × (Nat → Int32), y = .inl s' → V mLand_becomeShape Z cells slots 7 [some (.ref 0), some (.int v1), none, some (.int s'.1), none] [] (wLand wells_l s'.2 ways_l)) (kR0 : ∀ r : Nat → Int32, y = .inr r → V mLand_becomeShape Z cells slots 72 [some (.ref 0), some (.int v1), none, none, none] [] (wLand wells_l r ways_l)) :
    V mLand_becomeShape Z cells slots 7 [some (.ref 0), some (.int v1), none, some (.int s7.1), none] [] (wLand wells_l s7.2 ways_l) := by
  unfold Land_becomeShape_L7 at h
  refine V.blk [(.iload_n 3, 0, 0, 0, 0), (.aload_n 0, 0, 0, 0, 0), (.getfield 18, 2, 0, 0, 0)] (by decide +kernel) (pc' := 12) (l' := [some (.ref 0), some (.int v1), none, some (.int s7.1), none]) (st' := [.int wells_l, .int s7.1]) (hs' := (wLand wells_l s7.2 ways_l)) rfl trivial rfl ?_
  refine V.ic_ge (tgt := 72) 60 (by decide +kernel) (by decide +kernel) (fun c4 => ?_) (fun c4 => ?_)
  · replace h := if_t h c4
    refine V.blk [(.iload_n 1, 0, 0, 0, 0), (.bipush 83, 0, 0, 0, 83)] (by decide +kernel) (pc' := 18) (l' := [some (.ref 0), some (.int v1), none, some (.int s7.1), none]) (st' := [.int 83, .int v1]) (hs' := (wLand wells_l s7.2 ways_l)) rfl trivial rfl ?_
    refine V.ic_ne (tgt := 30) 12 (by decide +kernel) (by decide +kernel) (fun c3 => ?_) (fun c3 => ?_)
    · replace h := if_t h c3
      refine V.blk [(.aload_n 0, 0, 0, 0, 0), (.iconst 0, 0, 0, 0, 0), (.iload_n 3, 0, 0, 0, 0)] (by decide +kernel) (pc' := 24) (l' := [some (.ref 0), some (.int v1), none, some (.int s7.1), none]) (st' := [.int s7.1, .int 0, .ref 0]) (hs' := (wLand wells_l s7.2 ways_l)) rfl trivial rfl ?_
      obtain ⟨x1, hx, h⟩ := ob_some h
      refine V.callV (ρ := fun j => j) (j0 := 0) (as' := [.int 0, .int s7.1]) (rest := []) (hc := (wLand wells_l s7.2 ways_l)) (hc' := (wLand wells_l x1 ways_l)) (hs' := (wLand wells_l x1 ways_l)) (Land_join_c hx) ok_mLand_join lk2_51 rfl (Sub.self _) (Aft.self rfl) ⟨_, _, rfl, by decide, rfl⟩ (Nat.le_trans (by decide : 2 + 1 ≤ 3) hZ) hC hL (Nat.le_of_ble_eq_true rfl) (by decide +kernel) ?_
      show V mLand_becomeShape Z cells slots 27 [some (.ref 0), some (.int v1), none, some (.int s7.1), none] [] (wLand wells_l x1 ways_l)
      refine V.blk [(.goto 11, 38, 0, 0, 0)] (by decide +kernel) (pc' := 38) (l' := [some (.ref 0), some (.int v1), none, some (.int s7.1), none]) (st' := []) (hs' := (wLand wells_l x1 ways_l)) rfl trivial rfl ?_
      exact Land_becomeShape_L7_J38_v hZ hC hL y h kI kR0
    · replace h := if_f h c3
      refine V.blk [(.aload_n 0, 0, 0, 0, 0), (.iload_n 3, 0, 0, 0, 0), (.iconst 1, 0, 0, 0, 1), (.isub, 0, 0, 0, 0), (.iload_n 3, 0, 0, 0, 0)] (by decide +kernel) (pc' := 35) (l' := [some (.ref 0), some (.int v1), none, some (.int s7.1), none]) (st' := [.int s7.1, .int (s7.1 - 1), .ref 0]) (hs' := (wLand wells_l s7.2 ways_l)) rfl trivial rfl ?_
      obtain ⟨x2, hx, h⟩ := ob_some h
      refine V.callV (ρ := fun j => j) (j0 := 0) (as' := [.int (s7.1 - 1), .int s7.1]) (rest := []) (hc := (wLand wells_l s7.2 ways_l)) (hc' := (wLand wells_l x2 ways_l)) (hs' := (wLand wells_l x2 ways_l)) (Land_join_c hx) ok_mLand_join lk2_51 rfl (Sub.self _) (Aft.self rfl) ⟨_, _, rfl, by decide, rfl⟩ (Nat.le_trans (by decide : 2 + 1 ≤ 3) hZ) hC hL (Nat.le_of_ble_eq_true rfl) (by decide +kernel) ?_
      show V mLand_becomeShape Z cells slots 38 [some (.ref 0), some (.int v1), none, some (.int s7.1), none] [] (wLand wells_l x2 ways_l)
      exact Land_becomeShape_L7_J38_v hZ hC hL y h kI kR0
  · replace h := if_f h c4
    replace h := Option.some.inj h
    subst h
    refine V.weak [true, true, true, false, true] (l' := [some (.ref 0), some (.int v1), none, none, none]) rfl rfl ?_
    exact kR0 s7.2 rfl

set_option maxHeartbeats 4000000 in
set_option maxRecDepth 20000 in
theorem Land_becomeShape_c {wells_l : Int32} {next_l : Nat → Int32} {ways_l : Nat → Int32} {a1 : Int32} {a2 : Int32} {y : Int32 × (Nat → Int32)} (h : Land_becomeShape wells_l next_l a1 a2 = some y) :
    C mLand_becomeShape 3 0 0 kpT [.ref 0, .int a1, .int a2] (wLand wells_l next_l ways_l) none (wLand y.1 y.2 ways_l) := by
  refine C.of rfl rfl (Nat.le_of_ble_eq_true rfl) rfl rfl ?_
  show V mLand_becomeShape (3, 0, 0, kpT, none, (wLand y.1 y.2 ways_l), 0, 0) 0 0 0 [some (.ref 0), some (.int a1), some (.int a2), none, none] [] (wLand wells_l next_l ways_l)
  unfold Land_becomeShape at h
  refine V.blk [(.aload_n 0, 0, 0, 0, 0), (.iload_n 2, 0, 0, 0, 0)] (by decide +kernel) (pc' := 2) (l' := [some (.ref 0), some (.int a1), some (.int a2), none, none]) (st' := [.int a2, .ref 0]) (hs' := (wLand wells_l next_l ways_l)) rfl trivial rfl ?_
  obtain ⟨x1, hx, h⟩ := ob_some h
  refine V.callV (ρ := fun j => j) (j0 := 0) (as' := [.int a2]) (rest := []) (hc := (wLand wells_l next_l ways_l)) (hc' := (wLand x1.1 x1.2 ways_l)) (hs' := (wLand x1.1 x1.2 ways_l)) (Land_bare_c hx) ok_mLand_bare lk2_47 rfl (Sub.self _) (Aft.self rfl) ⟨_, _, rfl, by decide, rfl⟩ (Nat.le_trans (by decide : 2 + 1 ≤ 3) (Nat.le_refl _)) (Nat.le_refl _) (Nat.le_refl _) (Nat.le_of_ble_eq_true rfl) (by decide +kernel) ?_
  show V mLand_becomeShape (3, 0, 0, kpT, none, (wLand y.1 y.2 ways_l), 0, 0) 0 0 5 [some (.ref 0), some (.int a1), some (.int a2), none, none] [] (wLand x1.1 x1.2 ways_l)
  refine V.blk [(.iconst 1, 0, 0, 0, 1), (.istore_n 3, 0, 0, 0, 0)] (by decide +kernel) (pc' := 7) (l' := [some (.ref 0), some (.int a1), some (.int a2), some (.int 1), none]) (st' := []) (hs' := (wLand x1.1 x1.2 ways_l)) rfl trivial rfl ?_
  refine V.weak [true, true, false, true, true] (l' := [some (.ref 0), some (.int a1), none, some (.int 1), none]) rfl rfl ?_
  obtain ⟨x2, hx, h⟩ := ob_some h
  refine lp_V (A := fun s7 : Int32 × (Nat → Int32) => V mLand_becomeShape (3, 0, 0, kpT, none, (wLand y.1 y.2 ways_l), 0, 0) 0 0 7 [some (.ref 0), some (.int a1), none, some (.int s7.1), none] [] (wLand x1.1 s7.2 ways_l)) (B := fun x2 : Nat → Int32 => V mLand_becomeShape (3, 0, 0, kpT, none, (wLand y.1 y.2 ways_l), 0, 0) 0 0 72 [some (.ref 0), some (.int a1), none, none, none] [] (wLand x1.1 x2 ways_l)) (s := (1, x1.2)) (fun sq yq hq kIq kRq => Land_becomeShape_L7_v (Z := (3, 0, 0, kpT, none, (wLand y.1 y.2 ways_l), 0, 0)) (cells := 0) (slots := 0) (Nat.le_refl _) (Nat.le_refl _) (Nat.le_refl _) sq yq hq kIq (fun r e => kRq r e)) hx ?_
  show V mLand_becomeShape (3, 0, 0, kpT, none, (wLand y.1 y.2 ways_l), 0, 0) 0 0 72 [some (.ref 0), some (.int a1), none, none, none] [] (wLand x1.1 x2 ways_l)
  refine V.blk [(.iload_n 1, 0, 0, 0, 0), (.bipush 82, 0, 0, 0, 82)] (by decide +kernel) (pc' := 75) (l' := [some (.ref 0), some (.int a1), none, none, none]) (st' := [.int 82, .int a1]) (hs' := (wLand x1.1 x2 ways_l)) rfl trivial rfl ?_
  refine V.ic_ne (tgt := 89) 14 (by decide +kernel) (by decide +kernel) (fun c4 => ?_) (fun c4 => ?_)
  · replace h := if_t h c4
    refine V.blk [(.aload_n 0, 0, 0, 0, 0), (.aload_n 0, 0, 0, 0, 0), (.getfield 18, 2, 0, 0, 0), (.iconst 1, 0, 0, 0, 1), (.isub, 0, 0, 0, 0), (.iconst 0, 0, 0, 0, 0)] (by decide +kernel) (pc' := 86) (l' := [some (.ref 0), some (.int a1), none, none, none]) (st' := [.int 0, .int (x1.1 - 1), .ref 0]) (hs' := (wLand x1.1 x2 ways_l)) rfl trivial rfl ?_
    obtain ⟨x3, hx, h⟩ := ob_some h
    refine V.callV (ρ := fun j => j) (j0 := 0) (as' := [.int (x1.1 - 1), .int 0]) (rest := []) (hc := (wLand x1.1 x2 ways_l)) (hc' := (wLand x1.1 x3 ways_l)) (hs' := (wLand x1.1 x3 ways_l)) (Land_join_c hx) ok_mLand_join lk2_51 rfl (Sub.self _) (Aft.self rfl) ⟨_, _, rfl, by decide, rfl⟩ (Nat.le_trans (by decide : 2 + 1 ≤ 3) (Nat.le_refl _)) (Nat.le_refl _) (Nat.le_refl _) (Nat.le_of_ble_eq_true rfl) (by decide +kernel) ?_
    show V mLand_becomeShape (3, 0, 0, kpT, none, (wLand y.1 y.2 ways_l), 0, 0) 0 0 89 [some (.ref 0), some (.int a1), none, none, none] [] (wLand x1.1 x3 ways_l)
    replace h := Option.some.inj h
    subst h
    exact V.vret rfl (Nat.le_refl _) (Nat.le_refl _) (by decide +kernel)
  · replace h := if_f h c4
    replace h := Option.some.inj h
    subst h
    exact V.vret rfl (Nat.le_refl _) (Nat.le_refl _) (by decide +kernel)

set_option maxHeartbeats 4000000 in
set_option maxRecDepth 20000 in
theorem Land_joinInProduct_L14_J46_v {Z : VZ} {cells slots : Nat} (hZ : 3 ≤ Z.1) (hC : cells ≤ Z.2.1) (hL : slots ≤ Z.2.2.1) {wells_l : Int32} {next_l : Nat → Int32} {ways_l : Nat → Int32} {wells_a : Int32} {next_a : Nat → Int32} {ways_a : Nat → Int32} {wells_b : Int32} {next_b : Nat → Int32} {ways_b : Nat → Int32} {v3 : Int32} {v4 : Int32} {v5 : Int32} {v6 : Int32} (y : (Int32 × (Nat → Int32)) ⊕ (Nat → Int32)) (h : Land_joinInProduct_L14_J46 v3 v4 v5 v6 wells_l next_l wells_a next_a wells_b = some y)  (kI : ∀ s' : Int32 × (Nat → Int32), y = .inl s' → V mLand_joinInProduct Z cells slots 14 [some (.ref 0), some (.ref 3), some (.ref 6), some (.int v3), some (.int v4), some (.int v5), some (.int s'.1)] [] (wLand3 wells_l s'.2 ways_l wells_a next_a ways_a wells_b next_b ways_b)) (kR0 : ∀ r : Nat → Int32, y = .inr r → V mLand_joinInProduct Z cells slots 52 [some (.ref 0), none, some (.ref 6), some (.int v3), some (.int v4), some (.int v5), none] [] (wLand3 wells_l r ways_l wells_a next_a ways_a wells_b next_b ways_b)) :
    V mLand_joinInProduct Z cells slots 46 [some (.ref 0), some (.ref 3), some (.ref 6), some (.int v3), some (.int v4), some (.int v5), some (.int v6)] [] (wLand3 wells_l next_l ways_l wells_a next_a ways_a wells_b next_b ways_b) := by
  unfold Land_joinInProduct_L14_J46 at h
  refine V.blk [(.iinc 6 1, 0, 0, 0, 1), (.goto (-35), 14, 0, 0, 0)] (by decide +kernel) (pc' := 14) (l' := [some (.ref 0), some (.ref 3), some (.ref 6), some (.int v3), some (.int v4), some (.int v5), some (.int (v6 + 1))]) (st' := []) (hs' := (wLand3 wells_l next_l ways_l wells_a next_a ways_a wells_b next_b ways_b)) rfl trivial rfl ?_
  replace h := Option.some.inj h
  subst h
  exact kI (v6 + 1, next_l) rfl

set_option maxHeartbeats 4000000 in
set_option maxRecDepth 20000 in
theorem Land_joinInProduct_L14_v {Z : VZ} {cells slots : Nat} (hZ : 3 ≤ Z.1) (hC : cells ≤ Z.2.1) (hL : slots ≤ Z.2.2.1) {wells_l : Int32} {ways_l : Nat → Int32} {wells_a : Int32} {next_a : Nat → Int32} {ways_a : Nat → Int32} {wells_b : Int32} {next_b : Nat → Int32} {ways_b : Nat → Int32} {v3 : Int32} {v4 : Int32} {v5 : Int32} (s14 : Int32 × (Nat → Int32)) (y : (Int32 × (Nat → Int32)) ⊕ (Nat → Int32)) (h : Land_joinInProduct_L14 v3 v4 v5 wells_l wells_a next_a wells_b s14 = some y)  (kI : ∀ s' : Int32 × (Nat → Int32), y = .inl s' → V mLand_joinInProduct Z cells slots 14 [some (.ref 0), some (.ref 3), some (.ref 6), some (.int v3), some (.int v4), some (.int v5), some (.int s'.1)] [] (wLand3 wells_l s'.2 ways_l wells_a next_a ways_a wells_b next_b ways_b)) (kR0 : ∀ r : Nat → Int32, y = .inr r → V mLand_joinInProduct Z cells slots 52 [some (.ref 0), none, some (.ref 6), some (.int v3), some (.int v4), some (.int v5), none] [] (wLand3 wells_l r ways_l wells_a next_a ways_a wells_b next_b ways_b)) :
    V mLand_joinInProduct Z cells slots 14 [some (.ref 0), some (.ref 3), some (.ref 6), some (.int v3), some (.int v4), some (.int v5), some (.int s14.1)] [] (wLand3 wells_l s14.2 ways_l wells_a next_a ways_a wells_b next_b ways_b) := by
  unfold Land_joinInProduct_L14 at h
  refine V.blk [(.iload 6, 0, 0, 0, 0), (.iload_n 3, 0, 0, 0, 0)] (by decide +kernel) (pc' := 17) (l' := [some (.ref 0), some (.ref 3), some (.ref 6), some (.int v3), some (.int v4), some (.int v5), some (.int s14.1)]) (st' := [.int v3, .int s14.1]) (hs' := (wLand3 wells_l s14.2 ways_l wells_a next_a ways_a wells_b next_b ways_b)) rfl trivial rfl ?_
  refine V.ic_ge (tgt := 52) 35 (by decide +kernel) (by decide +kernel) (fun c4 => ?_) (fun c4 => ?_)
  · replace h := if_t h c4
    refine V.blk [(.aload_n 1, 0, 0, 0, 0), (.iload_n 3, 0, 0, 0, 0), (.iload 6, 0, 0, 0, 0)] (by decide +kernel) (pc' := 24) (l' := [some (.ref 0), some (.ref 3), some (.ref 6), some (.int v3), some (.int v4), some (.int v5), some (.int s14.1)]) (st' := [.int s14.1, .int v3, .ref 3]) (hs' := (wLand3 wells_l s14.2 ways_l wells_a next_a ways_a wells_b next_b ways_b)) rfl trivial rfl ?_
    obtain ⟨x1, hx, h⟩ := ob_some h
    refine V.callV (ρ := fun j => [3, 4, 5].getD j 0) (j0 := 0) (as' := [.int v3, .int s14.1]) (rest := []) (hc := (wLand wells_a next_a ways_a)) (hc' := (wLand wells_a next_a ways_a)) (hs' := (wLand3 wells_l s14.2 ways_l wells_a next_a ways_a wells_b next_b ways_b)) (Land_areNext_c hx) ok_mLand_areNext lk2_59 rfl (Sub.list rfl rfl) (Aft.list rfl rfl rfl rfl) ⟨_, _, rfl, by decide, rfl⟩ (Nat.le_trans (by decide : 2 + 1 ≤ 3) hZ) hC hL (Nat.le_of_ble_eq_true rfl) (by decide +kernel) ?_
    show V mLand_joinInProduct Z cells slots 27 [some (.ref 0), some (.ref 3), some (.ref 6), some (.int v3), some (.int v4), some (.int v5), some (.int s14.1)] [.int x1] (wLand3 wells_l s14.2 ways_l wells_a next_a ways_a wells_b next_b ways_b)
    refine V.if_eq (tgt := 46) 19 (by decide +kernel) (by decide +kernel) (fun c3 => ?_) (fun c3 => ?_)
    · replace h := if_t h c3
      exact Land_joinInProduct_L14_J46_v hZ hC hL y h kI kR0
    · replace h := if_f h c3
      refine V.blk [(.aload_n 0, 0, 0, 0, 0), (.iload 5, 0, 0, 0, 0), (.iload 6, 0, 0, 0, 0), (.aload_n 2, 0, 0, 0, 0), (.getfield 18, 2, 0, 0, 0), (.imul, 0, 0, 0, 0), (.iload 4, 0, 0, 0, 0), (.iadd, 0, 0, 0, 0)] (by decide +kernel) (pc' := 43) (l' := [some (.ref 0), some (.ref 3), some (.ref 6), some (.int v3), some (.int v4), some (.int v5), some (.int s14.1)]) (st' := [.int ((s14.1 * wells_b) + v4), .int v5, .ref 0]) (hs' := (wLand3 wells_l s14.2 ways_l wells_a next_a ways_a wells_b next_b ways_b)) rfl trivial rfl ?_
      obtain ⟨x2, hx, h⟩ := ob_some h
      refine V.callV (ρ := fun j => [0, 1, 2].getD j 0) (j0 := 0) (as' := [.int v5, .int ((s14.1 * wells_b) + v4)]) (rest := []) (hc := (wLand wells_l s14.2 ways_l)) (hc' := (wLand wells_l x2 ways_l)) (hs' := (wLand3 wells_l x2 ways_l wells_a next_a ways_a wells_b next_b ways_b)) (Land_join_c hx) ok_mLand_join lk2_51 rfl (Sub.list rfl rfl) (Aft.list rfl rfl rfl rfl) ⟨_, _, rfl, by decide, rfl⟩ (Nat.le_trans (by decide : 2 + 1 ≤ 3) hZ) hC hL (Nat.le_of_ble_eq_true rfl) (by decide +kernel) ?_
      show V mLand_joinInProduct Z cells slots 46 [some (.ref 0), some (.ref 3), some (.ref 6), some (.int v3), some (.int v4), some (.int v5), some (.int s14.1)] [] (wLand3 wells_l x2 ways_l wells_a next_a ways_a wells_b next_b ways_b)
      exact Land_joinInProduct_L14_J46_v hZ hC hL y h kI kR0
  · replace h := if_f h c4
    replace h := Option.some.inj h
    subst h
    refine V.weak [true, false, true, true, true, true, false] (l' := [some (.ref 0), none, some (.ref 6), some (.int v3), some (.int v4), some (.int v5), none]) rfl rfl ?_
    exact kR0 s14.2 rfl

set_option maxHeartbeats 4000000 in
set_option maxRecDepth 20000 in
theorem Land_joinInProduct_L55_J88_v {Z : VZ} {cells slots : Nat} (hZ : 3 ≤ Z.1) (hC : cells ≤ Z.2.1) (hL : slots ≤ Z.2.2.1) {wells_l : Int32} {next_l : Nat → Int32} {ways_l : Nat → Int32} {wells_a : Int32} {next_a : Nat → Int32} {ways_a : Nat → Int32} {wells_b : Int32} {next_b : Nat → Int32} {ways_b : Nat → Int32} {v3 : Int32} {v4 : Int32} {v5 : Int32} {v6 : Int32} (y : (Int32 × (Nat → Int32)) ⊕ (Nat → Int32)) (h : Land_joinInProduct_L55_J88 v3 v4 v5 v6 wells_l next_l wells_b next_b = some y)  (kI : ∀ s' : Int32 × (Nat → Int32), y = .inl s' → V mLand_joinInProduct Z cells slots 55 [some (.ref 0), none, some (.ref 6), some (.int v3), some (.int v4), some (.int v5), some (.int s'.1)] [] (wLand3 wells_l s'.2 ways_l wells_a next_a ways_a wells_b next_b ways_b)) (kR0 : ∀ r : Nat → Int32, y = .inr r → V mLand_joinInProduct Z cells slots 94 [none, none, none, none, none, none, none] [] (wLand3 wells_l r ways_l wells_a next_a ways_a wells_b next_b ways_b)) :
    V mLand_joinInProduct Z cells slots 88 [some (.ref 0), none, some (.ref 6), some (.int v3), some (.int v4), some (.int v5), some (.int v6)] [] (wLand3 wells_l next_l ways_l wells_a next_a ways_a wells_b next_b ways_b) := by
  unfold Land_joinInProduct_L55_J88 at h
  refine V.blk [(.iinc 6 1, 0, 0, 0, 1), (.goto (-36), 55, 0, 0, 0)] (by decide +kernel) (pc' := 55) (l' := [some (.ref 0), none, some (.ref 6), some (.int v3), some (.int v4), some (.int v5), some (.int (v6 + 1))]) (st' := []) (hs' := (wLand3 wells_l next_l ways_l wells_a next_a ways_a wells_b next_b ways_b)) rfl trivial rfl ?_
  replace h := Option.some.inj h
  subst h
  exact kI (v6 + 1, next_l) rfl

set_option maxHeartbeats 4000000 in
set_option maxRecDepth 20000 in
theorem Land_joinInProduct_L55_v {Z : VZ} {cells slots : Nat} (hZ : 3 ≤ Z.1) (hC : cells ≤ Z.2.1) (hL : slots ≤ Z.2.2.1) {wells_l : Int32} {ways_l : Nat → Int32} {wells_a : Int32} {next_a : Nat → Int32} {ways_a : Nat → Int32} {wells_b : Int32} {next_b : Nat → Int32} {ways_b : Nat → Int32} {v3 : Int32} {v4 : Int32} {v5 : Int32} (s55 : Int32 × (Nat → Int32)) (y : (Int32 × (Nat → Int32)) ⊕ (Nat → Int32)) (h : Land_joinInProduct_L55 v3 v4 v5 wells_l wells_b next_b s55 = some y)  (kI : ∀ s' : Int32 × (Nat → Int32), y = .inl s' → V mLand_joinInProduct Z cells slots 55 [some (.ref 0), none, some (.ref 6), some (.int v3), some (.int v4), some (.int v5), some (.int s'.1)] [] (wLand3 wells_l s'.2 ways_l wells_a next_a ways_a wells_b next_b ways_b)) (kR0 : ∀ r : Nat → Int32, y = .inr r → V mLand_joinInProduct Z cells slots 94 [none, none, none, none, none, none, none] [] (wLand3 wells_l r ways_l wells_a next_a ways_a wells_b next_b ways_b)) :
    V mLand_joinInProduct Z cells slots 55 [some (.ref 0), none, some (.ref 6), some (.int v3), some (.int v4), some (.int v5), some (.int s55.1)] [] (wLand3 wells_l s55.2 ways_l wells_a next_a ways_a wells_b next_b ways_b) := by
  unfold Land_joinInProduct_L55 at h
  refine V.blk [(.iload 6, 0, 0, 0, 0), (.iload 4, 0, 0, 0, 0)] (by decide +kernel) (pc' := 59) (l' := [some (.ref 0), none, some (.ref 6), some (.int v3), some (.int v4), some (.int v5), some (.int s55.1)]) (st' := [.int v4, .int s55.1]) (hs' := (wLand3 wells_l s55.2 ways_l wells_a next_a ways_a wells_b next_b ways_b)) rfl trivial rfl ?_
  refine V.ic_ge (tgt := 94) 35 (by decide +kernel) (by decide +kernel) (fun c4 => ?_) (fun c4 => ?_)
  · replace h := if_t h c4
    refine V.blk [(.aload_n 2, 0, 0, 0, 0), (.iload 4, 0, 0, 0, 0), (.iload 6, 0, 0, 0, 0)] (by decide +kernel) (pc' := 67) (l' := [some (.ref 0), none, some (.ref 6), some (.int v3), some (.int v4), some (.int v5), some (.int s55.1)]) (st' := [.int s55.1, .int v4, .ref 6]) (hs' := (wLand3 wells_l s55.2 ways_l wells_a next_a ways_a wells_b next_b ways_b)) rfl trivial rfl ?_
    obtain ⟨x1, hx, h⟩ := ob_some h
    refine V.callV (ρ := fun j => [6, 7, 8].getD j 0) (j0 := 0) (as' := [.int v4, .int s55.1]) (rest := []) (hc := (wLand wells_b next_b ways_b)) (hc' := (wLand wells_b next_b ways_b)) (hs' := (wLand3 wells_l s55.2 ways_l wells_a next_a ways_a wells_b next_b ways_b)) (Land_areNext_c hx) ok_mLand_areNext lk2_59 rfl (Sub.list rfl rfl) (Aft.list rfl rfl rfl rfl) ⟨_, _, rfl, by decide, rfl⟩ (Nat.le_trans (by decide : 2 + 1 ≤ 3) hZ) hC hL (Nat.le_of_ble_eq_true rfl) (by decide +kernel) ?_
    show V mLand_joinInProduct Z cells slots 70 [some (.ref 0), none, some (.ref 6), some (.int v3), some (.int v4), some (.int v5), some (.int s55.1)] [.int x1] (wLand3 wells_l s55.2 ways_l wells_a next_a ways_a wells_b next_b ways_b)
    refine V.if_eq (tgt := 88) 18 (by decide +kernel) (by decide +kernel) (fun c3 => ?_) (fun c3 => ?_)
    · replace h := if_t h c3
      exact Land_joinInProduct_L55_J88_v hZ hC hL y h kI kR0
    · replace h := if_f h c3
      refine V.blk [(.aload_n 0, 0, 0, 0, 0), (.iload 5, 0, 0, 0, 0), (.iload_n 3, 0, 0, 0, 0), (.aload_n 2, 0, 0, 0, 0), (.getfield 18, 2, 0, 0, 0), (.imul, 0, 0, 0, 0), (.iload 6, 0, 0, 0, 0), (.iadd, 0, 0, 0, 0)] (by decide +kernel) (pc' := 85) (l' := [some (.ref 0), none, some (.ref 6), some (.int v3), some (.int v4), some (.int v5), some (.int s55.1)]) (st' := [.int ((v3 * wells_b) + s55.1), .int v5, .ref 0]) (hs' := (wLand3 wells_l s55.2 ways_l wells_a next_a ways_a wells_b next_b ways_b)) rfl trivial rfl ?_
      obtain ⟨x2, hx, h⟩ := ob_some h
      refine V.callV (ρ := fun j => [0, 1, 2].getD j 0) (j0 := 0) (as' := [.int v5, .int ((v3 * wells_b) + s55.1)]) (rest := []) (hc := (wLand wells_l s55.2 ways_l)) (hc' := (wLand wells_l x2 ways_l)) (hs' := (wLand3 wells_l x2 ways_l wells_a next_a ways_a wells_b next_b ways_b)) (Land_join_c hx) ok_mLand_join lk2_51 rfl (Sub.list rfl rfl) (Aft.list rfl rfl rfl rfl) ⟨_, _, rfl, by decide, rfl⟩ (Nat.le_trans (by decide : 2 + 1 ≤ 3) hZ) hC hL (Nat.le_of_ble_eq_true rfl) (by decide +kernel) ?_
      show V mLand_joinInProduct Z cells slots 88 [some (.ref 0), none, some (.ref 6), some (.int v3), some (.int v4), some (.int v5), some (.int s55.1)] [] (wLand3 wells_l x2 ways_l wells_a next_a ways_a wells_b next_b ways_b)
      exact Land_joinInProduct_L55_J88_v hZ hC hL y h kI kR0
  · replace h := if_f h c4
    replace h := Option.some.inj h
    subst h
    refine V.weak [false, true, false, false, false, false, false] (l' := [none, none, none, none, none, none, none]) rfl rfl ?_
    exact kR0 s55.2 rfl

set_option maxHeartbeats 4000000 in
set_option maxRecDepth 20000 in
theorem Land_joinInProduct_c {wells_l : Int32} {next_l : Nat → Int32} {ways_l : Nat → Int32} {wells_a : Int32} {next_a : Nat → Int32} {ways_a : Nat → Int32} {wells_b : Int32} {next_b : Nat → Int32} {ways_b : Nat → Int32} {a3 : Int32} {a4 : Int32} {y : Nat → Int32} (h : Land_joinInProduct wells_l next_l wells_a next_a wells_b next_b a3 a4 = some y) :
    C mLand_joinInProduct 3 0 0 kpT [.ref 0, .ref 3, .ref 6, .int a3, .int a4] (wLand3 wells_l next_l ways_l wells_a next_a ways_a wells_b next_b ways_b) none (wLand3 wells_l y ways_l wells_a next_a ways_a wells_b next_b ways_b) := by
  refine C.of rfl rfl (Nat.le_of_ble_eq_true rfl) rfl rfl ?_
  show V mLand_joinInProduct (3, 0, 0, kpT, none, (wLand3 wells_l y ways_l wells_a next_a ways_a wells_b next_b ways_b), 0, 0) 0 0 0 [some (.ref 0), some (.ref 3), some (.ref 6), some (.int a3), some (.int a4), none, none] [] (wLand3 wells_l next_l ways_l wells_a next_a ways_a wells_b next_b ways_b)
  unfold Land_joinInProduct at h
  refine V.blk [(.iload_n 3, 0, 0, 0, 0), (.aload_n 2, 0, 0, 0, 0), (.getfield 18, 2, 0, 0, 0), (.imul, 0, 0, 0, 0), (.iload 4, 0, 0, 0, 0), (.iadd, 0, 0, 0, 0), (.istore 5, 0, 0, 0, 0), (.iconst 0, 0, 0, 0, 0), (.istore 6, 0, 0, 0, 0)] (by decide +kernel) (pc' := 14) (l' := [some (.ref 0), some (.ref 3), some (.ref 6), some (.int a3), some (.int a4), some (.int ((a3 * wells_b) + a4)), some (.int 0)]) (st' := []) (hs' := (wLand3 wells_l next_l ways_l wells_a next_a ways_a wells_b next_b ways_b)) rfl trivial rfl ?_
  obtain ⟨x1, hx, h⟩ := ob_some h
  refine lp_V (A := fun s14 : Int32 × (Nat → Int32) => V mLand_joinInProduct (3, 0, 0, kpT, none, (wLand3 wells_l y ways_l wells_a next_a ways_a wells_b next_b ways_b), 0, 0) 0 0 14 [some (.ref 0), some (.ref 3), some (.ref 6), some (.int a3), some (.int a4), some (.int ((a3 * wells_b) + a4)), some (.int s14.1)] [] (wLand3 wells_l s14.2 ways_l wells_a next_a ways_a wells_b next_b ways_b)) (B := fun x1 : Nat → Int32 => V mLand_joinInProduct (3, 0, 0, kpT, none, (wLand3 wells_l y ways_l wells_a next_a ways_a wells_b next_b ways_b), 0, 0) 0 0 52 [some (.ref 0), none, some (.ref 6), some (.int a3), some (.int a4), some (.int ((a3 * wells_b) + a4)), none] [] (wLand3 wells_l x1 ways_l wells_a next_a ways_a wells_b next_b ways_b)) (s := (0, next_l)) (fun sq yq hq kIq kRq => Land_joinInProduct_L14_v (Z := (3, 0, 0, kpT, none, (wLand3 wells_l y ways_l wells_a next_a ways_a wells_b next_b ways_b), 0, 0)) (cells := 0) (slots := 0) (Nat.le_refl _) (Nat.le_refl _) (Nat.le_refl _) sq yq hq kIq (fun r e => kRq r e)) hx ?_
  show V mLand_joinInProduct (3, 0, 0, kpT, none, (wLand3 wells_l y ways_l wells_a next_a ways_a wells_b next_b ways_b), 0, 0) 0 0 52 [some (.ref 0), none, some (.ref 6), some (.int a3), some (.int a4), some (.int ((a3 * wells_b) + a4)), none] [] (wLand3 wells_l x1 ways_l wells_a next_a ways_a wells_b next_b ways_b)
  refine V.blk [(.iconst 0, 0, 0, 0, 0), (.istore 6, 0, 0, 0, 0)] (by decide +kernel) (pc' := 55) (l' := [some (.ref 0), none, some (.ref 6), some (.int a3), some (.int a4), some (.int ((a3 * wells_b) + a4)), some (.int 0)]) (st' := []) (hs' := (wLand3 wells_l x1 ways_l wells_a next_a ways_a wells_b next_b ways_b)) rfl trivial rfl ?_
  obtain ⟨x2, hx, h⟩ := ob_some h
  refine lp_V (A := fun s55 : Int32 × (Nat → Int32) => V mLand_joinInProduct (3, 0, 0, kpT, none, (wLand3 wells_l y ways_l wells_a next_a ways_a wells_b next_b ways_b), 0, 0) 0 0 55 [some (.ref 0), none, some (.ref 6), some (.int a3), some (.int a4), some (.int ((a3 * wells_b) + a4)), some (.int s55.1)] [] (wLand3 wells_l s55.2 ways_l wells_a next_a ways_a wells_b next_b ways_b)) (B := fun x2 : Nat → Int32 => V mLand_joinInProduct (3, 0, 0, kpT, none, (wLand3 wells_l y ways_l wells_a next_a ways_a wells_b next_b ways_b), 0, 0) 0 0 94 [none, none, none, none, none, none, none] [] (wLand3 wells_l x2 ways_l wells_a next_a ways_a wells_b next_b ways_b)) (s := (0, x1)) (fun sq yq hq kIq kRq => Land_joinInProduct_L55_v (Z := (3, 0, 0, kpT, none, (wLand3 wells_l y ways_l wells_a next_a ways_a wells_b next_b ways_b), 0, 0)) (cells := 0) (slots := 0) (Nat.le_refl _) (Nat.le_refl _) (Nat.le_refl _) sq yq hq kIq (fun r e => kRq r e)) hx ?_
  show V mLand_joinInProduct (3, 0, 0, kpT, none, (wLand3 wells_l y ways_l wells_a next_a ways_a wells_b next_b ways_b), 0, 0) 0 0 94 [none, none, none, none, none, none, none] [] (wLand3 wells_l x2 ways_l wells_a next_a ways_a wells_b next_b ways_b)
  replace h := Option.some.inj h
  subst h
  exact V.vret rfl (Nat.le_refl _) (Nat.le_refl _) (by decide +kernel)

set_option maxHeartbeats 4000000 in
set_option maxRecDepth 20000 in
theorem Land_becomeProduct_L26_v {Z : VZ} {cells slots : Nat} (hZ : 4 ≤ Z.1) (hC : cells ≤ Z.2.1) (hL : slots ≤ Z.2.2.1) {wells_l : Int32} {ways_l : Nat → Int32} {wells_a : Int32} {next_a : Nat → Int32} {ways_a : Nat → Int32} {wells_b : Int32} {next_b : Nat → Int32} {ways_b : Nat → Int32} {v3 : Int32} (s26 : Int32 × (Nat → Int32)) (y : (Int32 × (Nat → Int32)) ⊕ (Nat → Int32)) (h : Land_becomeProduct_L26 v3 wells_l wells_a next_a wells_b next_b s26 = some y)  (kI : ∀ s' : Int32 × (Nat → Int32), y = .inl s' → V mLand_becomeProduct Z cells slots 26 [some (.ref 0), some (.ref 3), some (.ref 6), some (.int v3), some (.int s'.1)] [] (wLand3 wells_l s'.2 ways_l wells_a next_a ways_a wells_b next_b ways_b)) (kR0 : ∀ r : Nat → Int32, y = .inr r → V mLand_becomeProduct Z cells slots 50 [some (.ref 0), some (.ref 3), some (.ref 6), some (.int v3), none] [] (wLand3 wells_l r ways_l wells_a next_a ways_a wells_b next_b ways_b)) :
    V mLand_becomeProduct Z cells slots 26 [some (.ref 0), some (.ref 3), some (.ref 6), some (.int v3), some (.int s26.1)] [] (wLand3 wells_l s26.2 ways_l wells_a next_a ways_a wells_b next_b ways_b) := by
  unfold Land_becomeProduct_L26 at h
  refine V.blk [(.iload 4, 0, 0, 0, 0), (.aload_n 2, 0, 0, 0, 0), (.getfield 18, 2, 0, 0, 0)] (by decide +kernel) (pc' := 32) (l' := [some (.ref 0), some (.ref 3), some (.ref 6), some (.int v3), some (.int s26.1)]) (st' := [.int wells_b, .int s26.1]) (hs' := (wLand3 wells_l s26.2 ways_l wells_a next_a ways_a wells_b next_b ways_b)) rfl trivial rfl ?_
  refine V.ic_ge (tgt := 50) 18 (by decide +kernel) (by decide +kernel) (fun c2 => ?_) (fun c2 => ?_)
  · replace h := if_t h c2
    refine V.blk [(.aload_n 0, 0, 0, 0, 0), (.aload_n 1, 0, 0, 0, 0), (.aload_n 2, 0, 0, 0, 0), (.iload_n 3, 0, 0, 0, 0), (.iload 4, 0, 0, 0, 0)] (by decide +kernel) (pc' := 41) (l' := [some (.ref 0), some (.ref 3), some (.ref 6), some (.int v3), some (.int s26.1)]) (st' := [.int s26.1, .int v3, .ref 6, .ref 3, .ref 0]) (hs' := (wLand3 wells_l s26.2 ways_l wells_a next_a ways_a wells_b next_b ways_b)) rfl trivial rfl ?_
    obtain ⟨x1, hx, h⟩ := ob_some h
    refine V.callV (ρ := fun j => j) (j0 := 0) (as' := [.ref 3, .ref 6, .int v3, .int s26.1]) (rest := []) (hc := (wLand3 wells_l s26.2 ways_l wells_a next_a ways_a wells_b next_b ways_b)) (hc' := (wLand3 wells_l x1 ways_l wells_a next_a ways_a wells_b next_b ways_b)) (hs' := (wLand3 wells_l x1 ways_l wells_a next_a ways_a wells_b next_b ways_b)) (Land_joinInProduct_c hx) ok_mLand_joinInProduct lk2_55 rfl (Sub.self _) (Aft.self rfl) ⟨_, _, rfl, by decide, rfl⟩ (Nat.le_trans (by decide : 3 + 1 ≤ 4) hZ) hC hL (Nat.le_of_ble_eq_true rfl) (by decide +kernel) ?_
    show V mLand_becomeProduct Z cells slots 44 [some (.ref 0), some (.ref 3), some (.ref 6), some (.int v3), some (.int s26.1)] [] (wLand3 wells_l x1 ways_l wells_a next_a ways_a wells_b next_b ways_b)
    refine V.blk [(.iinc 4 1, 0, 0, 0, 1), (.goto (-21), 26, 0, 0, 0)] (by decide +kernel) (pc' := 26) (l' := [some (.ref 0), some (.ref 3), some (.ref 6), some (.int v3), some (.int (s26.1 + 1))]) (st' := []) (hs' := (wLand3 wells_l x1 ways_l wells_a next_a ways_a wells_b next_b ways_b)) rfl trivial rfl ?_
    replace h := Option.some.inj h
    subst h
    exact kI (s26.1 + 1, x1) rfl
  · replace h := if_f h c2
    replace h := Option.some.inj h
    subst h
    refine V.weak [true, true, true, true, false] (l' := [some (.ref 0), some (.ref 3), some (.ref 6), some (.int v3), none]) rfl rfl ?_
    exact kR0 s26.2 rfl

set_option maxHeartbeats 4000000 in
set_option maxRecDepth 20000 in
theorem Land_becomeProduct_L15_v {Z : VZ} {cells slots : Nat} (hZ : 4 ≤ Z.1) (hC : cells ≤ Z.2.1) (hL : slots ≤ Z.2.2.1) {wells_l : Int32} {ways_l : Nat → Int32} {wells_a : Int32} {next_a : Nat → Int32} {ways_a : Nat → Int32} {wells_b : Int32} {next_b : Nat → Int32} {ways_b : Nat → Int32}  (s15 : Int32 × (Nat → Int32)) (y : (Int32 × (Nat → Int32)) ⊕ (Nat → Int32)) (h : Land_becomeProduct_L15 wells_l wells_a next_a wells_b next_b s15 = some y)  (kI : ∀ s' : Int32 × (Nat → Int32), y = .inl s' → V mLand_becomeProduct Z cells slots 15 [some (.ref 0), some (.ref 3), some (.ref 6), some (.int s'.1), none] [] (wLand3 wells_l s'.2 ways_l wells_a next_a ways_a wells_b next_b ways_b)) (kR0 : ∀ r : Nat → Int32, y = .inr r → V mLand_becomeProduct Z cells slots 56 [none, none, none, none, none] [] (wLand3 wells_l r ways_l wells_a next_a ways_a wells_b next_b ways_b)) :
    V mLand_becomeProduct Z cells slots 15 [some (.ref 0), some (.ref 3), some (.ref 6), some (.int s15.1), none] [] (wLand3 wells_l s15.2 ways_l wells_a next_a ways_a wells_b next_b ways_b) := by
  unfold Land_becomeProduct_L15 at h
  refine V.blk [(.iload_n 3, 0, 0, 0, 0), (.aload_n 1, 0, 0, 0, 0), (.getfield 18, 2, 0, 0, 0)] (by decide +kernel) (pc' := 20) (l' := [some (.ref 0), some (.ref 3), some (.ref 6), some (.int s15.1), none]) (st' := [.int wells_a, .int s15.1]) (hs' := (wLand3 wells_l s15.2 ways_l wells_a next_a ways_a wells_b next_b ways_b)) rfl trivial rfl ?_
  refine V.ic_ge (tgt := 56) 36 (by decide +kernel) (by decide +kernel) (fun c2 => ?_) (fun c2 => ?_)
  · replace h := if_t h c2
    refine V.blk [(.iconst 0, 0, 0, 0, 0), (.istore 4, 0, 0, 0, 0)] (by decide +kernel) (pc' := 26) (l' := [some (.ref 0), some (.ref 3), some (.ref 6), some (.int s15.1), some (.int 0)]) (st' := []) (hs' := (wLand3 wells_l s15.2 ways_l wells_a next_a ways_a wells_b next_b ways_b)) rfl trivial rfl ?_
    obtain ⟨x1, hx, h⟩ := ob_some h
    refine lp_V (A := fun s26 : Int32 × (Nat → Int32) => V mLand_becomeProduct Z cells slots 26 [some (.ref 0), some (.ref 3), some (.ref 6), some (.int s15.1), some (.int s26.1)] [] (wLand3 wells_l s26.2 ways_l wells_a next_a ways_a wells_b next_b ways_b)) (B := fun x1 : Nat → Int32 => V mLand_becomeProduct Z cells slots 50 [some (.ref 0), some (.ref 3), some (.ref 6), some (.int s15.1), none] [] (wLand3 wells_l x1 ways_l wells_a next_a ways_a wells_b next_b ways_b)) (s := (0, s15.2)) (fun sq yq hq kIq kRq => Land_becomeProduct_L26_v (Z := Z) (cells := cells) (slots := slots) hZ hC hL sq yq hq kIq (fun r e => kRq r e)) hx ?_
    show V mLand_becomeProduct Z cells slots 50 [some (.ref 0), some (.ref 3), some (.ref 6), some (.int s15.1), none] [] (wLand3 wells_l x1 ways_l wells_a next_a ways_a wells_b next_b ways_b)
    refine V.blk [(.iinc 3 1, 0, 0, 0, 1), (.goto (-38), 15, 0, 0, 0)] (by decide +kernel) (pc' := 15) (l' := [some (.ref 0), some (.ref 3), some (.ref 6), some (.int (s15.1 + 1)), none]) (st' := []) (hs' := (wLand3 wells_l x1 ways_l wells_a next_a ways_a wells_b next_b ways_b)) rfl trivial rfl ?_
    replace h := Option.some.inj h
    subst h
    exact kI (s15.1 + 1, x1) rfl
  · replace h := if_f h c2
    replace h := Option.some.inj h
    subst h
    refine V.weak [false, false, false, false, true] (l' := [none, none, none, none, none]) rfl rfl ?_
    exact kR0 s15.2 rfl

set_option maxHeartbeats 4000000 in
set_option maxRecDepth 20000 in
theorem Land_becomeProduct_c {wells_l : Int32} {next_l : Nat → Int32} {ways_l : Nat → Int32} {wells_a : Int32} {next_a : Nat → Int32} {ways_a : Nat → Int32} {wells_b : Int32} {next_b : Nat → Int32} {ways_b : Nat → Int32}  {y : Int32 × (Nat → Int32)} (h : Land_becomeProduct wells_l next_l wells_a next_a wells_b next_b = some y) :
    C mLand_becomeProduct 4 0 0 kpT [.ref 0, .ref 3, .ref 6] (wLand3 wells_l next_l ways_l wells_a next_a ways_a wells_b next_b ways_b) none (wLand3 y.1 y.2 ways_l wells_a next_a ways_a wells_b next_b ways_b) := by
  refine C.of rfl rfl (Nat.le_of_ble_eq_true rfl) rfl rfl ?_
  show V mLand_becomeProduct (4, 0, 0, kpT, none, (wLand3 y.1 y.2 ways_l wells_a next_a ways_a wells_b next_b ways_b), 0, 0) 0 0 0 [some (.ref 0), some (.ref 3), some (.ref 6), none, none] [] (wLand3 wells_l next_l ways_l wells_a next_a ways_a wells_b next_b ways_b)
  unfold Land_becomeProduct at h
  refine V.blk [(.aload_n 0, 0, 0, 0, 0), (.aload_n 1, 0, 0, 0, 0), (.getfield 18, 2, 0, 0, 0), (.aload_n 2, 0, 0, 0, 0), (.getfield 18, 2, 0, 0, 0), (.imul, 0, 0, 0, 0)] (by decide +kernel) (pc' := 10) (l' := [some (.ref 0), some (.ref 3), some (.ref 6), none, none]) (st' := [.int (wells_a * wells_b), .ref 0]) (hs' := (wLand3 wells_l next_l ways_l wells_a next_a ways_a wells_b next_b ways_b)) rfl trivial rfl ?_
  obtain ⟨x1, hx, h⟩ := ob_some h
  refine V.callV (ρ := fun j => [0, 1, 2].getD j 0) (j0 := 0) (as' := [.int (wells_a * wells_b)]) (rest := []) (hc := (wLand wells_l next_l ways_l)) (hc' := (wLand x1.1 x1.2 ways_l)) (hs' := (wLand3 x1.1 x1.2 ways_l wells_a next_a ways_a wells_b next_b ways_b)) (Land_bare_c hx) ok_mLand_bare lk2_47 rfl (Sub.list rfl rfl) (Aft.list rfl rfl rfl rfl) ⟨_, _, rfl, by decide, rfl⟩ (Nat.le_trans (by decide : 2 + 1 ≤ 4) (Nat.le_refl _)) (Nat.le_refl _) (Nat.le_refl _) (Nat.le_of_ble_eq_true rfl) (by decide +kernel) ?_
  show V mLand_becomeProduct (4, 0, 0, kpT, none, (wLand3 y.1 y.2 ways_l wells_a next_a ways_a wells_b next_b ways_b), 0, 0) 0 0 13 [some (.ref 0), some (.ref 3), some (.ref 6), none, none] [] (wLand3 x1.1 x1.2 ways_l wells_a next_a ways_a wells_b next_b ways_b)
  refine V.blk [(.iconst 0, 0, 0, 0, 0), (.istore_n 3, 0, 0, 0, 0)] (by decide +kernel) (pc' := 15) (l' := [some (.ref 0), some (.ref 3), some (.ref 6), some (.int 0), none]) (st' := []) (hs' := (wLand3 x1.1 x1.2 ways_l wells_a next_a ways_a wells_b next_b ways_b)) rfl trivial rfl ?_
  obtain ⟨x2, hx, h⟩ := ob_some h
  refine lp_V (A := fun s15 : Int32 × (Nat → Int32) => V mLand_becomeProduct (4, 0, 0, kpT, none, (wLand3 y.1 y.2 ways_l wells_a next_a ways_a wells_b next_b ways_b), 0, 0) 0 0 15 [some (.ref 0), some (.ref 3), some (.ref 6), some (.int s15.1), none] [] (wLand3 x1.1 s15.2 ways_l wells_a next_a ways_a wells_b next_b ways_b)) (B := fun x2 : Nat → Int32 => V mLand_becomeProduct (4, 0, 0, kpT, none, (wLand3 y.1 y.2 ways_l wells_a next_a ways_a wells_b next_b ways_b), 0, 0) 0 0 56 [none, none, none, none, none] [] (wLand3 x1.1 x2 ways_l wells_a next_a ways_a wells_b next_b ways_b)) (s := (0, x1.2)) (fun sq yq hq kIq kRq => Land_becomeProduct_L15_v (Z := (4, 0, 0, kpT, none, (wLand3 y.1 y.2 ways_l wells_a next_a ways_a wells_b next_b ways_b), 0, 0)) (cells := 0) (slots := 0) (Nat.le_refl _) (Nat.le_refl _) (Nat.le_refl _) sq yq hq kIq (fun r e => kRq r e)) hx ?_
  show V mLand_becomeProduct (4, 0, 0, kpT, none, (wLand3 y.1 y.2 ways_l wells_a next_a ways_a wells_b next_b ways_b), 0, 0) 0 0 56 [none, none, none, none, none] [] (wLand3 x1.1 x2 ways_l wells_a next_a ways_a wells_b next_b ways_b)
  replace h := Option.some.inj h
  subst h
  exact V.vret rfl (Nat.le_refl _) (Nat.le_refl _) (by decide +kernel)

set_option maxHeartbeats 4000000 in
set_option maxRecDepth 20000 in
theorem Land_measureFrom_L28_J72_v {Z : VZ} {cells slots : Nat} (hZ : 1 ≤ Z.1) (hC : cells ≤ Z.2.1) (hL : slots ≤ Z.2.2.1) {wells_l : Int32} {next_l : Nat → Int32} {ways_l : Nat → Int32} {v1 : Int32} {v2 : Int32} {v3 : Int32} {v4 : Int32} {v5 : Int32} {v6 : Int32} (y : (Int32 × Int32 × (Nat → Int32)) ⊕ (Int32 × (Nat → Int32))) (h : Land_measureFrom_L28_J72 v1 v2 v3 v4 v5 v6 wells_l next_l ways_l = some y)  (kI : ∀ s' : Int32 × Int32 × (Nat → Int32), y = .inl s' → V mLand_measureFrom Z cells slots 28 [some (.ref 0), some (.int v1), some (.int v2), some (.int v3), some (.int v4), some (.int s'.1), some (.int s'.2.1)] [] (wLand wells_l next_l s'.2.2)) (kR0 : ∀ r : Int32 × (Nat → Int32), y = .inr r → V mLand_measureFrom Z cells slots 78 [some (.ref 0), some (.int v1), some (.int v2), none, some (.int v4), some (.int r.1), none] [] (wLand wells_l next_l r.2)) :
    V mLand_measureFrom Z cells slots 72 [some (.ref 0), some (.int v1), some (.int v2), some (.int v3), some (.int v4), some (.int v5), some (.int v6)] [] (wLand wells_l next_l ways_l) := by
  unfold Land_measureFrom_L28_J72 at h
  refine V.blk [(.iinc 6 1, 0, 0, 0, 1), (.goto (-47), 28, 0, 0, 0)] (by decide +kernel) (pc' := 28) (l' := [some (.ref 0), some (.int v1), some (.int v2), some (.int v3), some (.int v4), some (.int v5), some (.int (v6 + 1))]) (st' := []) (hs' := (wLand wells_l next_l ways_l)) rfl trivial rfl ?_
  replace h := Option.some.inj h
  subst h
  exact kI (v5, v6 + 1, ways_l) rfl

set_option maxHeartbeats 4000000 in
set_option maxRecDepth 20000 in
theorem Land_measureFrom_L28_v {Z : VZ} {cells slots : Nat} (hZ : 1 ≤ Z.1) (hC : cells ≤ Z.2.1) (hL : slots ≤ Z.2.2.1) {wells_l : Int32} {next_l : Nat → Int32} {v1 : Int32} {v2 : Int32} {v3 : Int32} {v4 : Int32} (s28 : Int32 × Int32 × (Nat → Int32)) (y : (Int32 × Int32 × (Nat → Int32)) ⊕ (Int32 × (Nat → Int32))) (h : Land_measureFrom_L28 v1 v2 v3 v4 wells_l next_l s28 = some y)  (kI : ∀ s' : Int32 × Int32 × (Nat → Int32), y = .inl s' → V mLand_measureFrom Z cells slots 28 [some (.ref 0), some (.int v1), some (.int v2), some (.int v3), some (.int v4), some (.int s'.1), some (.int s'.2.1)] [] (wLand wells_l next_l s'.2.2)) (kR0 : ∀ r : Int32 × (Nat → Int32), y = .inr r → V mLand_measureFrom Z cells slots 78 [some (.ref 0), some (.int v1), some (.int v2), none, some (.int v4), some (.int r.1), none] [] (wLand wells_l next_l r.2)) :
    V mLand_measureFrom Z cells slots 28 [some (.ref 0), some (.int v1), some (.int v2), some (.int v3), some (.int v4), some (.int s28.1), some (.int s28.2.1)] [] (wLand wells_l next_l s28.2.2) := by
  unfold Land_measureFrom_L28 at h
  refine V.blk [(.iload 6, 0, 0, 0, 0), (.aload_n 0, 0, 0, 0, 0), (.getfield 18, 2, 0, 0, 0)] (by decide +kernel) (pc' := 34) (l' := [some (.ref 0), some (.int v1), some (.int v2), some (.int v3), some (.int v4), some (.int s28.1), some (.int s28.2.1)]) (st' := [.int wells_l, .int s28.2.1]) (hs' := (wLand wells_l next_l s28.2.2)) rfl trivial rfl ?_
  refine V.ic_ge (tgt := 78) 44 (by decide +kernel) (by decide +kernel) (fun c4 => ?_) (fun c4 => ?_)
  · replace h := if_t h c4
    refine V.blk [(.iload_n 3, 0, 0, 0, 0), (.iload 6, 0, 0, 0, 0), (.ishr, 0, 0, 0, 0), (.iconst 1, 0, 0, 0, 1), (.iand, 0, 0, 0, 0)] (by decide +kernel) (pc' := 43) (l' := [some (.ref 0), some (.int v1), some (.int v2), some (.int v3), some (.int v4), some (.int s28.1), some (.int s28.2.1)]) (st' := [.int ((v3 >>> (s28.2.1 &&& 31)) &&& 1)]) (hs' := (wLand wells_l next_l s28.2.2)) rfl trivial rfl ?_
    refine V.if_eq (tgt := 72) 29 (by decide +kernel) (by decide +kernel) (fun c3 => ?_) (fun c3 => ?_)
    · replace h := if_t h c3
      exact Land_measureFrom_L28_J72_v hZ hC hL y h kI kR0
    · replace h := if_f h c3
      obtain ⟨g1, h⟩ := gd_some h
      obtain ⟨g2, h⟩ := gd_some h
      refine V.blk [(.aload_n 0, 0, 0, 0, 0), (.getfield 15, 2, 2, 0, 0), (.iload_n 1, 0, 0, 0, 0), (.bipush 12, 0, 0, 0, 12), (.imul, 0, 0, 0, 0), (.iload 6, 0, 0, 0, 0), (.iadd, 0, 0, 0, 0), (.iload 4, 0, 0, 0, 0), (.iastore, 0, 0, 0, 0), (.iload 5, 0, 0, 0, 0), (.aload_n 0, 0, 0, 0, 0), (.getfield 9, 2, 1, 0, 0), (.iload 6, 0, 0, 0, 0), (.iaload, 0, 0, 0, 0), (.ior, 0, 0, 0, 0), (.istore 5, 0, 0, 0, 0)] (by decide +kernel) (pc' := 72) (l' := [some (.ref 0), some (.int v1), some (.int v2), some (.int v3), some (.int v4), some (.int (s28.1 ||| (next_l (s28.2.1 : Int32).toNatClampNeg))), some (.int s28.2.1)]) (st' := []) (hs' := (wLand wells_l next_l (upd s28.2.2 ((v1 * 12) + s28.2.1 : Int32).toNatClampNeg v4))) rfl ⟨g1, g2, trivial⟩ rfl ?_
      exact Land_measureFrom_L28_J72_v hZ hC hL y h kI kR0
  · replace h := if_f h c4
    replace h := Option.some.inj h
    subst h
    refine V.weak [true, true, true, false, true, true, false] (l' := [some (.ref 0), some (.int v1), some (.int v2), none, some (.int v4), some (.int s28.1), none]) rfl rfl ?_
    exact kR0 (s28.1, s28.2.2) rfl

set_option maxHeartbeats 4000000 in
set_option maxRecDepth 20000 in
theorem Land_measureFrom_L9_v {Z : VZ} {cells slots : Nat} (hZ : 1 ≤ Z.1) (hC : cells ≤ Z.2.1) (hL : slots ≤ Z.2.2.1) {wells_l : Int32} {next_l : Nat → Int32} {v1 : Int32} (s9 : Int32 × Int32 × Int32 × (Nat → Int32)) (y : (Int32 × Int32 × Int32 × (Nat → Int32)) ⊕ (Nat → Int32)) (h : Land_measureFrom_L9 v1 wells_l next_l s9 = some y)  (kI : ∀ s' : Int32 × Int32 × Int32 × (Nat → Int32), y = .inl s' → V mLand_measureFrom Z cells slots 9 [some (.ref 0), some (.int v1), some (.int s'.1), some (.int s'.2.1), some (.int s'.2.2.1), none, none] [] (wLand wells_l next_l s'.2.2.2)) (kR0 : ∀ r : Nat → Int32, y = .inr r → V mLand_measureFrom Z cells slots 95 [none, none, none, none, none, none, none] [] (wLand wells_l next_l r)) :
    V mLand_measureFrom Z cells slots 9 [some (.ref 0), some (.int v1), some (.int s9.1), some (.int s9.2.1), some (.int s9.2.2.1), none, none] [] (wLand wells_l next_l s9.2.2.2) := by
  unfold Land_measureFrom_L9 at h
  refine V.blk [(.iload 4, 0, 0, 0, 0), (.aload_n 0, 0, 0, 0, 0), (.getfield 18, 2, 0, 0, 0)] (by decide +kernel) (pc' := 15) (l' := [some (.ref 0), some (.int v1), some (.int s9.1), some (.int s9.2.1), some (.int s9.2.2.1), none, none]) (st' := [.int wells_l, .int s9.2.2.1]) (hs' := (wLand wells_l next_l s9.2.2.2)) rfl trivial rfl ?_
  refine V.ic_ge (tgt := 95) 80 (by decide +kernel) (by decide +kernel) (fun c3 => ?_) (fun c3 => ?_)
  · replace h := if_t h c3
    refine V.blk [(.iload_n 3, 0, 0, 0, 0)] (by decide +kernel) (pc' := 19) (l' := [some (.ref 0), some (.int v1), some (.int s9.1), some (.int s9.2.1), some (.int s9.2.2.1), none, none]) (st' := [.int s9.2.1]) (hs' := (wLand wells_l next_l s9.2.2.2)) rfl trivial rfl ?_
    refine V.if_eq (tgt := 95) 76 (by decide +kernel) (by decide +kernel) (fun c2 => ?_) (fun c2 => ?_)
    · replace h := if_t h c2
      replace h := Option.some.inj h
      subst h
      refine V.weak [false, false, false, false, false, true, true] (l' := [none, none, none, none, none, none, none]) rfl rfl ?_
      exact kR0 s9.2.2.2 rfl
    · replace h := if_f h c2
      refine V.blk [(.iconst 0, 0, 0, 0, 0), (.istore 5, 0, 0, 0, 0), (.iconst 0, 0, 0, 0, 0), (.istore 6, 0, 0, 0, 0)] (by decide +kernel) (pc' := 28) (l' := [some (.ref 0), some (.int v1), some (.int s9.1), some (.int s9.2.1), some (.int s9.2.2.1), some (.int 0), some (.int 0)]) (st' := []) (hs' := (wLand wells_l next_l s9.2.2.2)) rfl trivial rfl ?_
      obtain ⟨x1, hx, h⟩ := ob_some h
      refine lp_V (A := fun s28 : Int32 × Int32 × (Nat → Int32) => V mLand_measureFrom Z cells slots 28 [some (.ref 0), some (.int v1), some (.int s9.1), some (.int s9.2.1), some (.int s9.2.2.1), some (.int s28.1), some (.int s28.2.1)] [] (wLand wells_l next_l s28.2.2)) (B := fun x1 : Int32 × (Nat → Int32) => V mLand_measureFrom Z cells slots 78 [some (.ref 0), some (.int v1), some (.int s9.1), none, some (.int s9.2.2.1), some (.int x1.1), none] [] (wLand wells_l next_l x1.2)) (s := (0, 0, s9.2.2.2)) (fun sq yq hq kIq kRq => Land_measureFrom_L28_v (Z := Z) (cells := cells) (slots := slots) hZ hC hL sq yq hq kIq (fun r e => kRq r e)) hx ?_
      show V mLand_measureFrom Z cells slots 78 [some (.ref 0), some (.int v1), some (.int s9.1), none, some (.int s9.2.2.1), some (.int x1.1), none] [] (wLand wells_l next_l x1.2)
      refine V.blk [(.iload 5, 0, 0, 0, 0), (.iload_n 2, 0, 0, 0, 0), (.iconst (-1), 0, 0, 0, (-1)), (.ixor, 0, 0, 0, 0), (.iand, 0, 0, 0, 0), (.istore_n 3, 0, 0, 0, 0), (.iload_n 2, 0, 0, 0, 0), (.iload_n 3, 0, 0, 0, 0), (.ior, 0, 0, 0, 0), (.istore_n 2, 0, 0, 0, 0), (.iinc 4 1, 0, 0, 0, 1), (.goto (-83), 9, 0, 0, 0)] (by decide +kernel) (pc' := 9) (l' := [some (.ref 0), some (.int v1), some (.int (s9.1 ||| (x1.1 &&& (s9.1 ^^^ (-1))))), some (.int (x1.1 &&& (s9.1 ^^^ (-1)))), some (.int (s9.2.2.1 + 1)), some (.int x1.1), none]) (st' := []) (hs' := (wLand wells_l next_l x1.2)) rfl trivial rfl ?_
      replace h := Option.some.inj h
      subst h
      refine V.weak [true, true, true, true, true, false, true] (l' := [some (.ref 0), some (.int v1), some (.int (s9.1 ||| (x1.1 &&& (s9.1 ^^^ (-1))))), some (.int (x1.1 &&& (s9.1 ^^^ (-1)))), some (.int (s9.2.2.1 + 1)), none, none]) rfl rfl ?_
      exact kI (s9.1 ||| (x1.1 &&& (s9.1 ^^^ (-1))), x1.1 &&& (s9.1 ^^^ (-1)), s9.2.2.1 + 1, x1.2) rfl
  · replace h := if_f h c3
    replace h := Option.some.inj h
    subst h
    refine V.weak [false, false, false, false, false, true, true] (l' := [none, none, none, none, none, none, none]) rfl rfl ?_
    exact kR0 s9.2.2.2 rfl

set_option maxHeartbeats 4000000 in
set_option maxRecDepth 20000 in
theorem Land_measureFrom_c {wells_l : Int32} {next_l : Nat → Int32} {ways_l : Nat → Int32} {a1 : Int32} {y : Nat → Int32} (h : Land_measureFrom wells_l next_l ways_l a1 = some y) :
    C mLand_measureFrom 1 0 0 kpT [.ref 0, .int a1] (wLand wells_l next_l ways_l) none (wLand wells_l next_l y) := by
  refine C.of rfl rfl (Nat.le_of_ble_eq_true rfl) rfl rfl ?_
  show V mLand_measureFrom (1, 0, 0, kpT, none, (wLand wells_l next_l y), 0, 0) 0 0 0 [some (.ref 0), some (.int a1), none, none, none, none, none] [] (wLand wells_l next_l ways_l)
  unfold Land_measureFrom at h
  refine V.blk [(.iconst 1, 0, 0, 0, 1), (.iload_n 1, 0, 0, 0, 0), (.ishl, 0, 0, 0, 0), (.istore_n 2, 0, 0, 0, 0), (.iload_n 2, 0, 0, 0, 0), (.istore_n 3, 0, 0, 0, 0), (.iconst 0, 0, 0, 0, 0), (.istore 4, 0, 0, 0, 0)] (by decide +kernel) (pc' := 9) (l' := [some (.ref 0), some (.int a1), some (.int ((1 : Int32) <<< (a1 &&& 31))), some (.int ((1 : Int32) <<< (a1 &&& 31))), some (.int 0), none, none]) (st' := []) (hs' := (wLand wells_l next_l ways_l)) rfl trivial rfl ?_
  obtain ⟨x1, hx, h⟩ := ob_some h
  refine lp_V (A := fun s9 : Int32 × Int32 × Int32 × (Nat → Int32) => V mLand_measureFrom (1, 0, 0, kpT, none, (wLand wells_l next_l y), 0, 0) 0 0 9 [some (.ref 0), some (.int a1), some (.int s9.1), some (.int s9.2.1), some (.int s9.2.2.1), none, none] [] (wLand wells_l next_l s9.2.2.2)) (B := fun x1 : Nat → Int32 => V mLand_measureFrom (1, 0, 0, kpT, none, (wLand wells_l next_l y), 0, 0) 0 0 95 [none, none, none, none, none, none, none] [] (wLand wells_l next_l x1)) (s := ((1 : Int32) <<< (a1 &&& 31), (1 : Int32) <<< (a1 &&& 31), 0, ways_l)) (fun sq yq hq kIq kRq => Land_measureFrom_L9_v (Z := (1, 0, 0, kpT, none, (wLand wells_l next_l y), 0, 0)) (cells := 0) (slots := 0) (Nat.le_refl _) (Nat.le_refl _) (Nat.le_refl _) sq yq hq kIq (fun r e => kRq r e)) hx ?_
  show V mLand_measureFrom (1, 0, 0, kpT, none, (wLand wells_l next_l y), 0, 0) 0 0 95 [none, none, none, none, none, none, none] [] (wLand wells_l next_l x1)
  replace h := Option.some.inj h
  subst h
  exact V.vret rfl (Nat.le_refl _) (Nat.le_refl _) (by decide +kernel)

set_option maxHeartbeats 4000000 in
set_option maxRecDepth 20000 in
theorem Land_measure_L11_v {Z : VZ} {cells slots : Nat} (hZ : 2 ≤ Z.1) (hC : cells ≤ Z.2.1) (hL : slots ≤ Z.2.2.1) {wells_l : Int32} {next_l : Nat → Int32}  (s11 : Int32 × (Nat → Int32)) (y : (Int32 × (Nat → Int32)) ⊕ (Nat → Int32)) (h : Land_measure_L11 wells_l next_l s11 = some y)  (kI : ∀ s' : Int32 × (Nat → Int32), y = .inl s' → V mLand_measure Z cells slots 11 [some (.ref 0), some (.int s'.1)] [] (wLand wells_l next_l s'.2)) (kR0 : ∀ r : Nat → Int32, y = .inr r → V mLand_measure Z cells slots 30 [none, none] [] (wLand wells_l next_l r)) :
    V mLand_measure Z cells slots 11 [some (.ref 0), some (.int s11.1)] [] (wLand wells_l next_l s11.2) := by
  unfold Land_measure_L11 at h
  refine V.blk [(.iload_n 1, 0, 0, 0, 0), (.aload_n 0, 0, 0, 0, 0), (.getfield 18, 2, 0, 0, 0)] (by decide +kernel) (pc' := 16) (l' := [some (.ref 0), some (.int s11.1)]) (st' := [.int wells_l, .int s11.1]) (hs' := (wLand wells_l next_l s11.2)) rfl trivial rfl ?_
  refine V.ic_ge (tgt := 30) 14 (by decide +kernel) (by decide +kernel) (fun c2 => ?_) (fun c2 => ?_)
  · replace h := if_t h c2
    refine V.blk [(.aload_n 0, 0, 0, 0, 0), (.iload_n 1, 0, 0, 0, 0)] (by decide +kernel) (pc' := 21) (l' := [some (.ref 0), some (.int s11.1)]) (st' := [.int s11.1, .ref 0]) (hs' := (wLand wells_l next_l s11.2)) rfl trivial rfl ?_
    obtain ⟨x1, hx, h⟩ := ob_some h
    refine V.callV (ρ := fun j => j) (j0 := 0) (as' := [.int s11.1]) (rest := []) (hc := (wLand wells_l next_l s11.2)) (hc' := (wLand wells_l next_l x1)) (hs' := (wLand wells_l next_l x1)) (Land_measureFrom_c hx) ok_mLand_measureFrom lk2_63 rfl (Sub.self _) (Aft.self rfl) ⟨_, _, rfl, by decide, rfl⟩ (Nat.le_trans (by decide : 1 + 1 ≤ 2) hZ) hC hL (Nat.le_of_ble_eq_true rfl) (by decide +kernel) ?_
    show V mLand_measure Z cells slots 24 [some (.ref 0), some (.int s11.1)] [] (wLand wells_l next_l x1)
    refine V.blk [(.iinc 1 1, 0, 0, 0, 1), (.goto (-16), 11, 0, 0, 0)] (by decide +kernel) (pc' := 11) (l' := [some (.ref 0), some (.int (s11.1 + 1))]) (st' := []) (hs' := (wLand wells_l next_l x1)) rfl trivial rfl ?_
    replace h := Option.some.inj h
    subst h
    exact kI (s11.1 + 1, x1) rfl
  · replace h := if_f h c2
    replace h := Option.some.inj h
    subst h
    refine V.weak [false, false] (l' := [none, none]) rfl rfl ?_
    exact kR0 s11.2 rfl

set_option maxHeartbeats 4000000 in
set_option maxRecDepth 20000 in
theorem Land_measure_c {wells_l : Int32} {next_l : Nat → Int32} {ways_l : Nat → Int32}  {y : Nat → Int32} (h : Land_measure wells_l next_l ways_l = some y) :
    C mLand_measure 2 0 0 kpT [.ref 0] (wLand wells_l next_l ways_l) none (wLand wells_l next_l y) := by
  refine C.of rfl rfl (Nat.le_of_ble_eq_true rfl) rfl rfl ?_
  show V mLand_measure (2, 0, 0, kpT, none, (wLand wells_l next_l y), 0, 0) 0 0 0 [some (.ref 0), none] [] (wLand wells_l next_l ways_l)
  unfold Land_measure at h
  refine V.blk [(.aload_n 0, 0, 0, 0, 0), (.getfield 15, 2, 2, 0, 0), (.bipush (-2), 0, 0, 0, (-2))] (by decide +kernel) (pc' := 6) (l' := [some (.ref 0), none]) (st' := [.int (-2), .ref 2]) (hs' := (wLand wells_l next_l ways_l)) rfl trivial rfl ?_
  obtain ⟨x1, hx, h⟩ := ob_some h
  refine V.callS (ρ := fun j => [2].getD j 0) (as' := [.ref 0, .int (-2)]) (rest := []) (hc := (wArr 144 ways_l)) (hc' := (wArr 144 x1)) (hs' := (wLand wells_l next_l x1)) (Arrays_fill_c hx) ok_mArrays_fill0 lk2_35 rfl (Sub.list rfl rfl) (Aft.list rfl rfl rfl rfl) (Nat.le_trans (by decide : 1 + 1 ≤ 2) (Nat.le_refl _)) (Nat.le_refl _) (Nat.le_refl _) (Nat.le_of_ble_eq_true rfl) (by decide +kernel) ?_
  show V mLand_measure (2, 0, 0, kpT, none, (wLand wells_l next_l y), 0, 0) 0 0 9 [some (.ref 0), none] [] (wLand wells_l next_l x1)
  refine V.blk [(.iconst 0, 0, 0, 0, 0), (.istore_n 1, 0, 0, 0, 0)] (by decide +kernel) (pc' := 11) (l' := [some (.ref 0), some (.int 0)]) (st' := []) (hs' := (wLand wells_l next_l x1)) rfl trivial rfl ?_
  obtain ⟨x2, hx, h⟩ := ob_some h
  refine lp_V (A := fun s11 : Int32 × (Nat → Int32) => V mLand_measure (2, 0, 0, kpT, none, (wLand wells_l next_l y), 0, 0) 0 0 11 [some (.ref 0), some (.int s11.1)] [] (wLand wells_l next_l s11.2)) (B := fun x2 : Nat → Int32 => V mLand_measure (2, 0, 0, kpT, none, (wLand wells_l next_l y), 0, 0) 0 0 30 [none, none] [] (wLand wells_l next_l x2)) (s := (0, x1)) (fun sq yq hq kIq kRq => Land_measure_L11_v (Z := (2, 0, 0, kpT, none, (wLand wells_l next_l y), 0, 0)) (cells := 0) (slots := 0) (Nat.le_refl _) (Nat.le_refl _) (Nat.le_refl _) sq yq hq kIq (fun r e => kRq r e)) hx ?_
  show V mLand_measure (2, 0, 0, kpT, none, (wLand wells_l next_l y), 0, 0) 0 0 30 [none, none] [] (wLand wells_l next_l x2)
  replace h := Option.some.inj h
  subst h
  exact V.vret rfl (Nat.le_refl _) (Nat.le_refl _) (by decide +kernel)

set_option maxHeartbeats 4000000 in
set_option maxRecDepth 20000 in
theorem Land_stages_L4_v {Z : VZ} {cells slots : Nat} (hZ : 2 ≤ Z.1) (hC : cells ≤ Z.2.1) (hL : slots ≤ Z.2.2.1) {wells_l : Int32} {next_l : Nat → Int32} {ways_l : Nat → Int32}  (s4 : Int32 × Int32) (y : (Int32 × Int32) ⊕ (Int32)) (h : Land_stages_L4 wells_l next_l s4 = some y)  (kI : ∀ s' : Int32 × Int32, y = .inl s' → V mLand_stages Z cells slots 4 [some (.ref 0), some (.int s'.1), some (.int s'.2)] [] (wLand wells_l next_l ways_l)) (kR0 : ∀ r : Int32, y = .inr r → V mLand_stages Z cells slots 30 [none, some (.int r), none] [] (wLand wells_l next_l ways_l)) :
    V mLand_stages Z cells slots 4 [some (.ref 0), some (.int s4.1), some (.int s4.2)] [] (wLand wells_l next_l ways_l) := by
  unfold Land_stages_L4 at h
  refine V.blk [(.iload_n 2, 0, 0, 0, 0), (.aload_n 0, 0, 0, 0, 0), (.getfield 18, 2, 0, 0, 0)] (by decide +kernel) (pc' := 9) (l' := [some (.ref 0), some (.int s4.1), some (.int s4.2)]) (st' := [.int wells_l, .int s4.2]) (hs' := (wLand wells_l next_l ways_l)) rfl trivial rfl ?_
  refine V.ic_ge (tgt := 30) 21 (by decide +kernel) (by decide +kernel) (fun c3 => ?_) (fun c3 => ?_)
  · replace h := if_t h c3
    obtain ⟨g1, h⟩ := gd_some h
    refine V.blk [(.iload_n 1, 0, 0, 0, 0), (.aload_n 0, 0, 0, 0, 0), (.getfield 9, 2, 1, 0, 0), (.iload_n 2, 0, 0, 0, 0), (.iaload, 0, 0, 0, 0)] (by decide +kernel) (pc' := 19) (l' := [some (.ref 0), some (.int s4.1), some (.int s4.2)]) (st' := [.int (next_l (s4.2 : Int32).toNatClampNeg), .int s4.1]) (hs' := (wLand wells_l next_l ways_l)) rfl ⟨g1, trivial⟩ rfl ?_
    obtain ⟨x2, hx, h⟩ := ob_some h
    refine V.callS (ρ := fun j => [].getD j 0) (as' := [.int (next_l (s4.2 : Int32).toNatClampNeg)]) (rest := [.int s4.1]) (hc := (wNone )) (hc' := (wNone )) (hs' := (wLand wells_l next_l ways_l)) (Integer_bitCount_c hx) ok_mInteger_bitCount lk2_66 rfl (Sub.list rfl rfl) (Aft.list rfl rfl rfl rfl) (Nat.le_trans (by decide : 1 + 1 ≤ 2) hZ) hC hL (Nat.le_of_ble_eq_true rfl) (by decide +kernel) ?_
    show V mLand_stages Z cells slots 22 [some (.ref 0), some (.int s4.1), some (.int s4.2)] [.int x2, .int s4.1] (wLand wells_l next_l ways_l)
    refine V.blk [(.iadd, 0, 0, 0, 0), (.istore_n 1, 0, 0, 0, 0), (.iinc 2 1, 0, 0, 0, 1), (.goto (-23), 4, 0, 0, 0)] (by decide +kernel) (pc' := 4) (l' := [some (.ref 0), some (.int (s4.1 + x2)), some (.int (s4.2 + 1))]) (st' := []) (hs' := (wLand wells_l next_l ways_l)) rfl trivial rfl ?_
    replace h := Option.some.inj h
    subst h
    exact kI (s4.1 + x2, s4.2 + 1) rfl
  · replace h := if_f h c3
    replace h := Option.some.inj h
    subst h
    refine V.weak [false, true, false] (l' := [none, some (.int s4.1), none]) rfl rfl ?_
    exact kR0 s4.1 rfl

set_option maxHeartbeats 4000000 in
set_option maxRecDepth 20000 in
theorem Land_stages_c {wells_l : Int32} {next_l : Nat → Int32} {ways_l : Nat → Int32}  {y : Int32} (h : Land_stages wells_l next_l = some y) :
    C mLand_stages 2 0 0 kpT [.ref 0] (wLand wells_l next_l ways_l) (some (.int y)) (wLand wells_l next_l ways_l) := by
  refine C.of rfl rfl (Nat.le_of_ble_eq_true rfl) rfl rfl ?_
  show V mLand_stages (2, 0, 0, kpT, some (.int y), (wLand wells_l next_l ways_l), 0, 0) 0 0 0 [some (.ref 0), none, none] [] (wLand wells_l next_l ways_l)
  unfold Land_stages at h
  refine V.blk [(.iconst 0, 0, 0, 0, 0), (.istore_n 1, 0, 0, 0, 0), (.iconst 0, 0, 0, 0, 0), (.istore_n 2, 0, 0, 0, 0)] (by decide +kernel) (pc' := 4) (l' := [some (.ref 0), some (.int 0), some (.int 0)]) (st' := []) (hs' := (wLand wells_l next_l ways_l)) rfl trivial rfl ?_
  obtain ⟨x1, hx, h⟩ := ob_some h
  refine lp_V (A := fun s4 : Int32 × Int32 => V mLand_stages (2, 0, 0, kpT, some (.int y), (wLand wells_l next_l ways_l), 0, 0) 0 0 4 [some (.ref 0), some (.int s4.1), some (.int s4.2)] [] (wLand wells_l next_l ways_l)) (B := fun x1 : Int32 => V mLand_stages (2, 0, 0, kpT, some (.int y), (wLand wells_l next_l ways_l), 0, 0) 0 0 30 [none, some (.int x1), none] [] (wLand wells_l next_l ways_l)) (s := (0, 0)) (fun sq yq hq kIq kRq => Land_stages_L4_v (Z := (2, 0, 0, kpT, some (.int y), (wLand wells_l next_l ways_l), 0, 0)) (cells := 0) (slots := 0) (Nat.le_refl _) (Nat.le_refl _) (Nat.le_refl _) sq yq hq kIq (fun r e => kRq r e)) hx ?_
  show V mLand_stages (2, 0, 0, kpT, some (.int y), (wLand wells_l next_l ways_l), 0, 0) 0 0 30 [none, some (.int x1), none] [] (wLand wells_l next_l ways_l)
  refine V.blk [(.iload_n 1, 0, 0, 0, 0), (.iconst 2, 0, 0, 0, 2), (.idiv, 0, 0, 0, 0)] (by decide +kernel) (pc' := 33) (l' := [none, some (.int x1), none]) (st' := [.int (x1 / 2)]) (hs' := (wLand wells_l next_l ways_l)) rfl ⟨rfl, trivial⟩ rfl ?_
  replace h := Option.some.inj h
  subst h
  exact V.iret rfl (Nat.le_refl _) (Nat.le_refl _) (by decide +kernel)

set_option maxHeartbeats 4000000 in
set_option maxRecDepth 20000 in
theorem Land_widest_L14_v {Z : VZ} {cells slots : Nat} (hZ : 3 ≤ Z.1) (hC : cells ≤ Z.2.1) (hL : slots ≤ Z.2.2.1) {wells_l : Int32} {next_l : Nat → Int32} {ways_l : Nat → Int32} {v2 : Int32} (s14 : Int32 × Int32) (y : (Int32 × Int32) ⊕ (Unit) ⊕ (Int32)) (h : Land_widest_L14 v2 wells_l ways_l s14 = some y)  (kI : ∀ s' : Int32 × Int32, y = .inl s' → V mLand_widest Z cells slots 14 [some (.ref 0), some (.int s'.1), some (.int v2), some (.int s'.2)] [] (wLand wells_l next_l ways_l)) (kR0 : ∀ r : Unit, y = .inr (.inl r) → V mLand_widest Z cells slots 28 [none, none, none, none] [] (wLand wells_l next_l ways_l)) (kR1 : ∀ r : Int32, y = .inr (.inr (r)) → V mLand_widest Z cells slots 48 [some (.ref 0), some (.int r), some (.int v2), none] [] (wLand wells_l next_l ways_l)) :
    V mLand_widest Z cells slots 14 [some (.ref 0), some (.int s14.1), some (.int v2), some (.int s14.2)] [] (wLand wells_l next_l ways_l) := by
  unfold Land_widest_L14 at h
  refine V.blk [(.iload_n 3, 0, 0, 0, 0), (.iload_n 2, 0, 0, 0, 0)] (by decide +kernel) (pc' := 16) (l' := [some (.ref 0), some (.int s14.1), some (.int v2), some (.int s14.2)]) (st' := [.int v2, .int s14.2]) (hs' := (wLand wells_l next_l ways_l)) rfl trivial rfl ?_
  refine V.ic_ge (tgt := 48) 32 (by decide +kernel) (by decide +kernel) (fun c4 => ?_) (fun c4 => ?_)
  · replace h := if_t h c4
    refine V.blk [(.aload_n 0, 0, 0, 0, 0), (.iload_n 2, 0, 0, 0, 0), (.iload_n 3, 0, 0, 0, 0)] (by decide +kernel) (pc' := 22) (l' := [some (.ref 0), some (.int s14.1), some (.int v2), some (.int s14.2)]) (st' := [.int s14.2, .int v2, .ref 0]) (hs' := (wLand wells_l next_l ways_l)) rfl trivial rfl ?_
    obtain ⟨x1, hx, h⟩ := ob_some h
    refine V.callV (ρ := fun j => j) (j0 := 0) (as' := [.int v2, .int s14.2]) (rest := []) (hc := (wLand wells_l next_l ways_l)) (hc' := (wLand wells_l next_l ways_l)) (hs' := (wLand wells_l next_l ways_l)) (Land_way_c hx) ok_mLand_way lk2_72 rfl (Sub.self _) (Aft.self rfl) ⟨_, _, rfl, by decide, rfl⟩ (Nat.le_trans (by decide : 2 + 1 ≤ 3) hZ) hC hL (Nat.le_of_ble_eq_true rfl) (by decide +kernel) ?_
    show V mLand_widest Z cells slots 25 [some (.ref 0), some (.int s14.1), some (.int v2), some (.int s14.2)] [.int x1] (wLand wells_l next_l ways_l)
    refine V.if_ge (tgt := 31) 6 (by decide +kernel) (by decide +kernel) (fun c3 => ?_) (fun c3 => ?_)
    · replace h := if_t h c3
      replace h := Option.some.inj h
      subst h
      refine V.weak [false, false, false, false] (l' := [none, none, none, none]) rfl rfl ?_
      exact kR0 () rfl
    · replace h := if_f h c3
      refine V.blk [(.iload_n 1, 0, 0, 0, 0), (.aload_n 0, 0, 0, 0, 0), (.iload_n 2, 0, 0, 0, 0), (.iload_n 3, 0, 0, 0, 0)] (by decide +kernel) (pc' := 35) (l' := [some (.ref 0), some (.int s14.1), some (.int v2), some (.int s14.2)]) (st' := [.int s14.2, .int v2, .ref 0, .int s14.1]) (hs' := (wLand wells_l next_l ways_l)) rfl trivial rfl ?_
      obtain ⟨x2, hx, h⟩ := ob_some h
      refine V.callV (ρ := fun j => j) (j0 := 0) (as' := [.int v2, .int s14.2]) (rest := [.int s14.1]) (hc := (wLand wells_l next_l ways_l)) (hc' := (wLand wells_l next_l ways_l)) (hs' := (wLand wells_l next_l ways_l)) (Land_way_c hx) ok_mLand_way lk2_72 rfl (Sub.self _) (Aft.self rfl) ⟨_, _, rfl, by decide, rfl⟩ (Nat.le_trans (by decide : 2 + 1 ≤ 3) hZ) hC hL (Nat.le_of_ble_eq_true rfl) (by decide +kernel) ?_
      show V mLand_widest Z cells slots 38 [some (.ref 0), some (.int s14.1), some (.int v2), some (.int s14.2)] [.int x2, .int s14.1] (wLand wells_l next_l ways_l)
      refine V.mmax (Nat.le_trans (by decide : 1 ≤ 3) hZ) hC hL lk2_32 (Nat.le_of_ble_eq_true rfl) (by decide +kernel) ?_
      show V mLand_widest Z cells slots 41 [some (.ref 0), some (.int s14.1), some (.int v2), some (.int s14.2)] [.int (jmax s14.1 x2)] (wLand wells_l next_l ways_l)
      refine V.blk [(.istore_n 1, 0, 0, 0, 0), (.iinc 3 1, 0, 0, 0, 1), (.goto (-31), 14, 0, 0, 0)] (by decide +kernel) (pc' := 14) (l' := [some (.ref 0), some (.int (jmax s14.1 x2)), some (.int v2), some (.int (s14.2 + 1))]) (st' := []) (hs' := (wLand wells_l next_l ways_l)) rfl trivial rfl ?_
      replace h := Option.some.inj h
      subst h
      exact kI (jmax s14.1 x2, s14.2 + 1) rfl
  · replace h := if_f h c4
    replace h := Option.some.inj h
    subst h
    refine V.weak [true, true, true, false] (l' := [some (.ref 0), some (.int s14.1), some (.int v2), none]) rfl rfl ?_
    exact kR1 s14.1 rfl

set_option maxHeartbeats 4000000 in
set_option maxRecDepth 20000 in
theorem Land_widest_L4_v {Z : VZ} {cells slots : Nat} (hZ : 3 ≤ Z.1) (hC : cells ≤ Z.2.1) (hL : slots ≤ Z.2.2.1) {wells_l : Int32} {next_l : Nat → Int32} {ways_l : Nat → Int32}  (s4 : Int32 × Int32) (y : (Int32 × Int32) ⊕ (Unit) ⊕ (Int32)) (h : Land_widest_L4 wells_l ways_l s4 = some y)  (kI : ∀ s' : Int32 × Int32, y = .inl s' → V mLand_widest Z cells slots 4 [some (.ref 0), some (.int s'.1), some (.int s'.2), none] [] (wLand wells_l next_l ways_l)) (kR0 : ∀ r : Unit, y = .inr (.inl r) → V mLand_widest Z cells slots 28 [none, none, none, none] [] (wLand wells_l next_l ways_l)) (kR1 : ∀ r : Int32, y = .inr (.inr (r)) → V mLand_widest Z cells slots 54 [none, some (.int r), none, none] [] (wLand wells_l next_l ways_l)) :
    V mLand_widest Z cells slots 4 [some (.ref 0), some (.int s4.1), some (.int s4.2), none] [] (wLand wells_l next_l ways_l) := by
  unfold Land_widest_L4 at h
  refine V.blk [(.iload_n 2, 0, 0, 0, 0), (.aload_n 0, 0, 0, 0, 0), (.getfield 18, 2, 0, 0, 0)] (by decide +kernel) (pc' := 9) (l' := [some (.ref 0), some (.int s4.1), some (.int s4.2), none]) (st' := [.int wells_l, .int s4.2]) (hs' := (wLand wells_l next_l ways_l)) rfl trivial rfl ?_
  refine V.ic_ge (tgt := 54) 45 (by decide +kernel) (by decide +kernel) (fun c2 => ?_) (fun c2 => ?_)
  · replace h := if_t h c2
    refine V.blk [(.iconst 0, 0, 0, 0, 0), (.istore_n 3, 0, 0, 0, 0)] (by decide +kernel) (pc' := 14) (l' := [some (.ref 0), some (.int s4.1), some (.int s4.2), some (.int 0)]) (st' := []) (hs' := (wLand wells_l next_l ways_l)) rfl trivial rfl ?_
    obtain ⟨x1, hx, h⟩ := ob_some h
    refine lp_V (A := fun s14 : Int32 × Int32 => V mLand_widest Z cells slots 14 [some (.ref 0), some (.int s14.1), some (.int s4.2), some (.int s14.2)] [] (wLand wells_l next_l ways_l)) (B := (Sum.elim (fun x1 : Unit => V mLand_widest Z cells slots 28 [none, none, none, none] [] (wLand wells_l next_l ways_l)) (fun x1 : Int32 => V mLand_widest Z cells slots 48 [some (.ref 0), some (.int x1), some (.int s4.2), none] [] (wLand wells_l next_l ways_l)))) (s := (s4.1, 0)) (fun sq yq hq kIq kRq => Land_widest_L14_v (Z := Z) (cells := cells) (slots := slots) hZ hC hL sq yq hq kIq (fun r e => kRq (.inl r) e) (fun r e => kRq (.inr (r)) e)) hx ?_
    rcases x1 with x1 | x1
    · replace h := sm_l h
      show V mLand_widest Z cells slots 28 [none, none, none, none] [] (wLand wells_l next_l ways_l)
      replace h := Option.some.inj h
      subst h
      exact kR0 () rfl
    · replace h := sm_r h
      show V mLand_widest Z cells slots 48 [some (.ref 0), some (.int x1), some (.int s4.2), none] [] (wLand wells_l next_l ways_l)
      refine V.blk [(.iinc 2 1, 0, 0, 0, 1), (.goto (-47), 4, 0, 0, 0)] (by decide +kernel) (pc' := 4) (l' := [some (.ref 0), some (.int x1), some (.int (s4.2 + 1)), none]) (st' := []) (hs' := (wLand wells_l next_l ways_l)) rfl trivial rfl ?_
      replace h := Option.some.inj h
      subst h
      exact kI (x1, s4.2 + 1) rfl
  · replace h := if_f h c2
    replace h := Option.some.inj h
    subst h
    refine V.weak [false, true, false, true] (l' := [none, some (.int s4.1), none, none]) rfl rfl ?_
    exact kR1 s4.1 rfl

set_option maxHeartbeats 4000000 in
set_option maxRecDepth 20000 in
theorem Land_widest_c {wells_l : Int32} {next_l : Nat → Int32} {ways_l : Nat → Int32}  {y : Int32} (h : Land_widest wells_l ways_l = some y) :
    C mLand_widest 3 0 0 kpT [.ref 0] (wLand wells_l next_l ways_l) (some (.int y)) (wLand wells_l next_l ways_l) := by
  refine C.of rfl rfl (Nat.le_of_ble_eq_true rfl) rfl rfl ?_
  show V mLand_widest (3, 0, 0, kpT, some (.int y), (wLand wells_l next_l ways_l), 0, 0) 0 0 0 [some (.ref 0), none, none, none] [] (wLand wells_l next_l ways_l)
  unfold Land_widest at h
  refine V.blk [(.iconst 0, 0, 0, 0, 0), (.istore_n 1, 0, 0, 0, 0), (.iconst 0, 0, 0, 0, 0), (.istore_n 2, 0, 0, 0, 0)] (by decide +kernel) (pc' := 4) (l' := [some (.ref 0), some (.int 0), some (.int 0), none]) (st' := []) (hs' := (wLand wells_l next_l ways_l)) rfl trivial rfl ?_
  obtain ⟨x1, hx, h⟩ := ob_some h
  refine lp_V (A := fun s4 : Int32 × Int32 => V mLand_widest (3, 0, 0, kpT, some (.int y), (wLand wells_l next_l ways_l), 0, 0) 0 0 4 [some (.ref 0), some (.int s4.1), some (.int s4.2), none] [] (wLand wells_l next_l ways_l)) (B := (Sum.elim (fun x1 : Unit => V mLand_widest (3, 0, 0, kpT, some (.int y), (wLand wells_l next_l ways_l), 0, 0) 0 0 28 [none, none, none, none] [] (wLand wells_l next_l ways_l)) (fun x1 : Int32 => V mLand_widest (3, 0, 0, kpT, some (.int y), (wLand wells_l next_l ways_l), 0, 0) 0 0 54 [none, some (.int x1), none, none] [] (wLand wells_l next_l ways_l)))) (s := (0, 0)) (fun sq yq hq kIq kRq => Land_widest_L4_v (Z := (3, 0, 0, kpT, some (.int y), (wLand wells_l next_l ways_l), 0, 0)) (cells := 0) (slots := 0) (Nat.le_refl _) (Nat.le_refl _) (Nat.le_refl _) sq yq hq kIq (fun r e => kRq (.inl r) e) (fun r e => kRq (.inr (r)) e)) hx ?_
  rcases x1 with x1 | x1
  · replace h := sm_l h
    show V mLand_widest (3, 0, 0, kpT, some (.int y), (wLand wells_l next_l ways_l), 0, 0) 0 0 28 [none, none, none, none] [] (wLand wells_l next_l ways_l)
    refine V.blk [(.bipush (-2), 0, 0, 0, (-2))] (by decide +kernel) (pc' := 30) (l' := [none, none, none, none]) (st' := [.int (-2)]) (hs' := (wLand wells_l next_l ways_l)) rfl trivial rfl ?_
    replace h := Option.some.inj h
    subst h
    exact V.iret rfl (Nat.le_refl _) (Nat.le_refl _) (by decide +kernel)
  · replace h := sm_r h
    show V mLand_widest (3, 0, 0, kpT, some (.int y), (wLand wells_l next_l ways_l), 0, 0) 0 0 54 [none, some (.int x1), none, none] [] (wLand wells_l next_l ways_l)
    refine V.blk [(.iload_n 1, 0, 0, 0, 0)] (by decide +kernel) (pc' := 55) (l' := [none, some (.int x1), none, none]) (st' := [.int x1]) (hs' := (wLand wells_l next_l ways_l)) rfl trivial rfl ?_
    replace h := Option.some.inj h
    subst h
    exact V.iret rfl (Nat.le_refl _) (Nat.le_refl _) (by decide +kernel)

