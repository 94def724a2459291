/-! the class: Ledger, Symmetry: the bytecode does what the functions say -/
set_option maxHeartbeats 4000000 in
set_option maxRecDepth 20000 in
theorem Ledger_fillOne_L13_J92_v {dgo_ : Nat} {Z : VZ} {cells slots : Nat} (hZ : dgo_ + 3 ≤ Z.1) (hC : cells ≤ Z.2.1) (hL : slots ≤ Z.2.2.1) (go_ : (Nat → Int32) → (Nat → Int32) → (Nat → Int32) → Int32 → Int32 → Int32 → Int32 → Int32 → Int32 → (Nat → Int32) → Int32 → Option ((Nat → Int32) × Int32 × Int32 × Int32)) (hgo_ : ∀ {needs_o : Nat → Int32} {changes_o : Nat → Int32} {row_o : Nat → Int32} {lost_o : Int32} {throne_o : Int32} {ways_o : Int32} {least_o : Int32} {most_o : Int32} {wells_l : Int32} {next_l : Nat → Int32} {ways_l : Nat → Int32} {a2 : Int32} {y : (Nat → Int32) × Int32 × Int32 × Int32}, go_ needs_o changes_o row_o lost_o throne_o ways_o least_o most_o wells_l next_l a2 = some y → C mLedger_go dgo_ 0 0 kpT [.ref 0, .ref 4, .int a2] (wLedL needs_o changes_o row_o lost_o throne_o ways_o least_o most_o wells_l next_l ways_l) none (wLedL needs_o changes_o y.1 lost_o throne_o y.2.1 y.2.2.1 y.2.2.2 wells_l next_l ways_l)) {needs_o : Nat → Int32} {changes_o : Nat → Int32} {row_o : Nat → Int32} {lost_o : Int32} {throne_o : Int32} {ways_o : Int32} {least_o : Int32} {most_o : Int32} {wells_l : Int32} {next_l : Nat → Int32} {ways_l : Nat → Int32} {v2 : Int32} {v3 : Int32} {v4 : Int32} (y : (Int32 × (Nat → Int32) × Int32 × Int32 × Int32) ⊕ ((Nat → Int32) × Int32 × Int32 × Int32)) (h : Ledger_fillOne_L13_J92 go_ v2 v3 v4 needs_o changes_o row_o lost_o throne_o ways_o least_o most_o wells_l next_l = some y)  (kI : ∀ s' : Int32 × (Nat → Int32) × Int32 × Int32 × Int32, y = .inl s' → V mLedger_fillOne Z cells slots 13 [some (.ref 0), some (.ref 4), some (.int v2), some (.int v3), some (.int s'.1)] [] (wLedL needs_o changes_o s'.2.1 lost_o throne_o s'.2.2.1 s'.2.2.2.1 s'.2.2.2.2 wells_l next_l ways_l)) (kR0 : ∀ r : (Nat → Int32) × Int32 × Int32 × Int32, y = .inr r → V mLedger_fillOne Z cells slots 98 [some (.ref 0), some (.ref 4), some (.int v2), some (.int v3), none] [] (wLedL needs_o changes_o r.1 lost_o throne_o r.2.1 r.2.2.1 r.2.2.2 wells_l next_l ways_l)) :
    V mLedger_fillOne Z cells slots 92 [some (.ref 0), some (.ref 4), some (.int v2), some (.int v3), some (.int v4)] [] (wLedL needs_o changes_o row_o lost_o throne_o ways_o least_o most_o wells_l next_l ways_l) := by
  unfold Ledger_fillOne_L13_J92 at h
  refine V.blk [(.iinc 4 1, 0, 0, 0, 1), (.goto (-82), 13, 0, 0, 0)] (by decide +kernel) (pc' := 13) (l' := [some (.ref 0), some (.ref 4), some (.int v2), some (.int v3), some (.int (v4 + 1))]) (st' := []) (hs' := (wLedL needs_o changes_o row_o lost_o throne_o ways_o least_o most_o wells_l next_l ways_l)) rfl trivial rfl ?_
  replace h := Option.some.inj h
  subst h
  exact kI (v4 + 1, row_o, ways_o, least_o, most_o) rfl

set_option maxHeartbeats 4000000 in
set_option maxRecDepth 20000 in
theorem Ledger_fillOne_L13_v {dgo_ : Nat} {Z : VZ} {cells slots : Nat} (hZ : dgo_ + 3 ≤ Z.1) (hC : cells ≤ Z.2.1) (hL : slots ≤ Z.2.2.1) (go_ : (Nat → Int32) → (Nat → Int32) → (Nat → Int32) → Int32 → Int32 → Int32 → Int32 → Int32 → Int32 → (Nat → Int32) → Int32 → Option ((Nat → Int32) × Int32 × Int32 × Int32)) (hgo_ : ∀ {needs_o : Nat → Int32} {changes_o : Nat → Int32} {row_o : Nat → Int32} {lost_o : Int32} {throne_o : Int32} {ways_o : Int32} {least_o : Int32} {most_o : Int32} {wells_l : Int32} {next_l : Nat → Int32} {ways_l : Nat → Int32} {a2 : Int32} {y : (Nat → Int32) × Int32 × Int32 × Int32}, go_ needs_o changes_o row_o lost_o throne_o ways_o least_o most_o wells_l next_l a2 = some y → C mLedger_go dgo_ 0 0 kpT [.ref 0, .ref 4, .int a2] (wLedL needs_o changes_o row_o lost_o throne_o ways_o least_o most_o wells_l next_l ways_l) none (wLedL needs_o changes_o y.1 lost_o throne_o y.2.1 y.2.2.1 y.2.2.2 wells_l next_l ways_l)) {needs_o : Nat → Int32} {changes_o : Nat → Int32} {lost_o : Int32} {throne_o : Int32} {wells_l : Int32} {next_l : Nat → Int32} {ways_l : Nat → Int32} {v2 : Int32} {v3 : Int32} (s13 : Int32 × (Nat → Int32) × Int32 × Int32 × Int32) (y : (Int32 × (Nat → Int32) × Int32 × Int32 × Int32) ⊕ ((Nat → Int32) × Int32 × Int32 × Int32)) (h : Ledger_fillOne_L13 go_ v2 v3 needs_o changes_o lost_o throne_o wells_l next_l s13 = some y)  (kI : ∀ s' : Int32 × (Nat → Int32) × Int32 × Int32 × Int32, y = .inl s' → V mLedger_fillOne Z cells slots 13 [some (.ref 0), some (.ref 4), some (.int v2), some (.int v3), some (.int s'.1)] [] (wLedL needs_o changes_o s'.2.1 lost_o throne_o s'.2.2.1 s'.2.2.2.1 s'.2.2.2.2 wells_l next_l ways_l)) (kR0 : ∀ r : (Nat → Int32) × Int32 × Int32 × Int32, y = .inr r → V mLedger_fillOne Z cells slots 98 [some (.ref 0), some (.ref 4), some (.int v2), some (.int v3), none] [] (wLedL needs_o changes_o r.1 lost_o throne_o r.2.1 r.2.2.1 r.2.2.2 wells_l next_l ways_l)) :
    V mLedger_fillOne Z cells slots 13 [some (.ref 0), some (.ref 4), some (.int v2), some (.int v3), some (.int s13.1)] [] (wLedL needs_o changes_o s13.2.1 lost_o throne_o s13.2.2.1 s13.2.2.2.1 s13.2.2.2.2 wells_l next_l ways_l) := by
  unfold Ledger_fillOne_L13 at h
  obtain ⟨g1, h⟩ := gd_some h
  refine V.blk [(.aload_n 0, 0, 0, 0, 0), (.getfield 18, 5, 2, 0, 0), (.iload_n 3, 0, 0, 0, 0), (.iaload, 0, 0, 0, 0), (.iconst 2, 0, 0, 0, 2)] (by decide +kernel) (pc' := 20) (l' := [some (.ref 0), some (.ref 4), some (.int v2), some (.int v3), some (.int s13.1)]) (st' := [.int 2, .int (s13.2.1 (v3 : Int32).toNatClampNeg)]) (hs' := (wLedL needs_o changes_o s13.2.1 lost_o throne_o s13.2.2.1 s13.2.2.2.1 s13.2.2.2.2 wells_l next_l ways_l)) rfl ⟨g1, trivial⟩ rfl ?_
  refine V.ic_lt (tgt := 98) 78 (by decide +kernel) (by decide +kernel) (fun c14 => ?_) (fun c14 => ?_)
  · replace h := if_t h c14
    replace h := Option.some.inj h
    subst h
    refine V.weak [true, true, true, true, false] (l' := [some (.ref 0), some (.ref 4), some (.int v2), some (.int v3), none]) rfl rfl ?_
    exact kR0 (s13.2.1, s13.2.2.1, s13.2.2.2.1, s13.2.2.2.2) rfl
  · replace h := if_f h c14
    refine V.blk [(.iload 4, 0, 0, 0, 0), (.aload_n 1, 0, 0, 0, 0), (.getfield 66, 2, 0, 0, 0)] (by decide +kernel) (pc' := 29) (l' := [some (.ref 0), some (.ref 4), some (.int v2), some (.int v3), some (.int s13.1)]) (st' := [.int wells_l, .int s13.1]) (hs' := (wLedL needs_o changes_o s13.2.1 lost_o throne_o s13.2.2.1 s13.2.2.2.1 s13.2.2.2.2 wells_l next_l ways_l)) rfl trivial rfl ?_
    refine V.ic_ge (tgt := 98) 69 (by decide +kernel) (by decide +kernel) (fun c13 => ?_) (fun c13 => ?_)
    · replace h := if_t h c13
      refine V.blk [(.aload_n 1, 0, 0, 0, 0), (.iload_n 3, 0, 0, 0, 0), (.iload 4, 0, 0, 0, 0)] (by decide +kernel) (pc' := 36) (l' := [some (.ref 0), some (.ref 4), some (.int v2), some (.int v3), some (.int s13.1)]) (st' := [.int s13.1, .int v3, .ref 4]) (hs' := (wLedL needs_o changes_o s13.2.1 lost_o throne_o s13.2.2.1 s13.2.2.2.1 s13.2.2.2.2 wells_l next_l ways_l)) rfl trivial rfl ?_
      obtain ⟨x2, hx, h⟩ := ob_some h
      refine V.callV (ρ := fun j => [4, 5, 6].getD j 0) (j0 := 0) (as' := [.int v3, .int s13.1]) (rest := []) (hc := (wLand wells_l next_l ways_l)) (hc' := (wLand wells_l next_l ways_l)) (hs' := (wLedL needs_o changes_o s13.2.1 lost_o throne_o s13.2.2.1 s13.2.2.2.1 s13.2.2.2.2 wells_l next_l ways_l)) (Land_areNext_c hx) ok_mLand_areNext lk5_71 rfl (Sub.list rfl rfl) (Aft.list rfl rfl rfl rfl) ⟨_, _, rfl, by decide, rfl⟩ (Nat.le_trans (by omega : 2 + 1 ≤ dgo_ + 3) hZ) hC hL (Nat.le_of_ble_eq_true rfl) (by decide +kernel) ?_
      show V mLedger_fillOne Z cells slots 39 [some (.ref 0), some (.ref 4), some (.int v2), some (.int v3), some (.int s13.1)] [.int x2] (wLedL needs_o changes_o s13.2.1 lost_o throne_o s13.2.2.1 s13.2.2.2.1 s13.2.2.2.2 wells_l next_l ways_l)
      refine V.if_eq (tgt := 92) 53 (by decide +kernel) (by decide +kernel) (fun c12 => ?_) (fun c12 => ?_)
      · replace h := if_t h c12
        exact Ledger_fillOne_L13_J92_v hZ hC hL go_ hgo_ y h kI kR0
      · replace h := if_f h c12
        obtain ⟨g3, h⟩ := gd_some h
        obtain ⟨g4, h⟩ := gd_some h
        obtain ⟨g5, h⟩ := gd_some h
        obtain ⟨g6, h⟩ := gd_some h
        refine V.blk [(.aload_n 0, 0, 0, 0, 0), (.getfield 18, 5, 2, 0, 0), (.iload_n 3, 0, 0, 0, 0), (.dup2, 0, 0, 0, 0), (.iaload, 0, 0, 0, 0), (.iconst 2, 0, 0, 0, 2), (.isub, 0, 0, 0, 0), (.iastore, 0, 0, 0, 0), (.aload_n 0, 0, 0, 0, 0), (.getfield 18, 5, 2, 0, 0), (.iload 4, 0, 0, 0, 0), (.dup2, 0, 0, 0, 0), (.iaload, 0, 0, 0, 0), (.iconst 1, 0, 0, 0, 1), (.iadd, 0, 0, 0, 0), (.iastore, 0, 0, 0, 0), (.aload_n 0, 0, 0, 0, 0), (.aload_n 1, 0, 0, 0, 0), (.iload_n 2, 0, 0, 0, 0), (.iconst 1, 0, 0, 0, 1), (.iadd, 0, 0, 0, 0)] (by decide +kernel) (pc' := 68) (l' := [some (.ref 0), some (.ref 4), some (.int v2), some (.int v3), some (.int s13.1)]) (st' := [.int (v2 + 1), .ref 4, .ref 0]) (hs' := (wLedL needs_o changes_o (upd (upd s13.2.1 (v3 : Int32).toNatClampNeg ((s13.2.1 (v3 : Int32).toNatClampNeg) - 2)) (s13.1 : Int32).toNatClampNeg (((upd s13.2.1 (v3 : Int32).toNatClampNeg ((s13.2.1 (v3 : Int32).toNatClampNeg) - 2)) (s13.1 : Int32).toNatClampNeg) + 1)) lost_o throne_o s13.2.2.1 s13.2.2.2.1 s13.2.2.2.2 wells_l next_l ways_l)) rfl ⟨g3, g4, g5, g6, trivial⟩ rfl ?_
        obtain ⟨x7, hx, h⟩ := ob_some h
        refine V.callV (ρ := fun j => j) (j0 := 0) (as' := [.ref 4, .int (v2 + 1)]) (rest := []) (hc := (wLedL needs_o changes_o (upd (upd s13.2.1 (v3 : Int32).toNatClampNeg ((s13.2.1 (v3 : Int32).toNatClampNeg) - 2)) (s13.1 : Int32).toNatClampNeg (((upd s13.2.1 (v3 : Int32).toNatClampNeg ((s13.2.1 (v3 : Int32).toNatClampNeg) - 2)) (s13.1 : Int32).toNatClampNeg) + 1)) lost_o throne_o s13.2.2.1 s13.2.2.2.1 s13.2.2.2.2 wells_l next_l ways_l)) (hc' := (wLedL needs_o changes_o x7.1 lost_o throne_o x7.2.1 x7.2.2.1 x7.2.2.2 wells_l next_l ways_l)) (hs' := (wLedL needs_o changes_o x7.1 lost_o throne_o x7.2.1 x7.2.2.1 x7.2.2.2 wells_l next_l ways_l)) (hgo_ hx) ok_mLedger_go lk5_114 rfl (Sub.self _) (Aft.self rfl) ⟨_, _, rfl, by decide, rfl⟩ (Nat.le_trans (by omega : dgo_ + 0 + 1 ≤ dgo_ + 3) hZ) hC hL (Nat.le_of_ble_eq_true rfl) (by decide +kernel) ?_
        show V mLedger_fillOne Z cells slots 71 [some (.ref 0), some (.ref 4), some (.int v2), some (.int v3), some (.int s13.1)] [] (wLedL needs_o changes_o x7.1 lost_o throne_o x7.2.1 x7.2.2.1 x7.2.2.2 wells_l next_l ways_l)
        obtain ⟨g8, h⟩ := gd_some h
        obtain ⟨g9, h⟩ := gd_some h
        obtain ⟨g10, h⟩ := gd_some h
        obtain ⟨g11, h⟩ := gd_some h
        refine V.blk [(.aload_n 0, 0, 0, 0, 0), (.getfield 18, 5, 2, 0, 0), (.iload_n 3, 0, 0, 0, 0), (.dup2, 0, 0, 0, 0), (.iaload, 0, 0, 0, 0), (.iconst 2, 0, 0, 0, 2), (.iadd, 0, 0, 0, 0), (.iastore, 0, 0, 0, 0), (.aload_n 0, 0, 0, 0, 0), (.getfield 18, 5, 2, 0, 0), (.iload 4, 0, 0, 0, 0), (.dup2, 0, 0, 0, 0), (.iaload, 0, 0, 0, 0), (.iconst 1, 0, 0, 0, 1), (.isub, 0, 0, 0, 0), (.iastore, 0, 0, 0, 0)] (by decide +kernel) (pc' := 92) (l' := [some (.ref 0), some (.ref 4), some (.int v2), some (.int v3), some (.int s13.1)]) (st' := []) (hs' := (wLedL needs_o changes_o (upd (upd x7.1 (v3 : Int32).toNatClampNeg ((x7.1 (v3 : Int32).toNatClampNeg) + 2)) (s13.1 : Int32).toNatClampNeg (((upd x7.1 (v3 : Int32).toNatClampNeg ((x7.1 (v3 : Int32).toNatClampNeg) + 2)) (s13.1 : Int32).toNatClampNeg) - 1)) lost_o throne_o x7.2.1 x7.2.2.1 x7.2.2.2 wells_l next_l ways_l)) rfl ⟨g8, g9, g10, g11, trivial⟩ rfl ?_
        exact Ledger_fillOne_L13_J92_v hZ hC hL go_ hgo_ y h kI kR0
    · replace h := if_f h c13
      replace h := Option.some.inj h
      subst h
      refine V.weak [true, true, true, true, false] (l' := [some (.ref 0), some (.ref 4), some (.int v2), some (.int v3), none]) rfl rfl ?_
      exact kR0 (s13.2.1, s13.2.2.1, s13.2.2.2.1, s13.2.2.2.2) rfl

set_option maxHeartbeats 4000000 in
set_option maxRecDepth 20000 in
theorem Ledger_fillOne_L2_J98_v {dgo_ : Nat} {Z : VZ} {cells slots : Nat} (hZ : dgo_ + 3 ≤ Z.1) (hC : cells ≤ Z.2.1) (hL : slots ≤ Z.2.2.1) (go_ : (Nat → Int32) → (Nat → Int32) → (Nat → Int32) → Int32 → Int32 → Int32 → Int32 → Int32 → Int32 → (Nat → Int32) → Int32 → Option ((Nat → Int32) × Int32 × Int32 × Int32)) (hgo_ : ∀ {needs_o : Nat → Int32} {changes_o : Nat → Int32} {row_o : Nat → Int32} {lost_o : Int32} {throne_o : Int32} {ways_o : Int32} {least_o : Int32} {most_o : Int32} {wells_l : Int32} {next_l : Nat → Int32} {ways_l : Nat → Int32} {a2 : Int32} {y : (Nat → Int32) × Int32 × Int32 × Int32}, go_ needs_o changes_o row_o lost_o throne_o ways_o least_o most_o wells_l next_l a2 = some y → C mLedger_go dgo_ 0 0 kpT [.ref 0, .ref 4, .int a2] (wLedL needs_o changes_o row_o lost_o throne_o ways_o least_o most_o wells_l next_l ways_l) none (wLedL needs_o changes_o y.1 lost_o throne_o y.2.1 y.2.2.1 y.2.2.2 wells_l next_l ways_l)) {needs_o : Nat → Int32} {changes_o : Nat → Int32} {row_o : Nat → Int32} {lost_o : Int32} {throne_o : Int32} {ways_o : Int32} {least_o : Int32} {most_o : Int32} {wells_l : Int32} {next_l : Nat → Int32} {ways_l : Nat → Int32} {v2 : Int32} {v3 : Int32} (y : (Int32 × (Nat → Int32) × Int32 × Int32 × Int32) ⊕ ((Nat → Int32) × Int32 × Int32 × Int32)) (h : Ledger_fillOne_L2_J98 go_ v2 v3 needs_o changes_o row_o lost_o throne_o ways_o least_o most_o wells_l next_l = some y)  (kI : ∀ s' : Int32 × (Nat → Int32) × Int32 × Int32 × Int32, y = .inl s' → V mLedger_fillOne Z cells slots 2 [some (.ref 0), some (.ref 4), some (.int v2), some (.int s'.1), none] [] (wLedL needs_o changes_o s'.2.1 lost_o throne_o s'.2.2.1 s'.2.2.2.1 s'.2.2.2.2 wells_l next_l ways_l)) (kR0 : ∀ r : (Nat → Int32) × Int32 × Int32 × Int32, y = .inr r → V mLedger_fillOne Z cells slots 104 [none, none, none, none, none] [] (wLedL needs_o changes_o r.1 lost_o throne_o r.2.1 r.2.2.1 r.2.2.2 wells_l next_l ways_l)) :
    V mLedger_fillOne Z cells slots 98 [some (.ref 0), some (.ref 4), some (.int v2), some (.int v3), none] [] (wLedL needs_o changes_o row_o lost_o throne_o ways_o least_o most_o wells_l next_l ways_l) := by
  unfold Ledger_fillOne_L2_J98 at h
  refine V.blk [(.iinc 3 1, 0, 0, 0, 1), (.goto (-99), 2, 0, 0, 0)] (by decide +kernel) (pc' := 2) (l' := [some (.ref 0), some (.ref 4), some (.int v2), some (.int (v3 + 1)), none]) (st' := []) (hs' := (wLedL needs_o changes_o row_o lost_o throne_o ways_o least_o most_o wells_l next_l ways_l)) rfl trivial rfl ?_
  replace h := Option.some.inj h
  subst h
  exact kI (v3 + 1, row_o, ways_o, least_o, most_o) rfl

set_option maxHeartbeats 4000000 in
set_option maxRecDepth 20000 in
theorem Ledger_fillOne_L2_v {dgo_ : Nat} {Z : VZ} {cells slots : Nat} (hZ : dgo_ + 3 ≤ Z.1) (hC : cells ≤ Z.2.1) (hL : slots ≤ Z.2.2.1) (go_ : (Nat → Int32) → (Nat → Int32) → (Nat → Int32) → Int32 → Int32 → Int32 → Int32 → Int32 → Int32 → (Nat → Int32) → Int32 → Option ((Nat → Int32) × Int32 × Int32 × Int32)) (hgo_ : ∀ {needs_o : Nat → Int32} {changes_o : Nat → Int32} {row_o : Nat → Int32} {lost_o : Int32} {throne_o : Int32} {ways_o : Int32} {least_o : Int32} {most_o : Int32} {wells_l : Int32} {next_l : Nat → Int32} {ways_l : Nat → Int32} {a2 : Int32} {y : (Nat → Int32) × Int32 × Int32 × Int32}, go_ needs_o changes_o row_o lost_o throne_o ways_o least_o most_o wells_l next_l a2 = some y → C mLedger_go dgo_ 0 0 kpT [.ref 0, .ref 4, .int a2] (wLedL needs_o changes_o row_o lost_o throne_o ways_o least_o most_o wells_l next_l ways_l) none (wLedL needs_o changes_o y.1 lost_o throne_o y.2.1 y.2.2.1 y.2.2.2 wells_l next_l ways_l)) {needs_o : Nat → Int32} {changes_o : Nat → Int32} {lost_o : Int32} {throne_o : Int32} {wells_l : Int32} {next_l : Nat → Int32} {ways_l : Nat → Int32} {v2 : Int32} (s2 : Int32 × (Nat → Int32) × Int32 × Int32 × Int32) (y : (Int32 × (Nat → Int32) × Int32 × Int32 × Int32) ⊕ ((Nat → Int32) × Int32 × Int32 × Int32)) (h : Ledger_fillOne_L2 go_ v2 needs_o changes_o lost_o throne_o wells_l next_l s2 = some y)  (kI : ∀ s' : Int32 × (Nat → Int32) × Int32 × Int32 × Int32, y = .inl s' → V mLedger_fillOne Z cells slots 2 [some (.ref 0), some (.ref 4), some (.int v2), some (.int s'.1), none] [] (wLedL needs_o changes_o s'.2.1 lost_o throne_o s'.2.2.1 s'.2.2.2.1 s'.2.2.2.2 wells_l next_l ways_l)) (kR0 : ∀ r : (Nat → Int32) × Int32 × Int32 × Int32, y = .inr r → V mLedger_fillOne Z cells slots 104 [none, none, none, none, none] [] (wLedL needs_o changes_o r.1 lost_o throne_o r.2.1 r.2.2.1 r.2.2.2 wells_l next_l ways_l)) :
    V mLedger_fillOne Z cells slots 2 [some (.ref 0), some (.ref 4), some (.int v2), some (.int s2.1), none] [] (wLedL needs_o changes_o s2.2.1 lost_o throne_o s2.2.2.1 s2.2.2.2.1 s2.2.2.2.2 wells_l next_l ways_l) := by
  unfold Ledger_fillOne_L2 at h
  refine V.blk [(.iload_n 3, 0, 0, 0, 0), (.aload_n 1, 0, 0, 0, 0), (.getfield 66, 2, 0, 0, 0)] (by decide +kernel) (pc' := 7) (l' := [some (.ref 0), some (.ref 4), some (.int v2), some (.int s2.1), none]) (st' := [.int wells_l, .int s2.1]) (hs' := (wLedL needs_o changes_o s2.2.1 lost_o throne_o s2.2.2.1 s2.2.2.2.1 s2.2.2.2.2 wells_l next_l ways_l)) rfl trivial rfl ?_
  refine V.ic_ge (tgt := 104) 97 (by decide +kernel) (by decide +kernel) (fun c2 => ?_) (fun c2 => ?_)
  · replace h := if_t h c2
    refine V.blk [(.iconst 0, 0, 0, 0, 0), (.istore 4, 0, 0, 0, 0)] (by decide +kernel) (pc' := 13) (l' := [some (.ref 0), some (.ref 4), some (.int v2), some (.int s2.1), some (.int 0)]) (st' := []) (hs' := (wLedL needs_o changes_o s2.2.1 lost_o throne_o s2.2.2.1 s2.2.2.2.1 s2.2.2.2.2 wells_l next_l ways_l)) rfl trivial rfl ?_
    obtain ⟨x1, hx, h⟩ := ob_some h
    refine lp_V (A := fun s13 : Int32 × (Nat → Int32) × Int32 × Int32 × Int32 => V mLedger_fillOne Z cells slots 13 [some (.ref 0), some (.ref 4), some (.int v2), some (.int s2.1), some (.int s13.1)] [] (wLedL needs_o changes_o s13.2.1 lost_o throne_o s13.2.2.1 s13.2.2.2.1 s13.2.2.2.2 wells_l next_l ways_l)) (B := fun x1 : (Nat → Int32) × Int32 × Int32 × Int32 => V mLedger_fillOne Z cells slots 98 [some (.ref 0), some (.ref 4), some (.int v2), some (.int s2.1), none] [] (wLedL needs_o changes_o x1.1 lost_o throne_o x1.2.1 x1.2.2.1 x1.2.2.2 wells_l next_l ways_l)) (s := (0, s2.2.1, s2.2.2.1, s2.2.2.2.1, s2.2.2.2.2)) (fun sq yq hq kIq kRq => Ledger_fillOne_L13_v (Z := Z) (cells := cells) (slots := slots) hZ hC hL go_ hgo_ sq yq hq kIq (fun r e => kRq r e)) hx ?_
    show V mLedger_fillOne Z cells slots 98 [some (.ref 0), some (.ref 4), some (.int v2), some (.int s2.1), none] [] (wLedL needs_o changes_o x1.1 lost_o throne_o x1.2.1 x1.2.2.1 x1.2.2.2 wells_l next_l ways_l)
    exact Ledger_fillOne_L2_J98_v hZ hC hL go_ hgo_ y h kI kR0
  · replace h := if_f h c2
    replace h := Option.some.inj h
    subst h
    refine V.weak [false, false, false, false, true] (l' := [none, none, none, none, none]) rfl rfl ?_
    exact kR0 (s2.2.1, s2.2.2.1, s2.2.2.2.1, s2.2.2.2.2) rfl

set_option maxHeartbeats 4000000 in
set_option maxRecDepth 20000 in
theorem Ledger_fillOne_c {dgo_ : Nat} (go_ : (Nat → Int32) → (Nat → Int32) → (Nat → Int32) → Int32 → Int32 → Int32 → Int32 → Int32 → Int32 → (Nat → Int32) → Int32 → Option ((Nat → Int32) × Int32 × Int32 × Int32)) (hgo_ : ∀ {needs_o : Nat → Int32} {changes_o : Nat → Int32} {row_o : Nat → Int32} {lost_o : Int32} {throne_o : Int32} {ways_o : Int32} {least_o : Int32} {most_o : Int32} {wells_l : Int32} {next_l : Nat → Int32} {ways_l : Nat → Int32} {a2 : Int32} {y : (Nat → Int32) × Int32 × Int32 × Int32}, go_ needs_o changes_o row_o lost_o throne_o ways_o least_o most_o wells_l next_l a2 = some y → C mLedger_go dgo_ 0 0 kpT [.ref 0, .ref 4, .int a2] (wLedL needs_o changes_o row_o lost_o throne_o ways_o least_o most_o wells_l next_l ways_l) none (wLedL needs_o changes_o y.1 lost_o throne_o y.2.1 y.2.2.1 y.2.2.2 wells_l next_l ways_l)) {needs_o : Nat → Int32} {changes_o : Nat → Int32} {row_o : Nat → Int32} {lost_o : Int32} {throne_o : Int32} {ways_o : Int32} {least_o : Int32} {most_o : Int32} {wells_l : Int32} {next_l : Nat → Int32} {ways_l : Nat → Int32} {a2 : Int32} {y : (Nat → Int32) × Int32 × Int32 × Int32} (h : Ledger_fillOne go_ needs_o changes_o row_o lost_o throne_o ways_o least_o most_o wells_l next_l a2 = some y) :
    C mLedger_fillOne (dgo_ + 3) 0 0 kpT [.ref 0, .ref 4, .int a2] (wLedL needs_o changes_o row_o lost_o throne_o ways_o least_o most_o wells_l next_l ways_l) none (wLedL needs_o changes_o y.1 lost_o throne_o y.2.1 y.2.2.1 y.2.2.2 wells_l next_l ways_l) := by
  refine C.of rfl rfl (Nat.le_of_ble_eq_true rfl) rfl rfl ?_
  show V mLedger_fillOne (dgo_ + 3, 0, 0, kpT, none, (wLedL needs_o changes_o y.1 lost_o throne_o y.2.1 y.2.2.1 y.2.2.2 wells_l next_l ways_l), 0, 0) 0 0 0 [some (.ref 0), some (.ref 4), some (.int a2), none, none] [] (wLedL needs_o changes_o row_o lost_o throne_o ways_o least_o most_o wells_l next_l ways_l)
  unfold Ledger_fillOne at h
  refine V.blk [(.iconst 0, 0, 0, 0, 0), (.istore_n 3, 0, 0, 0, 0)] (by decide +kernel) (pc' := 2) (l' := [some (.ref 0), some (.ref 4), some (.int a2), some (.int 0), none]) (st' := []) (hs' := (wLedL needs_o changes_o row_o lost_o throne_o ways_o least_o most_o wells_l next_l ways_l)) rfl trivial rfl ?_
  obtain ⟨x1, hx, h⟩ := ob_some h
  refine lp_V (A := fun s2 : Int32 × (Nat → Int32) × Int32 × Int32 × Int32 => V mLedger_fillOne (dgo_ + 3, 0, 0, kpT, none, (wLedL needs_o changes_o y.1 lost_o throne_o y.2.1 y.2.2.1 y.2.2.2 wells_l next_l ways_l), 0, 0) 0 0 2 [some (.ref 0), some (.ref 4), some (.int a2), some (.int s2.1), none] [] (wLedL needs_o changes_o s2.2.1 lost_o throne_o s2.2.2.1 s2.2.2.2.1 s2.2.2.2.2 wells_l next_l ways_l)) (B := fun x1 : (Nat → Int32) × Int32 × Int32 × Int32 => V mLedger_fillOne (dgo_ + 3, 0, 0, kpT, none, (wLedL needs_o changes_o y.1 lost_o throne_o y.2.1 y.2.2.1 y.2.2.2 wells_l next_l ways_l), 0, 0) 0 0 104 [none, none, none, none, none] [] (wLedL needs_o changes_o x1.1 lost_o throne_o x1.2.1 x1.2.2.1 x1.2.2.2 wells_l next_l ways_l)) (s := (0, row_o, ways_o, least_o, most_o)) (fun sq yq hq kIq kRq => Ledger_fillOne_L2_v (Z := (dgo_ + 3, 0, 0, kpT, none, (wLedL needs_o changes_o y.1 lost_o throne_o y.2.1 y.2.2.1 y.2.2.2 wells_l next_l ways_l), 0, 0)) (cells := 0) (slots := 0) (Nat.le_refl _) (Nat.le_refl _) (Nat.le_refl _) go_ hgo_ sq yq hq kIq (fun r e => kRq r e)) hx ?_
  show V mLedger_fillOne (dgo_ + 3, 0, 0, kpT, none, (wLedL needs_o changes_o y.1 lost_o throne_o y.2.1 y.2.2.1 y.2.2.2 wells_l next_l ways_l), 0, 0) 0 0 104 [none, none, none, none, none] [] (wLedL needs_o changes_o x1.1 lost_o throne_o x1.2.1 x1.2.2.1 x1.2.2.2 wells_l next_l ways_l)
  replace h := Option.some.inj h
  subst h
  exact V.vret rfl (Nat.le_refl _) (Nat.le_refl _) (by decide +kernel)

set_option maxHeartbeats 4000000 in
set_option maxRecDepth 20000 in
theorem Ledger_goO_J83_v {dgo_ : Nat} (go_ : (Nat → Int32) → (Nat → Int32) → (Nat → Int32) → Int32 → Int32 → Int32 → Int32 → Int32 → Int32 → (Nat → Int32) → Int32 → Option ((Nat → Int32) × Int32 × Int32 × Int32)) (hgo_ : ∀ {needs_o : Nat → Int32} {changes_o : Nat → Int32} {row_o : Nat → Int32} {lost_o : Int32} {throne_o : Int32} {ways_o : Int32} {least_o : Int32} {most_o : Int32} {wells_l : Int32} {next_l : Nat → Int32} {ways_l : Nat → Int32} {a2 : Int32} {y : (Nat → Int32) × Int32 × Int32 × Int32}, go_ needs_o changes_o row_o lost_o throne_o ways_o least_o most_o wells_l next_l a2 = some y → C mLedger_go dgo_ 0 0 kpT [.ref 0, .ref 4, .int a2] (wLedL needs_o changes_o row_o lost_o throne_o ways_o least_o most_o wells_l next_l ways_l) none (wLedL needs_o changes_o y.1 lost_o throne_o y.2.1 y.2.2.1 y.2.2.2 wells_l next_l ways_l)) {needs_o : Nat → Int32} {changes_o : Nat → Int32} {row_o : Nat → Int32} {lost_o : Int32} {throne_o : Int32} {ways_o : Int32} {least_o : Int32} {most_o : Int32} {wells_l : Int32} {next_l : Nat → Int32} {ways_l : Nat → Int32} {v2 : Int32} (y : (Nat → Int32) × Int32 × Int32 × Int32) (h : Ledger_goO_J83 go_ v2 needs_o changes_o row_o lost_o throne_o ways_o least_o most_o wells_l next_l = some y)  :
    V mLedger_go (dgo_ + 4, 0, 0, kpT, none, (wLedL needs_o changes_o y.1 lost_o throne_o y.2.1 y.2.2.1 y.2.2.2 wells_l next_l ways_l), 0, 0) 0 0 83 [some (.ref 0), none, some (.int v2)] [] (wLedL needs_o changes_o row_o lost_o throne_o ways_o least_o most_o wells_l next_l ways_l) := by
  unfold Ledger_goO_J83 at h
  refine V.blk [(.aload_n 0, 0, 0, 0, 0), (.iload_n 2, 0, 0, 0, 0), (.iconst (-1), 0, 0, 0, (-1))] (by decide +kernel) (pc' := 86) (l' := [some (.ref 0), none, some (.int v2)]) (st' := [.int (-1), .int v2, .ref 0]) (hs' := (wLedL needs_o changes_o row_o lost_o throne_o ways_o least_o most_o wells_l next_l ways_l)) rfl trivial rfl ?_
  obtain ⟨x1, hx, h⟩ := ob_some h
  refine V.callV (ρ := fun j => [0, 1, 2, 3].getD j 0) (j0 := 0) (as' := [.int v2, .int (-1)]) (rest := []) (hc := (wLed needs_o changes_o row_o lost_o throne_o ways_o least_o most_o)) (hc' := (wLed needs_o changes_o x1 lost_o throne_o ways_o least_o most_o)) (hs' := (wLedL needs_o changes_o x1 lost_o throne_o ways_o least_o most_o wells_l next_l ways_l)) (Ledger_change_c hx) ok_mLedger_change lk5_122 rfl (Sub.list rfl rfl) (Aft.list rfl rfl rfl rfl) ⟨_, _, rfl, by decide, rfl⟩ (Nat.le_trans (by omega : 1 + 1 ≤ dgo_ + 4) (Nat.le_refl _)) (Nat.le_refl _) (Nat.le_refl _) (Nat.le_of_ble_eq_true rfl) (by decide +kernel) ?_
  show V mLedger_go (dgo_ + 4, 0, 0, kpT, none, (wLedL needs_o changes_o y.1 lost_o throne_o y.2.1 y.2.2.1 y.2.2.2 wells_l next_l ways_l), 0, 0) 0 0 89 [some (.ref 0), none, some (.int v2)] [] (wLedL needs_o changes_o x1 lost_o throne_o ways_o least_o most_o wells_l next_l ways_l)
  replace h := Option.some.inj h
  subst h
  exact V.vret rfl (Nat.le_refl _) (Nat.le_refl _) (by decide +kernel)

set_option maxHeartbeats 4000000 in
set_option maxRecDepth 20000 in
theorem Ledger_goO_c {dgo_ : Nat} (go_ : (Nat → Int32) → (Nat → Int32) → (Nat → Int32) → Int32 → Int32 → Int32 → Int32 → Int32 → Int32 → (Nat → Int32) → Int32 → Option ((Nat → Int32) × Int32 × Int32 × Int32)) (hgo_ : ∀ {needs_o : Nat → Int32} {changes_o : Nat → Int32} {row_o : Nat → Int32} {lost_o : Int32} {throne_o : Int32} {ways_o : Int32} {least_o : Int32} {most_o : Int32} {wells_l : Int32} {next_l : Nat → Int32} {ways_l : Nat → Int32} {a2 : Int32} {y : (Nat → Int32) × Int32 × Int32 × Int32}, go_ needs_o changes_o row_o lost_o throne_o ways_o least_o most_o wells_l next_l a2 = some y → C mLedger_go dgo_ 0 0 kpT [.ref 0, .ref 4, .int a2] (wLedL needs_o changes_o row_o lost_o throne_o ways_o least_o most_o wells_l next_l ways_l) none (wLedL needs_o changes_o y.1 lost_o throne_o y.2.1 y.2.2.1 y.2.2.2 wells_l next_l ways_l)) {needs_o : Nat → Int32} {changes_o : Nat → Int32} {row_o : Nat → Int32} {lost_o : Int32} {throne_o : Int32} {ways_o : Int32} {least_o : Int32} {most_o : Int32} {wells_l : Int32} {next_l : Nat → Int32} {ways_l : Nat → Int32} {a2 : Int32} {y : (Nat → Int32) × Int32 × Int32 × Int32} (h : Ledger_goO go_ needs_o changes_o row_o lost_o throne_o ways_o least_o most_o wells_l next_l a2 = some y) :
    C mLedger_go (dgo_ + 4) 0 0 kpT [.ref 0, .ref 4, .int a2] (wLedL needs_o changes_o row_o lost_o throne_o ways_o least_o most_o wells_l next_l ways_l) none (wLedL needs_o changes_o y.1 lost_o throne_o y.2.1 y.2.2.1 y.2.2.2 wells_l next_l ways_l) := by
  refine C.of rfl rfl (Nat.le_of_ble_eq_true rfl) rfl rfl ?_
  show V mLedger_go (dgo_ + 4, 0, 0, kpT, none, (wLedL needs_o changes_o y.1 lost_o throne_o y.2.1 y.2.2.1 y.2.2.2 wells_l next_l ways_l), 0, 0) 0 0 0 [some (.ref 0), some (.ref 4), some (.int a2)] [] (wLedL needs_o changes_o row_o lost_o throne_o ways_o least_o most_o wells_l next_l ways_l)
  unfold Ledger_goO at h
  refine V.blk [(.iload_n 2, 0, 0, 0, 0), (.iconst 3, 0, 0, 0, 3)] (by decide +kernel) (pc' := 2) (l' := [some (.ref 0), some (.ref 4), some (.int a2)]) (st' := [.int 3, .int a2]) (hs' := (wLedL needs_o changes_o row_o lost_o throne_o ways_o least_o most_o wells_l next_l ways_l)) rfl trivial rfl ?_
  refine V.ic_gt (tgt := 14) 12 (by decide +kernel) (by decide +kernel) (fun c10 => ?_) (fun c10 => ?_)
  · replace h := if_t h c10
    refine V.blk [(.aload_n 0, 0, 0, 0, 0), (.iload_n 2, 0, 0, 0, 0)] (by decide +kernel) (pc' := 7) (l' := [some (.ref 0), some (.ref 4), some (.int a2)]) (st' := [.int a2, .ref 0]) (hs' := (wLedL needs_o changes_o row_o lost_o throne_o ways_o least_o most_o wells_l next_l ways_l)) rfl trivial rfl ?_
    obtain ⟨x1, hx, h⟩ := ob_some h
    refine V.callV (ρ := fun j => [0, 1, 2, 3].getD j 0) (j0 := 0) (as' := [.int a2]) (rest := []) (hc := (wLed needs_o changes_o row_o lost_o throne_o ways_o least_o most_o)) (hc' := (wLed needs_o changes_o row_o lost_o throne_o ways_o least_o most_o)) (hs' := (wLedL needs_o changes_o row_o lost_o throne_o ways_o least_o most_o wells_l next_l ways_l)) (Ledger_lackAt_c hx) ok_mLedger_lackAt lk5_118 rfl (Sub.list rfl rfl) (Aft.list rfl rfl rfl rfl) ⟨_, _, rfl, by decide, rfl⟩ (Nat.le_trans (by omega : 1 + 1 ≤ dgo_ + 4) (Nat.le_refl _)) (Nat.le_refl _) (Nat.le_refl _) (Nat.le_of_ble_eq_true rfl) (by decide +kernel) ?_
    show V mLedger_go (dgo_ + 4, 0, 0, kpT, none, (wLedL needs_o changes_o y.1 lost_o throne_o y.2.1 y.2.2.1 y.2.2.2 wells_l next_l ways_l), 0, 0) 0 0 10 [some (.ref 0), some (.ref 4), some (.int a2)] [.int x1] (wLedL needs_o changes_o row_o lost_o throne_o ways_o least_o most_o wells_l next_l ways_l)
    refine V.blk [(.iconst (-1), 0, 0, 0, (-1))] (by decide +kernel) (pc' := 11) (l' := [some (.ref 0), some (.ref 4), some (.int a2)]) (st' := [.int (-1), .int x1]) (hs' := (wLedL needs_o changes_o row_o lost_o throne_o ways_o least_o most_o wells_l next_l ways_l)) rfl trivial rfl ?_
    refine V.ic_eq (tgt := 15) 4 (by decide +kernel) (by decide +kernel) (fun c9 => ?_) (fun c9 => ?_)
    · replace h := if_t h c9
      refine V.blk [(.aload_n 0, 0, 0, 0, 0), (.iload_n 2, 0, 0, 0, 0), (.iconst 1, 0, 0, 0, 1)] (by decide +kernel) (pc' := 18) (l' := [some (.ref 0), some (.ref 4), some (.int a2)]) (st' := [.int 1, .int a2, .ref 0]) (hs' := (wLedL needs_o changes_o row_o lost_o throne_o ways_o least_o most_o wells_l next_l ways_l)) rfl trivial rfl ?_
      obtain ⟨x2, hx, h⟩ := ob_some h
      refine V.callV (ρ := fun j => [0, 1, 2, 3].getD j 0) (j0 := 0) (as' := [.int a2, .int 1]) (rest := []) (hc := (wLed needs_o changes_o row_o lost_o throne_o ways_o least_o most_o)) (hc' := (wLed needs_o changes_o x2 lost_o throne_o ways_o least_o most_o)) (hs' := (wLedL needs_o changes_o x2 lost_o throne_o ways_o least_o most_o wells_l next_l ways_l)) (Ledger_change_c hx) ok_mLedger_change lk5_122 rfl (Sub.list rfl rfl) (Aft.list rfl rfl rfl rfl) ⟨_, _, rfl, by decide, rfl⟩ (Nat.le_trans (by omega : 1 + 1 ≤ dgo_ + 4) (Nat.le_refl _)) (Nat.le_refl _) (Nat.le_refl _) (Nat.le_of_ble_eq_true rfl) (by decide +kernel) ?_
      show V mLedger_go (dgo_ + 4, 0, 0, kpT, none, (wLedL needs_o changes_o y.1 lost_o throne_o y.2.1 y.2.2.1 y.2.2.2 wells_l next_l ways_l), 0, 0) 0 0 21 [some (.ref 0), some (.ref 4), some (.int a2)] [] (wLedL needs_o changes_o x2 lost_o throne_o ways_o least_o most_o wells_l next_l ways_l)
      refine V.blk [(.iload_n 2, 0, 0, 0, 0), (.aload_n 0, 0, 0, 0, 0), (.getfield 27, 5, 3, 0, 0)] (by decide +kernel) (pc' := 26) (l' := [some (.ref 0), some (.ref 4), some (.int a2)]) (st' := [.int lost_o, .int a2]) (hs' := (wLedL needs_o changes_o x2 lost_o throne_o ways_o least_o most_o wells_l next_l ways_l)) rfl trivial rfl ?_
      refine V.ic_lt (tgt := 55) 29 (by decide +kernel) (by decide +kernel) (fun c8 => ?_) (fun c8 => ?_)
      · replace h := if_t h c8
        refine V.blk [(.iload_n 2, 0, 0, 0, 0), (.aload_n 0, 0, 0, 0, 0), (.getfield 27, 5, 3, 0, 0), (.iconst 1, 0, 0, 0, 1), (.isub, 0, 0, 0, 0)] (by decide +kernel) (pc' := 62) (l' := [some (.ref 0), some (.ref 4), some (.int a2)]) (st' := [.int (lost_o - 1), .int a2]) (hs' := (wLedL needs_o changes_o x2 lost_o throne_o ways_o least_o most_o wells_l next_l ways_l)) rfl trivial rfl ?_
        refine V.ic_ne (tgt := 77) 15 (by decide +kernel) (by decide +kernel) (fun c5 => ?_) (fun c5 => ?_)
        · replace h := if_t h c5
          refine V.blk [(.aload_n 0, 0, 0, 0, 0), (.aload_n 1, 0, 0, 0, 0), (.aload_n 0, 0, 0, 0, 0), (.getfield 27, 5, 3, 0, 0)] (by decide +kernel) (pc' := 71) (l' := [some (.ref 0), some (.ref 4), some (.int a2)]) (st' := [.int lost_o, .ref 4, .ref 0]) (hs' := (wLedL needs_o changes_o x2 lost_o throne_o ways_o least_o most_o wells_l next_l ways_l)) rfl trivial rfl ?_
          obtain ⟨x3, hx, h⟩ := ob_some h
          refine V.callV (ρ := fun j => j) (j0 := 0) (as' := [.ref 4, .int lost_o]) (rest := []) (hc := (wLedL needs_o changes_o x2 lost_o throne_o ways_o least_o most_o wells_l next_l ways_l)) (hc' := (wLedL needs_o changes_o x3.1 lost_o throne_o x3.2.1 x3.2.2.1 x3.2.2.2 wells_l next_l ways_l)) (hs' := (wLedL needs_o changes_o x3.1 lost_o throne_o x3.2.1 x3.2.2.1 x3.2.2.2 wells_l next_l ways_l)) (Ledger_fillLast_c hx) ok_mLedger_fillLast lk5_129 rfl (Sub.self _) (Aft.self rfl) ⟨_, _, rfl, by decide, rfl⟩ (Nat.le_trans (by omega : 2 + 1 ≤ dgo_ + 4) (Nat.le_refl _)) (Nat.le_refl _) (Nat.le_refl _) (Nat.le_of_ble_eq_true rfl) (by decide +kernel) ?_
          show V mLedger_go (dgo_ + 4, 0, 0, kpT, none, (wLedL needs_o changes_o y.1 lost_o throne_o y.2.1 y.2.2.1 y.2.2.2 wells_l next_l ways_l), 0, 0) 0 0 74 [some (.ref 0), some (.ref 4), some (.int a2)] [] (wLedL needs_o changes_o x3.1 lost_o throne_o x3.2.1 x3.2.2.1 x3.2.2.2 wells_l next_l ways_l)
          refine V.blk [(.goto 9, 83, 0, 0, 0)] (by decide +kernel) (pc' := 83) (l' := [some (.ref 0), some (.ref 4), some (.int a2)]) (st' := []) (hs' := (wLedL needs_o changes_o x3.1 lost_o throne_o x3.2.1 x3.2.2.1 x3.2.2.2 wells_l next_l ways_l)) rfl trivial rfl ?_
          refine V.weak [true, false, true] (l' := [some (.ref 0), none, some (.int a2)]) rfl rfl ?_
          exact Ledger_goO_J83_v go_ hgo_ y h
        · replace h := if_f h c5
          refine V.blk [(.aload_n 0, 0, 0, 0, 0), (.aload_n 1, 0, 0, 0, 0), (.iload_n 2, 0, 0, 0, 0)] (by decide +kernel) (pc' := 80) (l' := [some (.ref 0), some (.ref 4), some (.int a2)]) (st' := [.int a2, .ref 4, .ref 0]) (hs' := (wLedL needs_o changes_o x2 lost_o throne_o ways_o least_o most_o wells_l next_l ways_l)) rfl trivial rfl ?_
          obtain ⟨x4, hx, h⟩ := ob_some h
          refine V.callV (ρ := fun j => j) (j0 := 0) (as' := [.ref 4, .int a2]) (rest := []) (hc := (wLedL needs_o changes_o x2 lost_o throne_o ways_o least_o most_o wells_l next_l ways_l)) (hc' := (wLedL needs_o changes_o x4.1 lost_o throne_o x4.2.1 x4.2.2.1 x4.2.2.2 wells_l next_l ways_l)) (hs' := (wLedL needs_o changes_o x4.1 lost_o throne_o x4.2.1 x4.2.2.1 x4.2.2.2 wells_l next_l ways_l)) (Ledger_fillOne_c go_ hgo_ hx) ok_mLedger_fillOne lk5_132 rfl (Sub.self _) (Aft.self rfl) ⟨_, _, rfl, by decide, rfl⟩ (Nat.le_trans (by omega : dgo_ + 3 + 1 ≤ dgo_ + 4) (Nat.le_refl _)) (Nat.le_refl _) (Nat.le_refl _) (Nat.le_of_ble_eq_true rfl) (by decide +kernel) ?_
          show V mLedger_go (dgo_ + 4, 0, 0, kpT, none, (wLedL needs_o changes_o y.1 lost_o throne_o y.2.1 y.2.2.1 y.2.2.2 wells_l next_l ways_l), 0, 0) 0 0 83 [some (.ref 0), some (.ref 4), some (.int a2)] [] (wLedL needs_o changes_o x4.1 lost_o throne_o x4.2.1 x4.2.2.1 x4.2.2.2 wells_l next_l ways_l)
          refine V.weak [true, false, true] (l' := [some (.ref 0), none, some (.int a2)]) rfl rfl ?_
          exact Ledger_goO_J83_v go_ hgo_ y h
      · replace h := if_f h c8
        obtain ⟨g6, h⟩ := gd_some h
        refine V.blk [(.aload_n 0, 0, 0, 0, 0), (.dup, 0, 0, 0, 0), (.getfield 102, 5, 5, 0, 0), (.iconst 1, 0, 0, 0, 1), (.iadd, 0, 0, 0, 0), (.putfield 102, 5, 5, 0, 0), (.aload_n 0, 0, 0, 0, 0), (.aload_n 0, 0, 0, 0, 0), (.getfield 18, 5, 2, 0, 0), (.aload_n 0, 0, 0, 0, 0), (.getfield 101, 5, 4, 0, 0), (.iaload, 0, 0, 0, 0)] (by decide +kernel) (pc' := 49) (l' := [some (.ref 0), some (.ref 4), some (.int a2)]) (st' := [.int (x2 (throne_o : Int32).toNatClampNeg), .ref 0]) (hs' := (wLedL needs_o changes_o x2 lost_o throne_o (ways_o + 1) least_o most_o wells_l next_l ways_l)) rfl ⟨g6, trivial⟩ rfl ?_
        obtain ⟨x7, hx, h⟩ := ob_some h
        refine V.callV (ρ := fun j => [0, 1, 2, 3].getD j 0) (j0 := 0) (as' := [.int (x2 (throne_o : Int32).toNatClampNeg)]) (rest := []) (hc := (wLed needs_o changes_o x2 lost_o throne_o (ways_o + 1) least_o most_o)) (hc' := (wLed needs_o changes_o x2 lost_o throne_o (ways_o + 1) x7.1 x7.2)) (hs' := (wLedL needs_o changes_o x2 lost_o throne_o (ways_o + 1) x7.1 x7.2 wells_l next_l ways_l)) (Ledger_tell_c hx) ok_mLedger_tell lk5_125 rfl (Sub.list rfl rfl) (Aft.list rfl rfl rfl rfl) ⟨_, _, rfl, by decide, rfl⟩ (Nat.le_trans (by omega : 1 + 1 ≤ dgo_ + 4) (Nat.le_refl _)) (Nat.le_refl _) (Nat.le_refl _) (Nat.le_of_ble_eq_true rfl) (by decide +kernel) ?_
        show V mLedger_go (dgo_ + 4, 0, 0, kpT, none, (wLedL needs_o changes_o y.1 lost_o throne_o y.2.1 y.2.2.1 y.2.2.2 wells_l next_l ways_l), 0, 0) 0 0 52 [some (.ref 0), some (.ref 4), some (.int a2)] [] (wLedL needs_o changes_o x2 lost_o throne_o (ways_o + 1) x7.1 x7.2 wells_l next_l ways_l)
        refine V.blk [(.goto 31, 83, 0, 0, 0)] (by decide +kernel) (pc' := 83) (l' := [some (.ref 0), some (.ref 4), some (.int a2)]) (st' := []) (hs' := (wLedL needs_o changes_o x2 lost_o throne_o (ways_o + 1) x7.1 x7.2 wells_l next_l ways_l)) rfl trivial rfl ?_
        refine V.weak [true, false, true] (l' := [some (.ref 0), none, some (.int a2)]) rfl rfl ?_
        exact Ledger_goO_J83_v go_ hgo_ y h
    · replace h := if_f h c9
      replace h := Option.some.inj h
      subst h
      exact V.vret rfl (Nat.le_refl _) (Nat.le_refl _) (by decide +kernel)
  · replace h := if_f h c10
    replace h := Option.some.inj h
    subst h
    exact V.vret rfl (Nat.le_refl _) (Nat.le_refl _) (by decide +kernel)

set_option maxHeartbeats 4000000 in
set_option maxRecDepth 20000 in
theorem Ledger_go_c : ∀ (n : Nat) {needs_o : Nat → Int32} {changes_o : Nat → Int32} {row_o : Nat → Int32} {lost_o : Int32} {throne_o : Int32} {ways_o : Int32} {least_o : Int32} {most_o : Int32} {wells_l : Int32} {next_l : Nat → Int32} {ways_l : Nat → Int32} {a2 : Int32} {y : (Nat → Int32) × Int32 × Int32 × Int32}, Ledger_go n needs_o changes_o row_o lost_o throne_o ways_o least_o most_o wells_l next_l a2 = some y → C mLedger_go (4 * n) 0 0 kpT [.ref 0, .ref 4, .int a2] (wLedL needs_o changes_o row_o lost_o throne_o ways_o least_o most_o wells_l next_l ways_l) none (wLedL needs_o changes_o y.1 lost_o throne_o y.2.1 y.2.2.1 y.2.2.2 wells_l next_l ways_l) := by
  intro n
  induction n with
  | zero =>
    intro _ _ _ _ _ _ _ _ _ _ _ _ y h
    cases h
  | succ n ih =>
    intro _ _ _ _ _ _ _ _ _ _ _ _ y h
    exact Ledger_goO_c (Ledger_go n) ih h

set_option maxHeartbeats 4000000 in
set_option maxRecDepth 20000 in
theorem Ledger_fill_c {needs_o : Nat → Int32} {changes_o : Nat → Int32} {row_o : Nat → Int32} {lost_o : Int32} {throne_o : Int32} {ways_o : Int32} {least_o : Int32} {most_o : Int32} {wells_l : Int32} {next_l : Nat → Int32} {ways_l : Nat → Int32} {jars_c : Nat → Int32} {space_c : Nat → Int32} {throne_c : Int32} {day_c : Int32} {draw_c : Int32} {gone_c : Int32} {robbed_c : Int32}  {y : (Nat → Int32) × Int32 × Int32 × Int32 × Int32} (h : Ledger_fill needs_o changes_o row_o lost_o throne_o ways_o least_o most_o wells_l next_l jars_c throne_c = some y) :
    C mLedger_fill 21 0 0 kpT [.ref 0, .ref 4, .ref 7] (wLedLC needs_o changes_o row_o lost_o throne_o ways_o least_o most_o wells_l next_l ways_l jars_c space_c throne_c day_c draw_c gone_c robbed_c) none (wLedLC needs_o changes_o y.1 lost_o y.2.1 y.2.2.1 y.2.2.2.1 y.2.2.2.2 wells_l next_l ways_l jars_c space_c throne_c day_c draw_c gone_c robbed_c) := by
  refine C.of rfl rfl (Nat.le_of_ble_eq_true rfl) rfl rfl ?_
  show V mLedger_fill (21, 0, 0, kpT, none, (wLedLC needs_o changes_o y.1 lost_o y.2.1 y.2.2.1 y.2.2.2.1 y.2.2.2.2 wells_l next_l ways_l jars_c space_c throne_c day_c draw_c gone_c robbed_c), 0, 0) 0 0 0 [some (.ref 0), some (.ref 4), some (.ref 7)] [] (wLedLC needs_o changes_o row_o lost_o throne_o ways_o least_o most_o wells_l next_l ways_l jars_c space_c throne_c day_c draw_c gone_c robbed_c)
  unfold Ledger_fill at h
  refine V.blk [(.aload_n 2, 0, 0, 0, 0), (.getfield 87, 0, 0, 0, 0), (.iconst 0, 0, 0, 0, 0), (.aload_n 0, 0, 0, 0, 0), (.getfield 18, 5, 2, 0, 0), (.iconst 0, 0, 0, 0, 0), (.bipush 12, 0, 0, 0, 12)] (by decide +kernel) (pc' := 12) (l' := [some (.ref 0), some (.ref 4), some (.ref 7)]) (st' := [.int 12, .int 0, .ref 3, .int 0, .ref 8]) (hs' := (wLedLC needs_o changes_o row_o lost_o throne_o ways_o least_o most_o wells_l next_l ways_l jars_c space_c throne_c day_c draw_c gone_c robbed_c)) rfl trivial rfl ?_
  obtain ⟨g1, h⟩ := gd_some h
  refine V.copy (a0 := 8) (a := 3) rfl rfl g1 (Nat.le_trans (by decide : 1 ≤ 21) (Nat.le_refl _)) lk5_92 (Nat.le_of_ble_eq_true rfl) (by decide +kernel) ?_
  show V mLedger_fill (21, 0, 0, kpT, none, (wLedLC needs_o changes_o y.1 lost_o y.2.1 y.2.2.1 y.2.2.2.1 y.2.2.2.2 wells_l next_l ways_l jars_c space_c throne_c day_c draw_c gone_c robbed_c), 0, 0) 0 0 15 [some (.ref 0), some (.ref 4), some (.ref 7)] [] (wLedLC needs_o changes_o (va_cpy jars_c row_o (0 : Int32).toNatClampNeg (0 : Int32).toNatClampNeg (12 : Int32).toNatClampNeg) lost_o throne_o ways_o least_o most_o wells_l next_l ways_l jars_c space_c throne_c day_c draw_c gone_c robbed_c)
  refine V.blk [(.aload_n 0, 0, 0, 0, 0), (.aload_n 2, 0, 0, 0, 0), (.getfield 98, 0, 2, 0, 0), (.putfield 101, 5, 4, 0, 0), (.aload_n 0, 0, 0, 0, 0), (.iconst 0, 0, 0, 0, 0), (.putfield 102, 5, 5, 0, 0), (.aload_n 0, 0, 0, 0, 0), (.ldc 107, 0, 0, 0, 2147483647), (.putfield 108, 5, 6, 0, 0), (.aload_n 0, 0, 0, 0, 0), (.iconst 0, 0, 0, 0, 0), (.putfield 111, 5, 7, 0, 0), (.aload_n 0, 0, 0, 0, 0), (.aload_n 1, 0, 0, 0, 0), (.iconst 0, 0, 0, 0, 0)] (by decide +kernel) (pc' := 42) (l' := [some (.ref 0), some (.ref 4), some (.ref 7)]) (st' := [.int 0, .ref 4, .ref 0]) (hs' := (wLedLC needs_o changes_o (va_cpy jars_c row_o (0 : Int32).toNatClampNeg (0 : Int32).toNatClampNeg (12 : Int32).toNatClampNeg) lost_o throne_c 0 2147483647 0 wells_l next_l ways_l jars_c space_c throne_c day_c draw_c gone_c robbed_c)) rfl trivial rfl ?_
  obtain ⟨x2, hx, h⟩ := ob_some h
  refine V.callV (ρ := fun j => [0, 1, 2, 3, 4, 5, 6].getD j 0) (j0 := 0) (as' := [.ref 4, .int 0]) (rest := []) (hc := (wLedL needs_o changes_o (va_cpy jars_c row_o (0 : Int32).toNatClampNeg (0 : Int32).toNatClampNeg (12 : Int32).toNatClampNeg) lost_o throne_c 0 2147483647 0 wells_l next_l ways_l)) (hc' := (wLedL needs_o changes_o x2.1 lost_o throne_c x2.2.1 x2.2.2.1 x2.2.2.2 wells_l next_l ways_l)) (hs' := (wLedLC needs_o changes_o x2.1 lost_o throne_c x2.2.1 x2.2.2.1 x2.2.2.2 wells_l next_l ways_l jars_c space_c throne_c day_c draw_c gone_c robbed_c)) (Ledger_go_c 5 hx) ok_mLedger_go lk5_114 rfl (Sub.list rfl rfl) (Aft.list rfl rfl rfl rfl) ⟨_, _, rfl, by decide, rfl⟩ (Nat.le_trans (by decide : 20 + 1 ≤ 21) (Nat.le_refl _)) (Nat.le_refl _) (Nat.le_refl _) (Nat.le_of_ble_eq_true rfl) (by decide +kernel) ?_
  show V mLedger_fill (21, 0, 0, kpT, none, (wLedLC needs_o changes_o y.1 lost_o y.2.1 y.2.2.1 y.2.2.2.1 y.2.2.2.2 wells_l next_l ways_l jars_c space_c throne_c day_c draw_c gone_c robbed_c), 0, 0) 0 0 45 [some (.ref 0), some (.ref 4), some (.ref 7)] [] (wLedLC needs_o changes_o x2.1 lost_o throne_c x2.2.1 x2.2.2.1 x2.2.2.2 wells_l next_l ways_l jars_c space_c throne_c day_c draw_c gone_c robbed_c)
  replace h := Option.some.inj h
  subst h
  exact V.vret rfl (Nat.le_refl _) (Nat.le_refl _) (by decide +kernel)

set_option maxHeartbeats 4000000 in
set_option maxRecDepth 20000 in
theorem Symmetry_lowest_L2_v {Z : VZ} {cells slots : Nat} (hZ : 1 ≤ Z.1) (hC : cells ≤ Z.2.1) (hL : slots ≤ Z.2.2.1)  {v0 : Int32} (s2 : Int32) (y : (Int32) ⊕ (Int32) ⊕ (Unit)) (h : Symmetry_lowest_L2 v0 s2 = some y)  (kI : ∀ s' : Int32, y = .inl s' → V mSymmetry_lowest Z cells slots 2 [some (.int v0), some (.int s')] [] (wNone )) (kR0 : ∀ r : Int32, y = .inr (.inl r) → V mSymmetry_lowest Z cells slots 16 [none, some (.int r)] [] (wNone )) (kR1 : ∀ r : Unit, y = .inr (.inr (r)) → V mSymmetry_lowest Z cells slots 24 [none, none] [] (wNone )) :
    V mSymmetry_lowest Z cells slots 2 [some (.int v0), some (.int s2)] [] (wNone ) := by
  unfold Symmetry_lowest_L2 at h
  refine V.blk [(.iload_n 1, 0, 0, 0, 0), (.bipush 11, 0, 0, 0, 11)] (by decide +kernel) (pc' := 5) (l' := [some (.int v0), some (.int s2)]) (st' := [.int 11, .int s2]) (hs' := (wNone )) rfl trivial rfl ?_
  refine V.ic_ge (tgt := 24) 19 (by decide +kernel) (by decide +kernel) (fun c2 => ?_) (fun c2 => ?_)
  · replace h := if_t h c2
    refine V.blk [(.iload_n 0, 0, 0, 0, 0), (.iload_n 1, 0, 0, 0, 0), (.ishr, 0, 0, 0, 0), (.iconst 1, 0, 0, 0, 1), (.iand, 0, 0, 0, 0)] (by decide +kernel) (pc' := 13) (l' := [some (.int v0), some (.int s2)]) (st' := [.int ((v0 >>> (s2 &&& 31)) &&& 1)]) (hs' := (wNone )) rfl trivial rfl ?_
    refine V.if_eq (tgt := 18) 5 (by decide +kernel) (by decide +kernel) (fun c1 => ?_) (fun c1 => ?_)
    · replace h := if_t h c1
      refine V.blk [(.iinc 1 1, 0, 0, 0, 1), (.goto (-19), 2, 0, 0, 0)] (by decide +kernel) (pc' := 2) (l' := [some (.int v0), some (.int (s2 + 1))]) (st' := []) (hs' := (wNone )) rfl trivial rfl ?_
      replace h := Option.some.inj h
      subst h
      exact kI (s2 + 1) rfl
    · replace h := if_f h c1
      replace h := Option.some.inj h
      subst h
      refine V.weak [false, true] (l' := [none, some (.int s2)]) rfl rfl ?_
      exact kR0 s2 rfl
  · replace h := if_f h c2
    replace h := Option.some.inj h
    subst h
    refine V.weak [false, false] (l' := [none, none]) rfl rfl ?_
    exact kR1 () rfl

set_option maxHeartbeats 4000000 in
set_option maxRecDepth 20000 in
theorem Symmetry_lowest_c  {a0 : Int32} {y : Int32} (h : Symmetry_lowest a0 = some y) :
    C mSymmetry_lowest 1 0 0 kpT [.int a0] (wNone ) (some (.int y)) (wNone ) := by
  refine C.of rfl rfl (Nat.le_of_ble_eq_true rfl) rfl rfl ?_
  show V mSymmetry_lowest (1, 0, 0, kpT, some (.int y), (wNone ), 0, 0) 0 0 0 [some (.int a0), none] [] (wNone )
  unfold Symmetry_lowest at h
  refine V.blk [(.iconst 0, 0, 0, 0, 0), (.istore_n 1, 0, 0, 0, 0)] (by decide +kernel) (pc' := 2) (l' := [some (.int a0), some (.int 0)]) (st' := []) (hs' := (wNone )) rfl trivial rfl ?_
  obtain ⟨x1, hx, h⟩ := ob_some h
  refine lp_V (A := fun s2 : Int32 => V mSymmetry_lowest (1, 0, 0, kpT, some (.int y), (wNone ), 0, 0) 0 0 2 [some (.int a0), some (.int s2)] [] (wNone )) (B := (Sum.elim (fun x1 : Int32 => V mSymmetry_lowest (1, 0, 0, kpT, some (.int y), (wNone ), 0, 0) 0 0 16 [none, some (.int x1)] [] (wNone )) (fun x1 : Unit => V mSymmetry_lowest (1, 0, 0, kpT, some (.int y), (wNone ), 0, 0) 0 0 24 [none, none] [] (wNone )))) (s := 0) (fun sq yq hq kIq kRq => Symmetry_lowest_L2_v (Z := (1, 0, 0, kpT, some (.int y), (wNone ), 0, 0)) (cells := 0) (slots := 0) (Nat.le_refl _) (Nat.le_refl _) (Nat.le_refl _) sq yq hq kIq (fun r e => kRq (.inl r) e) (fun r e => kRq (.inr (r)) e)) hx ?_
  rcases x1 with x1 | x1
  · replace h := sm_l h
    show V mSymmetry_lowest (1, 0, 0, kpT, some (.int y), (wNone ), 0, 0) 0 0 16 [none, some (.int x1)] [] (wNone )
    refine V.blk [(.iload_n 1, 0, 0, 0, 0)] (by decide +kernel) (pc' := 17) (l' := [none, some (.int x1)]) (st' := [.int x1]) (hs' := (wNone )) rfl trivial rfl ?_
    replace h := Option.some.inj h
    subst h
    exact V.iret rfl (Nat.le_refl _) (Nat.le_refl _) (by decide +kernel)
  · replace h := sm_r h
    show V mSymmetry_lowest (1, 0, 0, kpT, some (.int y), (wNone ), 0, 0) 0 0 24 [none, none] [] (wNone )
    refine V.blk [(.bipush 11, 0, 0, 0, 11)] (by decide +kernel) (pc' := 26) (l' := [none, none]) (st' := [.int 11]) (hs' := (wNone )) rfl trivial rfl ?_
    replace h := Option.some.inj h
    subst h
    exact V.iret rfl (Nat.le_refl _) (Nat.le_refl _) (by decide +kernel)

set_option maxHeartbeats 4000000 in
set_option maxRecDepth 20000 in
theorem Symmetry_twinsOf_L4_J59_v {Z : VZ} {cells slots : Nat} (hZ : 1 ≤ Z.1) (hC : cells ≤ Z.2.1) (hL : slots ≤ Z.2.2.1) {order_g : Nat → Int32} {images_g : Nat → Int32} {looks_g : Nat → Int64} {twins_g : Nat → Int32} {wells_l : Int32} {next_l : Nat → Int32} {ways_l : Nat → Int32} {v1 : Int32} {v3 : Int32} {k0 : Int32} {k1 : Int32} (y : (Int32 × Int32) ⊕ (Int32)) (h : Symmetry_twinsOf_L4_J59 v1 v3 k0 k1 wells_l next_l = some y)  (kI : ∀ s' : Int32 × Int32, y = .inl s' → V mSymmetry_twinsOf Z cells slots 4 [some (.ref 0), some (.int v1), some (.int s'.1), some (.int s'.2), none] [] (wSym order_g images_g looks_g twins_g (.ref 5) wells_l next_l ways_l)) (kR0 : ∀ r : Int32, y = .inr r → V mSymmetry_twinsOf Z cells slots 67 [none, none, some (.int r), none, none] [] (wSym order_g images_g looks_g twins_g (.ref 5) wells_l next_l ways_l)) :
    V mSymmetry_twinsOf Z cells slots 59 [some (.ref 0), some (.int v1), none, some (.int v3), none] [.int k0, .int k1] (wSym order_g images_g looks_g twins_g (.ref 5) wells_l next_l ways_l) := by
  unfold Symmetry_twinsOf_L4_J59 at h
  refine V.blk [(.ior, 0, 0, 0, 0), (.istore_n 2, 0, 0, 0, 0), (.iinc 3 1, 0, 0, 0, 1), (.goto (-60), 4, 0, 0, 0)] (by decide +kernel) (pc' := 4) (l' := [some (.ref 0), some (.int v1), some (.int (k1 ||| k0)), some (.int (v3 + 1)), none]) (st' := []) (hs' := (wSym order_g images_g looks_g twins_g (.ref 5) wells_l next_l ways_l)) rfl trivial rfl ?_
  replace h := Option.some.inj h
  subst h
  exact kI (k1 ||| k0, v3 + 1) rfl

set_option maxHeartbeats 4000000 in
set_option maxRecDepth 20000 in
theorem Symmetry_twinsOf_L4_v {Z : VZ} {cells slots : Nat} (hZ : 1 ≤ Z.1) (hC : cells ≤ Z.2.1) (hL : slots ≤ Z.2.2.1) {order_g : Nat → Int32} {images_g : Nat → Int32} {looks_g : Nat → Int64} {twins_g : Nat → Int32} {wells_l : Int32} {next_l : Nat → Int32} {ways_l : Nat → Int32} {v1 : Int32} (s4 : Int32 × Int32) (y : (Int32 × Int32) ⊕ (Int32)) (h : Symmetry_twinsOf_L4 v1 wells_l next_l s4 = some y)  (kI : ∀ s' : Int32 × Int32, y = .inl s' → V mSymmetry_twinsOf Z cells slots 4 [some (.ref 0), some (.int v1), some (.int s'.1), some (.int s'.2), none] [] (wSym order_g images_g looks_g twins_g (.ref 5) wells_l next_l ways_l)) (kR0 : ∀ r : Int32, y = .inr r → V mSymmetry_twinsOf Z cells slots 67 [none, none, some (.int r), none, none] [] (wSym order_g images_g looks_g twins_g (.ref 5) wells_l next_l ways_l)) :
    V mSymmetry_twinsOf Z cells slots 4 [some (.ref 0), some (.int v1), some (.int s4.1), some (.int s4.2), none] [] (wSym order_g images_g looks_g twins_g (.ref 5) wells_l next_l ways_l) := by
  unfold Symmetry_twinsOf_L4 at h
  refine V.blk [(.iload_n 3, 0, 0, 0, 0), (.aload_n 0, 0, 0, 0, 0), (.getfield 29, 9, 4, 0, 0), (.getfield 33, 2, 0, 0, 0)] (by decide +kernel) (pc' := 12) (l' := [some (.ref 0), some (.int v1), some (.int s4.1), some (.int s4.2), none]) (st' := [.int wells_l, .int s4.2]) (hs' := (wSym order_g images_g looks_g twins_g (.ref 5) wells_l next_l ways_l)) rfl trivial rfl ?_
  refine V.ic_ge (tgt := 67) 55 (by decide +kernel) (by decide +kernel) (fun c4 => ?_) (fun c4 => ?_)
  · replace h := if_t h c4
    obtain ⟨g1, h⟩ := gd_some h
    obtain ⟨g2, h⟩ := gd_some h
    refine V.blk [(.iconst 1, 0, 0, 0, 1), (.iload_n 1, 0, 0, 0, 0), (.ishl, 0, 0, 0, 0), (.iconst 1, 0, 0, 0, 1), (.iload_n 3, 0, 0, 0, 0), (.ishl, 0, 0, 0, 0), (.ior, 0, 0, 0, 0), (.iconst (-1), 0, 0, 0, (-1)), (.ixor, 0, 0, 0, 0), (.istore 4, 0, 0, 0, 0), (.iload_n 2, 0, 0, 0, 0), (.aload_n 0, 0, 0, 0, 0), (.getfield 29, 9, 4, 0, 0), (.getfield 51, 2, 1, 0, 0), (.iload_n 1, 0, 0, 0, 0), (.iaload, 0, 0, 0, 0), (.aload_n 0, 0, 0, 0, 0), (.getfield 29, 9, 4, 0, 0), (.getfield 51, 2, 1, 0, 0), (.iload_n 3, 0, 0, 0, 0), (.iaload, 0, 0, 0, 0), (.ixor, 0, 0, 0, 0), (.iload 4, 0, 0, 0, 0), (.iand, 0, 0, 0, 0)] (by decide +kernel) (pc' := 49) (l' := [some (.ref 0), some (.int v1), some (.int s4.1), some (.int s4.2), some (.int ((((1 : Int32) <<< (v1 &&& 31)) ||| ((1 : Int32) <<< (s4.2 &&& 31))) ^^^ (-1)))]) (st' := [.int (((next_l (v1 : Int32).toNatClampNeg) ^^^ (next_l (s4.2 : Int32).toNatClampNeg)) &&& ((((1 : Int32) <<< (v1 &&& 31)) ||| ((1 : Int32) <<< (s4.2 &&& 31))) ^^^ (-1))), .int s4.1]) (hs' := (wSym order_g images_g looks_g twins_g (.ref 5) wells_l next_l ways_l)) rfl ⟨g1, g2, trivial⟩ rfl ?_
    refine V.if_ne (tgt := 58) 9 (by decide +kernel) (by decide +kernel) (fun c3 => ?_) (fun c3 => ?_)
    · replace h := if_t h c3
      refine V.blk [(.iconst 1, 0, 0, 0, 1), (.iload_n 3, 0, 0, 0, 0), (.ishl, 0, 0, 0, 0), (.goto 4, 59, 0, 0, 0)] (by decide +kernel) (pc' := 59) (l' := [some (.ref 0), some (.int v1), some (.int s4.1), some (.int s4.2), some (.int ((((1 : Int32) <<< (v1 &&& 31)) ||| ((1 : Int32) <<< (s4.2 &&& 31))) ^^^ (-1)))]) (st' := [.int ((1 : Int32) <<< (s4.2 &&& 31)), .int s4.1]) (hs' := (wSym order_g images_g looks_g twins_g (.ref 5) wells_l next_l ways_l)) rfl trivial rfl ?_
      refine V.weak [true, true, false, true, false] (l' := [some (.ref 0), some (.int v1), none, some (.int s4.2), none]) rfl rfl ?_
      exact Symmetry_twinsOf_L4_J59_v hZ hC hL y h kI kR0
    · replace h := if_f h c3
      refine V.blk [(.iconst 0, 0, 0, 0, 0)] (by decide +kernel) (pc' := 59) (l' := [some (.ref 0), some (.int v1), some (.int s4.1), some (.int s4.2), some (.int ((((1 : Int32) <<< (v1 &&& 31)) ||| ((1 : Int32) <<< (s4.2 &&& 31))) ^^^ (-1)))]) (st' := [.int 0, .int s4.1]) (hs' := (wSym order_g images_g looks_g twins_g (.ref 5) wells_l next_l ways_l)) rfl trivial rfl ?_
      refine V.weak [true, true, false, true, false] (l' := [some (.ref 0), some (.int v1), none, some (.int s4.2), none]) rfl rfl ?_
      exact Symmetry_twinsOf_L4_J59_v hZ hC hL y h kI kR0
  · replace h := if_f h c4
    replace h := Option.some.inj h
    subst h
    refine V.weak [false, false, true, false, true] (l' := [none, none, some (.int s4.1), none, none]) rfl rfl ?_
    exact kR0 s4.1 rfl

set_option maxHeartbeats 4000000 in
set_option maxRecDepth 20000 in
theorem Symmetry_twinsOf_c {order_g : Nat → Int32} {images_g : Nat → Int32} {looks_g : Nat → Int64} {twins_g : Nat → Int32} {wells_l : Int32} {next_l : Nat → Int32} {ways_l : Nat → Int32} {a1 : Int32} {y : Int32} (h : Symmetry_twinsOf wells_l next_l a1 = some y) :
    C mSymmetry_twinsOf 1 0 0 kpT [.ref 0, .int a1] (wSym order_g images_g looks_g twins_g (.ref 5) wells_l next_l ways_l) (some (.int y)) (wSym order_g images_g looks_g twins_g (.ref 5) wells_l next_l ways_l) := by
  refine C.of rfl rfl (Nat.le_of_ble_eq_true rfl) rfl rfl ?_
  show V mSymmetry_twinsOf (1, 0, 0, kpT, some (.int y), (wSym order_g images_g looks_g twins_g (.ref 5) wells_l next_l ways_l), 0, 0) 0 0 0 [some (.ref 0), some (.int a1), none, none, none] [] (wSym order_g images_g looks_g twins_g (.ref 5) wells_l next_l ways_l)
  unfold Symmetry_twinsOf at h
  refine V.blk [(.iconst 0, 0, 0, 0, 0), (.istore_n 2, 0, 0, 0, 0), (.iconst 0, 0, 0, 0, 0), (.istore_n 3, 0, 0, 0, 0)] (by decide +kernel) (pc' := 4) (l' := [some (.ref 0), some (.int a1), some (.int 0), some (.int 0), none]) (st' := []) (hs' := (wSym order_g images_g looks_g twins_g (.ref 5) wells_l next_l ways_l)) rfl trivial rfl ?_
  obtain ⟨x1, hx, h⟩ := ob_some h
  refine lp_V (A := fun s4 : Int32 × Int32 => V mSymmetry_twinsOf (1, 0, 0, kpT, some (.int y), (wSym order_g images_g looks_g twins_g (.ref 5) wells_l next_l ways_l), 0, 0) 0 0 4 [some (.ref 0), some (.int a1), some (.int s4.1), some (.int s4.2), none] [] (wSym order_g images_g looks_g twins_g (.ref 5) wells_l next_l ways_l)) (B := fun x1 : Int32 => V mSymmetry_twinsOf (1, 0, 0, kpT, some (.int y), (wSym order_g images_g looks_g twins_g (.ref 5) wells_l next_l ways_l), 0, 0) 0 0 67 [none, none, some (.int x1), none, none] [] (wSym order_g images_g looks_g twins_g (.ref 5) wells_l next_l ways_l)) (s := (0, 0)) (fun sq yq hq kIq kRq => Symmetry_twinsOf_L4_v (Z := (1, 0, 0, kpT, some (.int y), (wSym order_g images_g looks_g twins_g (.ref 5) wells_l next_l ways_l), 0, 0)) (cells := 0) (slots := 0) (Nat.le_refl _) (Nat.le_refl _) (Nat.le_refl _) sq yq hq kIq (fun r e => kRq r e)) hx ?_
  show V mSymmetry_twinsOf (1, 0, 0, kpT, some (.int y), (wSym order_g images_g looks_g twins_g (.ref 5) wells_l next_l ways_l), 0, 0) 0 0 67 [none, none, some (.int x1), none, none] [] (wSym order_g images_g looks_g twins_g (.ref 5) wells_l next_l ways_l)
  refine V.blk [(.iload_n 2, 0, 0, 0, 0)] (by decide +kernel) (pc' := 68) (l' := [none, none, some (.int x1), none, none]) (st' := [.int x1]) (hs' := (wSym order_g images_g looks_g twins_g (.ref 5) wells_l next_l ways_l)) rfl trivial rfl ?_
  replace h := Option.some.inj h
  subst h
  exact V.iret rfl (Nat.le_refl _) (Nat.le_refl _) (by decide +kernel)

set_option maxHeartbeats 4000000 in
set_option maxRecDepth 20000 in
theorem Symmetry_look_L5_J45_v {Z : VZ} {cells slots : Nat} (hZ : 3 ≤ Z.1) (hC : cells ≤ Z.2.1) (hL : slots ≤ Z.2.2.1) {order_g : Nat → Int32} {images_g : Nat → Int32} {looks_g : Nat → Int64} {twins_g : Nat → Int32} {wells_l : Int32} {next_l : Nat → Int32} {ways_l : Nat → Int32} {v1 : Int32} {v4 : Int32} {k0 : Int64} {k1 : Int64} (y : (Int64 × Int32) ⊕ (Int64)) (h : Symmetry_look_L5_J45 v1 v4 k0 k1 wells_l ways_l = some y)  (kI : ∀ s' : Int64 × Int32, y = .inl s' → V mSymmetry_look Z cells slots 5 [some (.ref 0), some (.int v1), some (.long s'.1), none, some (.int s'.2), none] [] (wSym order_g images_g looks_g twins_g (.ref 5) wells_l next_l ways_l)) (kR0 : ∀ r : Int64, y = .inr r → V mSymmetry_look Z cells slots 53 [none, none, some (.long r), none, none, none] [] (wSym order_g images_g looks_g twins_g (.ref 5) wells_l next_l ways_l)) :
    V mSymmetry_look Z cells slots 45 [some (.ref 0), some (.int v1), none, none, some (.int v4), none] [.long k0, .long k1] (wSym order_g images_g looks_g twins_g (.ref 5) wells_l next_l ways_l) := by
  unfold Symmetry_look_L5_J45 at h
  refine V.blk [(.ladd, 0, 0, 0, 0), (.lstore_n 2, 0, 0, 0, 0), (.iinc 4 1, 0, 0, 0, 1), (.goto (-45), 5, 0, 0, 0)] (by decide +kernel) (pc' := 5) (l' := [some (.ref 0), some (.int v1), some (.long (k1 + k0)), none, some (.int (v4 + 1)), none]) (st' := []) (hs' := (wSym order_g images_g looks_g twins_g (.ref 5) wells_l next_l ways_l)) rfl trivial rfl ?_
  replace h := Option.some.inj h
  subst h
  exact kI (k1 + k0, v4 + 1) rfl

set_option maxHeartbeats 4000000 in
set_option maxRecDepth 20000 in
theorem Symmetry_look_L5_v {Z : VZ} {cells slots : Nat} (hZ : 3 ≤ Z.1) (hC : cells ≤ Z.2.1) (hL : slots ≤ Z.2.2.1) {order_g : Nat → Int32} {images_g : Nat → Int32} {looks_g : Nat → Int64} {twins_g : Nat → Int32} {wells_l : Int32} {next_l : Nat → Int32} {ways_l : Nat → Int32} {v1 : Int32} (s5 : Int64 × Int32) (y : (Int64 × Int32) ⊕ (Int64)) (h : Symmetry_look_L5 v1 wells_l ways_l s5 = some y)  (kI : ∀ s' : Int64 × Int32, y = .inl s' → V mSymmetry_look Z cells slots 5 [some (.ref 0), some (.int v1), some (.long s'.1), none, some (.int s'.2), none] [] (wSym order_g images_g looks_g twins_g (.ref 5) wells_l next_l ways_l)) (kR0 : ∀ r : Int64, y = .inr r → V mSymmetry_look Z cells slots 53 [none, none, some (.long r), none, none, none] [] (wSym order_g images_g looks_g twins_g (.ref 5) wells_l next_l ways_l)) :
    V mSymmetry_look Z cells slots 5 [some (.ref 0), some (.int v1), some (.long s5.1), none, some (.int s5.2), none] [] (wSym order_g images_g looks_g twins_g (.ref 5) wells_l next_l ways_l) := by
  unfold Symmetry_look_L5 at h
  refine V.blk [(.iload 4, 0, 0, 0, 0), (.aload_n 0, 0, 0, 0, 0), (.getfield 29, 9, 4, 0, 0), (.getfield 33, 2, 0, 0, 0)] (by decide +kernel) (pc' := 14) (l' := [some (.ref 0), some (.int v1), some (.long s5.1), none, some (.int s5.2), none]) (st' := [.int wells_l, .int s5.2]) (hs' := (wSym order_g images_g looks_g twins_g (.ref 5) wells_l next_l ways_l)) rfl trivial rfl ?_
  refine V.ic_ge (tgt := 53) 39 (by decide +kernel) (by decide +kernel) (fun c3 => ?_) (fun c3 => ?_)
  · replace h := if_t h c3
    refine V.blk [(.aload_n 0, 0, 0, 0, 0), (.getfield 29, 9, 4, 0, 0), (.iload_n 1, 0, 0, 0, 0), (.iload 4, 0, 0, 0, 0)] (by decide +kernel) (pc' := 24) (l' := [some (.ref 0), some (.int v1), some (.long s5.1), none, some (.int s5.2), none]) (st' := [.int s5.2, .int v1, .ref 5]) (hs' := (wSym order_g images_g looks_g twins_g (.ref 5) wells_l next_l ways_l)) rfl trivial rfl ?_
    obtain ⟨x1, hx, h⟩ := ob_some h
    refine V.callV (ρ := fun j => [5, 6, 7].getD j 0) (j0 := 0) (as' := [.int v1, .int s5.2]) (rest := []) (hc := (wLand wells_l next_l ways_l)) (hc' := (wLand wells_l next_l ways_l)) (hs' := (wSym order_g images_g looks_g twins_g (.ref 5) wells_l next_l ways_l)) (Land_way_c hx) ok_mLand_way lk9_61 rfl (Sub.list rfl rfl) (Aft.list rfl rfl rfl rfl) ⟨_, _, rfl, by decide, rfl⟩ (Nat.le_trans (by decide : 2 + 1 ≤ 3) hZ) hC hL (Nat.le_of_ble_eq_true rfl) (by decide +kernel) ?_
    show V mSymmetry_look Z cells slots 27 [some (.ref 0), some (.int v1), some (.long s5.1), none, some (.int s5.2), none] [.int x1] (wSym order_g images_g looks_g twins_g (.ref 5) wells_l next_l ways_l)
    refine V.blk [(.istore 5, 0, 0, 0, 0), (.lload_n 2, 0, 0, 0, 0), (.iload 5, 0, 0, 0, 0)] (by decide +kernel) (pc' := 32) (l' := [some (.ref 0), some (.int v1), some (.long s5.1), none, some (.int s5.2), some (.int x1)]) (st' := [.int x1, .long s5.1]) (hs' := (wSym order_g images_g looks_g twins_g (.ref 5) wells_l next_l ways_l)) rfl trivial rfl ?_
    refine V.if_ge (tgt := 39) 7 (by decide +kernel) (by decide +kernel) (fun c2 => ?_) (fun c2 => ?_)
    · replace h := if_t h c2
      refine V.blk [(.lconst 0, 0, 0, 0, 0), (.goto 9, 45, 0, 0, 0)] (by decide +kernel) (pc' := 45) (l' := [some (.ref 0), some (.int v1), some (.long s5.1), none, some (.int s5.2), some (.int x1)]) (st' := [.long (Int64.ofNat 0), .long s5.1]) (hs' := (wSym order_g images_g looks_g twins_g (.ref 5) wells_l next_l ways_l)) rfl trivial rfl ?_
      refine V.weak [true, true, false, true, true, false] (l' := [some (.ref 0), some (.int v1), none, none, some (.int s5.2), none]) rfl rfl ?_
      exact Symmetry_look_L5_J45_v hZ hC hL y h kI kR0
    · replace h := if_f h c2
      refine V.blk [(.lconst 1, 0, 0, 0, 0), (.iconst 4, 0, 0, 0, 4), (.iload 5, 0, 0, 0, 0), (.imul, 0, 0, 0, 0), (.lshl, 0, 0, 0, 0)] (by decide +kernel) (pc' := 45) (l' := [some (.ref 0), some (.int v1), some (.long s5.1), none, some (.int s5.2), some (.int x1)]) (st' := [.long (jLs (Int64.ofNat 1) (4 * x1)), .long s5.1]) (hs' := (wSym order_g images_g looks_g twins_g (.ref 5) wells_l next_l ways_l)) rfl trivial rfl ?_
      refine V.weak [true, true, false, true, true, false] (l' := [some (.ref 0), some (.int v1), none, none, some (.int s5.2), none]) rfl rfl ?_
      exact Symmetry_look_L5_J45_v hZ hC hL y h kI kR0
  · replace h := if_f h c3
    replace h := Option.some.inj h
    subst h
    refine V.weak [false, false, true, true, false, true] (l' := [none, none, some (.long s5.1), none, none, none]) rfl rfl ?_
    exact kR0 s5.1 rfl

set_option maxHeartbeats 4000000 in
set_option maxRecDepth 20000 in
theorem Symmetry_look_c {order_g : Nat → Int32} {images_g : Nat → Int32} {looks_g : Nat → Int64} {twins_g : Nat → Int32} {wells_l : Int32} {next_l : Nat → Int32} {ways_l : Nat → Int32} {a1 : Int32} {y : Int64} (h : Symmetry_look wells_l ways_l a1 = some y) :
    C mSymmetry_look 3 0 0 kpT [.ref 0, .int a1] (wSym order_g images_g looks_g twins_g (.ref 5) wells_l next_l ways_l) (some (.long y)) (wSym order_g images_g looks_g twins_g (.ref 5) wells_l next_l ways_l) := by
  refine C.of rfl rfl (Nat.le_of_ble_eq_true rfl) rfl rfl ?_
  show V mSymmetry_look (3, 0, 0, kpT, some (.long y), (wSym order_g images_g looks_g twins_g (.ref 5) wells_l next_l ways_l), 0, 0) 0 0 0 [some (.ref 0), some (.int a1), none, none, none, none] [] (wSym order_g images_g looks_g twins_g (.ref 5) wells_l next_l ways_l)
  unfold Symmetry_look at h
  refine V.blk [(.lconst 0, 0, 0, 0, 0), (.lstore_n 2, 0, 0, 0, 0), (.iconst 0, 0, 0, 0, 0), (.istore 4, 0, 0, 0, 0)] (by decide +kernel) (pc' := 5) (l' := [some (.ref 0), some (.int a1), some (.long (Int64.ofNat 0)), none, some (.int 0), none]) (st' := []) (hs' := (wSym order_g images_g looks_g twins_g (.ref 5) wells_l next_l ways_l)) rfl trivial rfl ?_
  obtain ⟨x1, hx, h⟩ := ob_some h
  refine lp_V (A := fun s5 : Int64 × Int32 => V mSymmetry_look (3, 0, 0, kpT, some (.long y), (wSym order_g images_g looks_g twins_g (.ref 5) wells_l next_l ways_l), 0, 0) 0 0 5 [some (.ref 0), some (.int a1), some (.long s5.1), none, some (.int s5.2), none] [] (wSym order_g images_g looks_g twins_g (.ref 5) wells_l next_l ways_l)) (B := fun x1 : Int64 => V mSymmetry_look (3, 0, 0, kpT, some (.long y), (wSym order_g images_g looks_g twins_g (.ref 5) wells_l next_l ways_l), 0, 0) 0 0 53 [none, none, some (.long x1), none, none, none] [] (wSym order_g images_g looks_g twins_g (.ref 5) wells_l next_l ways_l)) (s := (Int64.ofNat 0, 0)) (fun sq yq hq kIq kRq => Symmetry_look_L5_v (Z := (3, 0, 0, kpT, some (.long y), (wSym order_g images_g looks_g twins_g (.ref 5) wells_l next_l ways_l), 0, 0)) (cells := 0) (slots := 0) (Nat.le_refl _) (Nat.le_refl _) (Nat.le_refl _) sq yq hq kIq (fun r e => kRq r e)) hx ?_
  show V mSymmetry_look (3, 0, 0, kpT, some (.long y), (wSym order_g images_g looks_g twins_g (.ref 5) wells_l next_l ways_l), 0, 0) 0 0 53 [none, none, some (.long x1), none, none, none] [] (wSym order_g images_g looks_g twins_g (.ref 5) wells_l next_l ways_l)
  refine V.blk [(.lload_n 2, 0, 0, 0, 0)] (by decide +kernel) (pc' := 54) (l' := [none, none, some (.long x1), none, none, none]) (st' := [.long x1]) (hs' := (wSym order_g images_g looks_g twins_g (.ref 5) wells_l next_l ways_l)) rfl trivial rfl ?_
  replace h := Option.some.inj h
  subst h
  exact V.lret rfl (Nat.le_refl _) (Nat.le_refl _) (by decide +kernel)

set_option maxHeartbeats 4000000 in
set_option maxRecDepth 20000 in
theorem Symmetry_fitting_L13_J52_v {Z : VZ} {cells slots : Nat} (hZ : 3 ≤ Z.1) (hC : cells ≤ Z.2.1) (hL : slots ≤ Z.2.2.1) {order_g : Nat → Int32} {images_g : Nat → Int32} {looks_g : Nat → Int64} {twins_g : Nat → Int32} {wells_l : Int32} {next_l : Nat → Int32} {ways_l : Nat → Int32} {v1 : Int32} {v2 : Int32} {v3 : Int32} {v5 : Int32} {k0 : Int32} {k1 : Int32} (y : (Int32 × Int32) ⊕ (Int32)) (h : Symmetry_fitting_L13_J52 v1 v2 v3 v5 k0 k1 looks_g wells_l = some y)  (kI : ∀ s' : Int32 × Int32, y = .inl s' → V mSymmetry_fitting Z cells slots 13 [some (.ref 0), some (.int v1), some (.int v2), some (.int v3), some (.int s'.1), some (.int s'.2), none] [] (wSym order_g images_g looks_g twins_g (.ref 5) wells_l next_l ways_l)) (kR0 : ∀ r : Int32, y = .inr r → V mSymmetry_fitting Z cells slots 61 [some (.ref 0), some (.int v1), some (.int v2), some (.int v3), some (.int r), none, none] [] (wSym order_g images_g looks_g twins_g (.ref 5) wells_l next_l ways_l)) :
    V mSymmetry_fitting Z cells slots 52 [some (.ref 0), some (.int v1), some (.int v2), some (.int v3), none, some (.int v5), none] [.int k0, .int k1] (wSym order_g images_g looks_g twins_g (.ref 5) wells_l next_l ways_l) := by
  unfold Symmetry_fitting_L13_J52 at h
  refine V.blk [(.ior, 0, 0, 0, 0), (.istore 4, 0, 0, 0, 0), (.iinc 5 1, 0, 0, 0, 1), (.goto (-45), 13, 0, 0, 0)] (by decide +kernel) (pc' := 13) (l' := [some (.ref 0), some (.int v1), some (.int v2), some (.int v3), some (.int (k1 ||| k0)), some (.int (v5 + 1)), none]) (st' := []) (hs' := (wSym order_g images_g looks_g twins_g (.ref 5) wells_l next_l ways_l)) rfl trivial rfl ?_
  replace h := Option.some.inj h
  subst h
  exact kI (k1 ||| k0, v5 + 1) rfl

set_option maxHeartbeats 4000000 in
set_option maxRecDepth 20000 in
theorem Symmetry_fitting_L13_v {Z : VZ} {cells slots : Nat} (hZ : 3 ≤ Z.1) (hC : cells ≤ Z.2.1) (hL : slots ≤ Z.2.2.1) {order_g : Nat → Int32} {images_g : Nat → Int32} {looks_g : Nat → Int64} {twins_g : Nat → Int32} {wells_l : Int32} {next_l : Nat → Int32} {ways_l : Nat → Int32} {v1 : Int32} {v2 : Int32} {v3 : Int32} (s13 : Int32 × Int32) (y : (Int32 × Int32) ⊕ (Int32)) (h : Symmetry_fitting_L13 v1 v2 v3 looks_g wells_l s13 = some y)  (kI : ∀ s' : Int32 × Int32, y = .inl s' → V mSymmetry_fitting Z cells slots 13 [some (.ref 0), some (.int v1), some (.int v2), some (.int v3), some (.int s'.1), some (.int s'.2), none] [] (wSym order_g images_g looks_g twins_g (.ref 5) wells_l next_l ways_l)) (kR0 : ∀ r : Int32, y = .inr r → V mSymmetry_fitting Z cells slots 61 [some (.ref 0), some (.int v1), some (.int v2), some (.int v3), some (.int r), none, none] [] (wSym order_g images_g looks_g twins_g (.ref 5) wells_l next_l ways_l)) :
    V mSymmetry_fitting Z cells slots 13 [some (.ref 0), some (.int v1), some (.int v2), some (.int v3), some (.int s13.1), some (.int s13.2), none] [] (wSym order_g images_g looks_g twins_g (.ref 5) wells_l next_l ways_l) := by
  unfold Symmetry_fitting_L13 at h
  refine V.blk [(.iload 5, 0, 0, 0, 0), (.aload_n 0, 0, 0, 0, 0), (.getfield 29, 9, 4, 0, 0), (.getfield 33, 2, 0, 0, 0)] (by decide +kernel) (pc' := 22) (l' := [some (.ref 0), some (.int v1), some (.int v2), some (.int v3), some (.int s13.1), some (.int s13.2), none]) (st' := [.int wells_l, .int s13.2]) (hs' := (wSym order_g images_g looks_g twins_g (.ref 5) wells_l next_l ways_l)) rfl trivial rfl ?_
  refine V.ic_ge (tgt := 61) 39 (by decide +kernel) (by decide +kernel) (fun c4 => ?_) (fun c4 => ?_)
  · replace h := if_t h c4
    obtain ⟨g1, h⟩ := gd_some h
    obtain ⟨g2, h⟩ := gd_some h
    refine V.blk [(.iload 4, 0, 0, 0, 0), (.aload_n 0, 0, 0, 0, 0), (.getfield 18, 9, 2, 0, 0), (.iload_n 3, 0, 0, 0, 0), (.laload, 0, 0, 0, 0), (.aload_n 0, 0, 0, 0, 0), (.getfield 18, 9, 2, 0, 0), (.iload 5, 0, 0, 0, 0), (.laload, 0, 0, 0, 0), (.lcmp, 0, 0, 0, 0)] (by decide +kernel) (pc' := 41) (l' := [some (.ref 0), some (.int v1), some (.int v2), some (.int v3), some (.int s13.1), some (.int s13.2), none]) (st' := [.int (lg_cmp (looks_g (v3 : Int32).toNatClampNeg) (looks_g (s13.2 : Int32).toNatClampNeg)), .int s13.1]) (hs' := (wSym order_g images_g looks_g twins_g (.ref 5) wells_l next_l ways_l)) rfl ⟨g1, g2, trivial⟩ rfl ?_
    refine V.if_ne (tgt := 51) 10 (by decide +kernel) (by decide +kernel) (fun c3 => ?_) (fun c3 => ?_)
    · replace h := if_t h c3
      refine V.blk [(.iconst 1, 0, 0, 0, 1), (.iload 5, 0, 0, 0, 0), (.ishl, 0, 0, 0, 0), (.goto 4, 52, 0, 0, 0)] (by decide +kernel) (pc' := 52) (l' := [some (.ref 0), some (.int v1), some (.int v2), some (.int v3), some (.int s13.1), some (.int s13.2), none]) (st' := [.int ((1 : Int32) <<< (s13.2 &&& 31)), .int s13.1]) (hs' := (wSym order_g images_g looks_g twins_g (.ref 5) wells_l next_l ways_l)) rfl trivial rfl ?_
      refine V.weak [true, true, true, true, false, true, true] (l' := [some (.ref 0), some (.int v1), some (.int v2), some (.int v3), none, some (.int s13.2), none]) rfl rfl ?_
      exact Symmetry_fitting_L13_J52_v hZ hC hL y h kI kR0
    · replace h := if_f h c3
      refine V.blk [(.iconst 0, 0, 0, 0, 0)] (by decide +kernel) (pc' := 52) (l' := [some (.ref 0), some (.int v1), some (.int v2), some (.int v3), some (.int s13.1), some (.int s13.2), none]) (st' := [.int 0, .int s13.1]) (hs' := (wSym order_g images_g looks_g twins_g (.ref 5) wells_l next_l ways_l)) rfl trivial rfl ?_
      refine V.weak [true, true, true, true, false, true, true] (l' := [some (.ref 0), some (.int v1), some (.int v2), some (.int v3), none, some (.int s13.2), none]) rfl rfl ?_
      exact Symmetry_fitting_L13_J52_v hZ hC hL y h kI kR0
  · replace h := if_f h c4
    replace h := Option.some.inj h
    subst h
    refine V.weak [true, true, true, true, true, false, true] (l' := [some (.ref 0), some (.int v1), some (.int v2), some (.int v3), some (.int s13.1), none, none]) rfl rfl ?_
    exact kR0 s13.1 rfl

set_option maxHeartbeats 4000000 in
set_option maxRecDepth 20000 in
theorem Symmetry_fitting_L72_J124_v {Z : VZ} {cells slots : Nat} (hZ : 3 ≤ Z.1) (hC : cells ≤ Z.2.1) (hL : slots ≤ Z.2.2.1) {order_g : Nat → Int32} {images_g : Nat → Int32} {looks_g : Nat → Int64} {twins_g : Nat → Int32} {wells_l : Int32} {next_l : Nat → Int32} {ways_l : Nat → Int32} {v1 : Int32} {v3 : Int32} {v5 : Int32} {k0 : Int32} {k1 : Int32} (y : (Int32 × Int32) ⊕ (Int32)) (h : Symmetry_fitting_L72_J124 v1 v3 v5 k0 k1 order_g images_g wells_l next_l = some y)  (kI : ∀ s' : Int32 × Int32, y = .inl s' → V mSymmetry_fitting Z cells slots 72 [some (.ref 0), some (.int v1), none, some (.int v3), some (.int s'.1), some (.int s'.2), none] [] (wSym order_g images_g looks_g twins_g (.ref 5) wells_l next_l ways_l)) (kR0 : ∀ r : Int32, y = .inr r → V mSymmetry_fitting Z cells slots 133 [none, none, none, none, some (.int r), none, none] [] (wSym order_g images_g looks_g twins_g (.ref 5) wells_l next_l ways_l)) :
    V mSymmetry_fitting Z cells slots 124 [some (.ref 0), some (.int v1), none, some (.int v3), none, some (.int v5), none] [.int k0, .int k1] (wSym order_g images_g looks_g twins_g (.ref 5) wells_l next_l ways_l) := by
  unfold Symmetry_fitting_L72_J124 at h
  refine V.blk [(.iand, 0, 0, 0, 0), (.istore 4, 0, 0, 0, 0), (.iinc 5 1, 0, 0, 0, 1), (.goto (-58), 72, 0, 0, 0)] (by decide +kernel) (pc' := 72) (l' := [some (.ref 0), some (.int v1), none, some (.int v3), some (.int (k1 &&& k0)), some (.int (v5 + 1)), none]) (st' := []) (hs' := (wSym order_g images_g looks_g twins_g (.ref 5) wells_l next_l ways_l)) rfl trivial rfl ?_
  replace h := Option.some.inj h
  subst h
  exact kI (k1 &&& k0, v5 + 1) rfl

set_option maxHeartbeats 4000000 in
set_option maxRecDepth 20000 in
theorem Symmetry_fitting_L72_v {Z : VZ} {cells slots : Nat} (hZ : 3 ≤ Z.1) (hC : cells ≤ Z.2.1) (hL : slots ≤ Z.2.2.1) {order_g : Nat → Int32} {images_g : Nat → Int32} {looks_g : Nat → Int64} {twins_g : Nat → Int32} {wells_l : Int32} {next_l : Nat → Int32} {ways_l : Nat → Int32} {v1 : Int32} {v3 : Int32} (s72 : Int32 × Int32) (y : (Int32 × Int32) ⊕ (Int32)) (h : Symmetry_fitting_L72 v1 v3 order_g images_g wells_l next_l s72 = some y)  (kI : ∀ s' : Int32 × Int32, y = .inl s' → V mSymmetry_fitting Z cells slots 72 [some (.ref 0), some (.int v1), none, some (.int v3), some (.int s'.1), some (.int s'.2), none] [] (wSym order_g images_g looks_g twins_g (.ref 5) wells_l next_l ways_l)) (kR0 : ∀ r : Int32, y = .inr r → V mSymmetry_fitting Z cells slots 133 [none, none, none, none, some (.int r), none, none] [] (wSym order_g images_g looks_g twins_g (.ref 5) wells_l next_l ways_l)) :
    V mSymmetry_fitting Z cells slots 72 [some (.ref 0), some (.int v1), none, some (.int v3), some (.int s72.1), some (.int s72.2), none] [] (wSym order_g images_g looks_g twins_g (.ref 5) wells_l next_l ways_l) := by
  unfold Symmetry_fitting_L72 at h
  refine V.blk [(.iload 5, 0, 0, 0, 0), (.iload_n 1, 0, 0, 0, 0)] (by decide +kernel) (pc' := 75) (l' := [some (.ref 0), some (.int v1), none, some (.int v3), some (.int s72.1), some (.int s72.2), none]) (st' := [.int v1, .int s72.2]) (hs' := (wSym order_g images_g looks_g twins_g (.ref 5) wells_l next_l ways_l)) rfl trivial rfl ?_
  refine V.ic_ge (tgt := 133) 58 (by decide +kernel) (by decide +kernel) (fun c6 => ?_) (fun c6 => ?_)
  · replace h := if_t h c6
    obtain ⟨g1, h⟩ := gd_some h
    obtain ⟨g2, h⟩ := gd_some h
    obtain ⟨g3, h⟩ := gd_some h
    refine V.blk [(.aload_n 0, 0, 0, 0, 0), (.getfield 29, 9, 4, 0, 0), (.getfield 51, 2, 1, 0, 0), (.aload_n 0, 0, 0, 0, 0), (.getfield 15, 9, 1, 0, 0), (.iload 5, 0, 0, 0, 0), (.iaload, 0, 0, 0, 0), (.iaload, 0, 0, 0, 0), (.istore 6, 0, 0, 0, 0), (.iload 4, 0, 0, 0, 0), (.aload_n 0, 0, 0, 0, 0), (.getfield 29, 9, 4, 0, 0), (.iload_n 3, 0, 0, 0, 0), (.aload_n 0, 0, 0, 0, 0), (.getfield 9, 9, 0, 0, 0), (.iload 5, 0, 0, 0, 0), (.iaload, 0, 0, 0, 0)] (by decide +kernel) (pc' := 109) (l' := [some (.ref 0), some (.int v1), none, some (.int v3), some (.int s72.1), some (.int s72.2), some (.int (next_l (images_g (s72.2 : Int32).toNatClampNeg : Int32).toNatClampNeg))]) (st' := [.int (order_g (s72.2 : Int32).toNatClampNeg), .int v3, .ref 5, .int s72.1]) (hs' := (wSym order_g images_g looks_g twins_g (.ref 5) wells_l next_l ways_l)) rfl ⟨g1, g2, g3, trivial⟩ rfl ?_
    obtain ⟨x4, hx, h⟩ := ob_some h
    refine V.callV (ρ := fun j => [5, 6, 7].getD j 0) (j0 := 0) (as' := [.int v3, .int (order_g (s72.2 : Int32).toNatClampNeg)]) (rest := [.int s72.1]) (hc := (wLand wells_l next_l ways_l)) (hc' := (wLand wells_l next_l ways_l)) (hs' := (wSym order_g images_g looks_g twins_g (.ref 5) wells_l next_l ways_l)) (Land_areNext_c hx) ok_mLand_areNext lk9_72 rfl (Sub.list rfl rfl) (Aft.list rfl rfl rfl rfl) ⟨_, _, rfl, by decide, rfl⟩ (Nat.le_trans (by decide : 2 + 1 ≤ 3) hZ) hC hL (Nat.le_of_ble_eq_true rfl) (by decide +kernel) ?_
    show V mSymmetry_fitting Z cells slots 112 [some (.ref 0), some (.int v1), none, some (.int v3), some (.int s72.1), some (.int s72.2), some (.int (next_l (images_g (s72.2 : Int32).toNatClampNeg : Int32).toNatClampNeg))] [.int x4, .int s72.1] (wSym order_g images_g looks_g twins_g (.ref 5) wells_l next_l ways_l)
    refine V.if_eq (tgt := 120) 8 (by decide +kernel) (by decide +kernel) (fun c5 => ?_) (fun c5 => ?_)
    · replace h := if_t h c5
      refine V.blk [(.iload 6, 0, 0, 0, 0), (.iconst (-1), 0, 0, 0, (-1)), (.ixor, 0, 0, 0, 0)] (by decide +kernel) (pc' := 124) (l' := [some (.ref 0), some (.int v1), none, some (.int v3), some (.int s72.1), some (.int s72.2), some (.int (next_l (images_g (s72.2 : Int32).toNatClampNeg : Int32).toNatClampNeg))]) (st' := [.int ((next_l (images_g (s72.2 : Int32).toNatClampNeg : Int32).toNatClampNeg) ^^^ (-1)), .int s72.1]) (hs' := (wSym order_g images_g looks_g twins_g (.ref 5) wells_l next_l ways_l)) rfl trivial rfl ?_
      refine V.weak [true, true, true, true, false, true, false] (l' := [some (.ref 0), some (.int v1), none, some (.int v3), none, some (.int s72.2), none]) rfl rfl ?_
      exact Symmetry_fitting_L72_J124_v hZ hC hL y h kI kR0
    · replace h := if_f h c5
      refine V.blk [(.iload 6, 0, 0, 0, 0), (.goto 7, 124, 0, 0, 0)] (by decide +kernel) (pc' := 124) (l' := [some (.ref 0), some (.int v1), none, some (.int v3), some (.int s72.1), some (.int s72.2), some (.int (next_l (images_g (s72.2 : Int32).toNatClampNeg : Int32).toNatClampNeg))]) (st' := [.int (next_l (images_g (s72.2 : Int32).toNatClampNeg : Int32).toNatClampNeg), .int s72.1]) (hs' := (wSym order_g images_g looks_g twins_g (.ref 5) wells_l next_l ways_l)) rfl trivial rfl ?_
      refine V.weak [true, true, true, true, false, true, false] (l' := [some (.ref 0), some (.int v1), none, some (.int v3), none, some (.int s72.2), none]) rfl rfl ?_
      exact Symmetry_fitting_L72_J124_v hZ hC hL y h kI kR0
  · replace h := if_f h c6
    replace h := Option.some.inj h
    subst h
    refine V.weak [false, false, true, false, true, false, true] (l' := [none, none, none, none, some (.int s72.1), none, none]) rfl rfl ?_
    exact kR0 s72.1 rfl

set_option maxHeartbeats 4000000 in
set_option maxRecDepth 20000 in
theorem Symmetry_fitting_c {order_g : Nat → Int32} {images_g : Nat → Int32} {looks_g : Nat → Int64} {twins_g : Nat → Int32} {wells_l : Int32} {next_l : Nat → Int32} {ways_l : Nat → Int32} {a1 : Int32} {a2 : Int32} {y : Int32} (h : Symmetry_fitting order_g images_g looks_g wells_l next_l a1 a2 = some y) :
    C mSymmetry_fitting 3 0 0 kpT [.ref 0, .int a1, .int a2] (wSym order_g images_g looks_g twins_g (.ref 5) wells_l next_l ways_l) (some (.int y)) (wSym order_g images_g looks_g twins_g (.ref 5) wells_l next_l ways_l) := by
  refine C.of rfl rfl (Nat.le_of_ble_eq_true rfl) rfl rfl ?_
  show V mSymmetry_fitting (3, 0, 0, kpT, some (.int y), (wSym order_g images_g looks_g twins_g (.ref 5) wells_l next_l ways_l), 0, 0) 0 0 0 [some (.ref 0), some (.int a1), some (.int a2), none, none, none, none] [] (wSym order_g images_g looks_g twins_g (.ref 5) wells_l next_l ways_l)
  unfold Symmetry_fitting at h
  obtain ⟨g1, h⟩ := gd_some h
  refine V.blk [(.aload_n 0, 0, 0, 0, 0), (.getfield 9, 9, 0, 0, 0), (.iload_n 1, 0, 0, 0, 0), (.iaload, 0, 0, 0, 0), (.istore_n 3, 0, 0, 0, 0), (.iconst 0, 0, 0, 0, 0), (.istore 4, 0, 0, 0, 0), (.iconst 0, 0, 0, 0, 0), (.istore 5, 0, 0, 0, 0)] (by decide +kernel) (pc' := 13) (l' := [some (.ref 0), some (.int a1), some (.int a2), some (.int (order_g (a1 : Int32).toNatClampNeg)), some (.int 0), some (.int 0), none]) (st' := []) (hs' := (wSym order_g images_g looks_g twins_g (.ref 5) wells_l next_l ways_l)) rfl ⟨g1, trivial⟩ rfl ?_
  obtain ⟨x2, hx, h⟩ := ob_some h
  refine lp_V (A := fun s13 : Int32 × Int32 => V mSymmetry_fitting (3, 0, 0, kpT, some (.int y), (wSym order_g images_g looks_g twins_g (.ref 5) wells_l next_l ways_l), 0, 0) 0 0 13 [some (.ref 0), some (.int a1), some (.int a2), some (.int (order_g (a1 : Int32).toNatClampNeg)), some (.int s13.1), some (.int s13.2), none] [] (wSym order_g images_g looks_g twins_g (.ref 5) wells_l next_l ways_l)) (B := fun x2 : Int32 => V mSymmetry_fitting (3, 0, 0, kpT, some (.int y), (wSym order_g images_g looks_g twins_g (.ref 5) wells_l next_l ways_l), 0, 0) 0 0 61 [some (.ref 0), some (.int a1), some (.int a2), some (.int (order_g (a1 : Int32).toNatClampNeg)), some (.int x2), none, none] [] (wSym order_g images_g looks_g twins_g (.ref 5) wells_l next_l ways_l)) (s := (0, 0)) (fun sq yq hq kIq kRq => Symmetry_fitting_L13_v (Z := (3, 0, 0, kpT, some (.int y), (wSym order_g images_g looks_g twins_g (.ref 5) wells_l next_l ways_l), 0, 0)) (cells := 0) (slots := 0) (Nat.le_refl _) (Nat.le_refl _) (Nat.le_refl _) sq yq hq kIq (fun r e => kRq r e)) hx ?_
  show V mSymmetry_fitting (3, 0, 0, kpT, some (.int y), (wSym order_g images_g looks_g twins_g (.ref 5) wells_l next_l ways_l), 0, 0) 0 0 61 [some (.ref 0), some (.int a1), some (.int a2), some (.int (order_g (a1 : Int32).toNatClampNeg)), some (.int x2), none, none] [] (wSym order_g images_g looks_g twins_g (.ref 5) wells_l next_l ways_l)
  refine V.blk [(.iload 4, 0, 0, 0, 0), (.iload_n 2, 0, 0, 0, 0), (.iconst (-1), 0, 0, 0, (-1)), (.ixor, 0, 0, 0, 0), (.iand, 0, 0, 0, 0), (.istore 4, 0, 0, 0, 0), (.iconst 0, 0, 0, 0, 0), (.istore 5, 0, 0, 0, 0)] (by decide +kernel) (pc' := 72) (l' := [some (.ref 0), some (.int a1), some (.int a2), some (.int (order_g (a1 : Int32).toNatClampNeg)), some (.int (x2 &&& (a2 ^^^ (-1)))), some (.int 0), none]) (st' := []) (hs' := (wSym order_g images_g looks_g twins_g (.ref 5) wells_l next_l ways_l)) rfl trivial rfl ?_
  refine V.weak [true, true, false, true, true, true, true] (l' := [some (.ref 0), some (.int a1), none, some (.int (order_g (a1 : Int32).toNatClampNeg)), some (.int (x2 &&& (a2 ^^^ (-1)))), some (.int 0), none]) rfl rfl ?_
  obtain ⟨x3, hx, h⟩ := ob_some h
  refine lp_V (A := fun s72 : Int32 × Int32 => V mSymmetry_fitting (3, 0, 0, kpT, some (.int y), (wSym order_g images_g looks_g twins_g (.ref 5) wells_l next_l ways_l), 0, 0) 0 0 72 [some (.ref 0), some (.int a1), none, some (.int (order_g (a1 : Int32).toNatClampNeg)), some (.int s72.1), some (.int s72.2), none] [] (wSym order_g images_g looks_g twins_g (.ref 5) wells_l next_l ways_l)) (B := fun x3 : Int32 => V mSymmetry_fitting (3, 0, 0, kpT, some (.int y), (wSym order_g images_g looks_g twins_g (.ref 5) wells_l next_l ways_l), 0, 0) 0 0 133 [none, none, none, none, some (.int x3), none, none] [] (wSym order_g images_g looks_g twins_g (.ref 5) wells_l next_l ways_l)) (s := (x2 &&& (a2 ^^^ (-1)), 0)) (fun sq yq hq kIq kRq => Symmetry_fitting_L72_v (Z := (3, 0, 0, kpT, some (.int y), (wSym order_g images_g looks_g twins_g (.ref 5) wells_l next_l ways_l), 0, 0)) (cells := 0) (slots := 0) (Nat.le_refl _) (Nat.le_refl _) (Nat.le_refl _) sq yq hq kIq (fun r e => kRq r e)) hx ?_
  show V mSymmetry_fitting (3, 0, 0, kpT, some (.int y), (wSym order_g images_g looks_g twins_g (.ref 5) wells_l next_l ways_l), 0, 0) 0 0 133 [none, none, none, none, some (.int x3), none, none] [] (wSym order_g images_g looks_g twins_g (.ref 5) wells_l next_l ways_l)
  refine V.blk [(.iload 4, 0, 0, 0, 0)] (by decide +kernel) (pc' := 135) (l' := [none, none, none, none, some (.int x3), none, none]) (st' := [.int x3]) (hs' := (wSym order_g images_g looks_g twins_g (.ref 5) wells_l next_l ways_l)) rfl trivial rfl ?_
  replace h := Option.some.inj h
  subst h
  exact V.iret rfl (Nat.le_refl _) (Nat.le_refl _) (by decide +kernel)

set_option maxHeartbeats 4000000 in
set_option maxRecDepth 20000 in
theorem Symmetry_canGoOnO_L26_J95_v {dcgo_ : Nat} {Z : VZ} {cells slots : Nat} (hZ : dcgo_ + 4 ≤ Z.1) (hC : cells ≤ Z.2.1) (hL : slots ≤ Z.2.2.1) (cgo_ : (Nat → Int32) → (Nat → Int32) → (Nat → Int64) → (Nat → Int32) → Int32 → (Nat → Int32) → Int32 → Int32 → Option (Int32 × (Nat → Int32))) (hcgo_ : ∀ {order_g : Nat → Int32} {images_g : Nat → Int32} {looks_g : Nat → Int64} {twins_g : Nat → Int32} {wells_l : Int32} {next_l : Nat → Int32} {ways_l : Nat → Int32} {a1 : Int32} {a2 : Int32} {y : Int32 × (Nat → Int32)}, cgo_ order_g images_g looks_g twins_g wells_l next_l a1 a2 = some y → C mSymmetry_canGoOn dcgo_ 0 0 kpT [.ref 0, .int a1, .int a2] (wSym order_g images_g looks_g twins_g (.ref 5) wells_l next_l ways_l) (some (.int y.1)) (wSym order_g y.2 looks_g twins_g (.ref 5) wells_l next_l ways_l)) {order_g : Nat → Int32} {images_g : Nat → Int32} {looks_g : Nat → Int64} {twins_g : Nat → Int32} {wells_l : Int32} {next_l : Nat → Int32} {ways_l : Nat → Int32} {v1 : Int32} {v2 : Int32} {v3 : Int32} {v4 : Int32} {v5 : Int32} (y : (Int32 × Int32 × (Nat → Int32)) ⊕ (Nat → Int32) ⊕ (Nat → Int32)) (h : Symmetry_canGoOnO_L26_J95 cgo_ v1 v2 v3 v4 v5 order_g images_g looks_g twins_g wells_l next_l = some y)  (kI : ∀ s' : Int32 × Int32 × (Nat → Int32), y = .inl s' → V mSymmetry_canGoOn Z cells slots 26 [some (.ref 0), some (.int v1), some (.int v2), some (.int v3), some (.int s'.1), some (.int s'.2.1)] [] (wSym order_g s'.2.2 looks_g twins_g (.ref 5) wells_l next_l ways_l)) (kR0 : ∀ r : Nat → Int32, y = .inr (.inl r) → V mSymmetry_canGoOn Z cells slots 84 [none, none, none, none, none, none] [] (wSym order_g r looks_g twins_g (.ref 5) wells_l next_l ways_l)) (kR1 : ∀ r : Nat → Int32, y = .inr (.inr (r)) → V mSymmetry_canGoOn Z cells slots 101 [none, none, none, none, none, none] [] (wSym order_g r looks_g twins_g (.ref 5) wells_l next_l ways_l)) :
    V mSymmetry_canGoOn Z cells slots 95 [some (.ref 0), some (.int v1), some (.int v2), some (.int v3), some (.int v4), some (.int v5)] [] (wSym order_g images_g looks_g twins_g (.ref 5) wells_l next_l ways_l) := by
  unfold Symmetry_canGoOnO_L26_J95 at h
  refine V.blk [(.iinc 5 1, 0, 0, 0, 1), (.goto (-72), 26, 0, 0, 0)] (by decide +kernel) (pc' := 26) (l' := [some (.ref 0), some (.int v1), some (.int v2), some (.int v3), some (.int v4), some (.int (v5 + 1))]) (st' := []) (hs' := (wSym order_g images_g looks_g twins_g (.ref 5) wells_l next_l ways_l)) rfl trivial rfl ?_
  replace h := Option.some.inj h
  subst h
  exact kI (v4, v5 + 1, images_g) rfl

set_option maxHeartbeats 4000000 in
set_option maxRecDepth 20000 in
theorem Symmetry_canGoOnO_L26_v {dcgo_ : Nat} {Z : VZ} {cells slots : Nat} (hZ : dcgo_ + 4 ≤ Z.1) (hC : cells ≤ Z.2.1) (hL : slots ≤ Z.2.2.1) (cgo_ : (Nat → Int32) → (Nat → Int32) → (Nat → Int64) → (Nat → Int32) → Int32 → (Nat → Int32) → Int32 → Int32 → Option (Int32 × (Nat → Int32))) (hcgo_ : ∀ {order_g : Nat → Int32} {images_g : Nat → Int32} {looks_g : Nat → Int64} {twins_g : Nat → Int32} {wells_l : Int32} {next_l : Nat → Int32} {ways_l : Nat → Int32} {a1 : Int32} {a2 : Int32} {y : Int32 × (Nat → Int32)}, cgo_ order_g images_g looks_g twins_g wells_l next_l a1 a2 = some y → C mSymmetry_canGoOn dcgo_ 0 0 kpT [.ref 0, .int a1, .int a2] (wSym order_g images_g looks_g twins_g (.ref 5) wells_l next_l ways_l) (some (.int y.1)) (wSym order_g y.2 looks_g twins_g (.ref 5) wells_l next_l ways_l)) {order_g : Nat → Int32} {looks_g : Nat → Int64} {twins_g : Nat → Int32} {wells_l : Int32} {next_l : Nat → Int32} {ways_l : Nat → Int32} {v1 : Int32} {v2 : Int32} {v3 : Int32} (s26 : Int32 × Int32 × (Nat → Int32)) (y : (Int32 × Int32 × (Nat → Int32)) ⊕ (Nat → Int32) ⊕ (Nat → Int32)) (h : Symmetry_canGoOnO_L26 cgo_ v1 v2 v3 order_g looks_g twins_g wells_l next_l s26 = some y)  (kI : ∀ s' : Int32 × Int32 × (Nat → Int32), y = .inl s' → V mSymmetry_canGoOn Z cells slots 26 [some (.ref 0), some (.int v1), some (.int v2), some (.int v3), some (.int s'.1), some (.int s'.2.1)] [] (wSym order_g s'.2.2 looks_g twins_g (.ref 5) wells_l next_l ways_l)) (kR0 : ∀ r : Nat → Int32, y = .inr (.inl r) → V mSymmetry_canGoOn Z cells slots 84 [none, none, none, none, none, none] [] (wSym order_g r looks_g twins_g (.ref 5) wells_l next_l ways_l)) (kR1 : ∀ r : Nat → Int32, y = .inr (.inr (r)) → V mSymmetry_canGoOn Z cells slots 101 [none, none, none, none, none, none] [] (wSym order_g r looks_g twins_g (.ref 5) wells_l next_l ways_l)) :
    V mSymmetry_canGoOn Z cells slots 26 [some (.ref 0), some (.int v1), some (.int v2), some (.int v3), some (.int s26.1), some (.int s26.2.1)] [] (wSym order_g s26.2.2 looks_g twins_g (.ref 5) wells_l next_l ways_l) := by
  unfold Symmetry_canGoOnO_L26 at h
  refine V.blk [(.iload 5, 0, 0, 0, 0), (.aload_n 0, 0, 0, 0, 0), (.getfield 29, 9, 4, 0, 0), (.getfield 33, 2, 0, 0, 0)] (by decide +kernel) (pc' := 35) (l' := [some (.ref 0), some (.int v1), some (.int v2), some (.int v3), some (.int s26.1), some (.int s26.2.1)]) (st' := [.int wells_l, .int s26.2.1]) (hs' := (wSym order_g s26.2.2 looks_g twins_g (.ref 5) wells_l next_l ways_l)) rfl trivial rfl ?_
  refine V.ic_ge (tgt := 101) 66 (by decide +kernel) (by decide +kernel) (fun c7 => ?_) (fun c7 => ?_)
  · replace h := if_t h c7
    refine V.blk [(.iload_n 3, 0, 0, 0, 0), (.iload 5, 0, 0, 0, 0), (.ishr, 0, 0, 0, 0), (.iconst 1, 0, 0, 0, 1), (.iand, 0, 0, 0, 0)] (by decide +kernel) (pc' := 44) (l' := [some (.ref 0), some (.int v1), some (.int v2), some (.int v3), some (.int s26.1), some (.int s26.2.1)]) (st' := [.int ((v3 >>> (s26.2.1 &&& 31)) &&& 1)]) (hs' := (wSym order_g s26.2.2 looks_g twins_g (.ref 5) wells_l next_l ways_l)) rfl trivial rfl ?_
    refine V.if_eq (tgt := 95) 51 (by decide +kernel) (by decide +kernel) (fun c6 => ?_) (fun c6 => ?_)
    · replace h := if_t h c6
      exact Symmetry_canGoOnO_L26_J95_v hZ hC hL cgo_ hcgo_ y h kI kR0 kR1
    · replace h := if_f h c6
      obtain ⟨g1, h⟩ := gd_some h
      refine V.blk [(.iload 4, 0, 0, 0, 0), (.aload_n 0, 0, 0, 0, 0), (.getfield 22, 9, 3, 0, 0), (.iload 5, 0, 0, 0, 0), (.iaload, 0, 0, 0, 0), (.iand, 0, 0, 0, 0)] (by decide +kernel) (pc' := 57) (l' := [some (.ref 0), some (.int v1), some (.int v2), some (.int v3), some (.int s26.1), some (.int s26.2.1)]) (st' := [.int (s26.1 &&& (twins_g (s26.2.1 : Int32).toNatClampNeg))]) (hs' := (wSym order_g s26.2.2 looks_g twins_g (.ref 5) wells_l next_l ways_l)) rfl ⟨g1, trivial⟩ rfl ?_
      refine V.if_ne (tgt := 95) 38 (by decide +kernel) (by decide +kernel) (fun c5 => ?_) (fun c5 => ?_)
      · replace h := if_t h c5
        obtain ⟨g2, h⟩ := gd_some h
        refine V.blk [(.aload_n 0, 0, 0, 0, 0), (.getfield 15, 9, 1, 0, 0), (.iload_n 1, 0, 0, 0, 0), (.iload 5, 0, 0, 0, 0), (.iastore, 0, 0, 0, 0), (.aload_n 0, 0, 0, 0, 0), (.iload_n 1, 0, 0, 0, 0), (.iconst 1, 0, 0, 0, 1), (.iadd, 0, 0, 0, 0), (.iload_n 2, 0, 0, 0, 0), (.iconst 1, 0, 0, 0, 1), (.iload 5, 0, 0, 0, 0), (.ishl, 0, 0, 0, 0), (.ior, 0, 0, 0, 0)] (by decide +kernel) (pc' := 78) (l' := [some (.ref 0), some (.int v1), some (.int v2), some (.int v3), some (.int s26.1), some (.int s26.2.1)]) (st' := [.int (v2 ||| ((1 : Int32) <<< (s26.2.1 &&& 31))), .int (v1 + 1), .ref 0]) (hs' := (wSym order_g (upd s26.2.2 (v1 : Int32).toNatClampNeg s26.2.1) looks_g twins_g (.ref 5) wells_l next_l ways_l)) rfl ⟨g2, trivial⟩ rfl ?_
        obtain ⟨x3, hx, h⟩ := ob_some h
        refine V.callV (ρ := fun j => j) (j0 := 0) (as' := [.int (v1 + 1), .int (v2 ||| ((1 : Int32) <<< (s26.2.1 &&& 31)))]) (rest := []) (hc := (wSym order_g (upd s26.2.2 (v1 : Int32).toNatClampNeg s26.2.1) looks_g twins_g (.ref 5) wells_l next_l ways_l)) (hc' := (wSym order_g x3.2 looks_g twins_g (.ref 5) wells_l next_l ways_l)) (hs' := (wSym order_g x3.2 looks_g twins_g (.ref 5) wells_l next_l ways_l)) (hcgo_ hx) ok_mSymmetry_canGoOn lk9_68 rfl (Sub.self _) (Aft.self rfl) ⟨_, _, rfl, by decide, rfl⟩ (Nat.le_trans (by omega : dcgo_ + 0 + 1 ≤ dcgo_ + 4) hZ) hC hL (Nat.le_of_ble_eq_true rfl) (by decide +kernel) ?_
        show V mSymmetry_canGoOn Z cells slots 81 [some (.ref 0), some (.int v1), some (.int v2), some (.int v3), some (.int s26.1), some (.int s26.2.1)] [.int x3.1] (wSym order_g x3.2 looks_g twins_g (.ref 5) wells_l next_l ways_l)
        refine V.if_eq (tgt := 86) 5 (by decide +kernel) (by decide +kernel) (fun c4 => ?_) (fun c4 => ?_)
        · replace h := if_t h c4
          refine V.blk [(.iload 4, 0, 0, 0, 0), (.iconst 1, 0, 0, 0, 1), (.iload 5, 0, 0, 0, 0), (.ishl, 0, 0, 0, 0), (.ior, 0, 0, 0, 0), (.istore 4, 0, 0, 0, 0)] (by decide +kernel) (pc' := 95) (l' := [some (.ref 0), some (.int v1), some (.int v2), some (.int v3), some (.int (s26.1 ||| ((1 : Int32) <<< (s26.2.1 &&& 31)))), some (.int s26.2.1)]) (st' := []) (hs' := (wSym order_g x3.2 looks_g twins_g (.ref 5) wells_l next_l ways_l)) rfl trivial rfl ?_
          exact Symmetry_canGoOnO_L26_J95_v hZ hC hL cgo_ hcgo_ y h kI kR0 kR1
        · replace h := if_f h c4
          replace h := Option.some.inj h
          subst h
          refine V.weak [false, false, false, false, false, false] (l' := [none, none, none, none, none, none]) rfl rfl ?_
          exact kR0 x3.2 rfl
      · replace h := if_f h c5
        exact Symmetry_canGoOnO_L26_J95_v hZ hC hL cgo_ hcgo_ y h kI kR0 kR1
  · replace h := if_f h c7
    replace h := Option.some.inj h
    subst h
    refine V.weak [false, false, false, false, false, false] (l' := [none, none, none, none, none, none]) rfl rfl ?_
    exact kR1 s26.2.2 rfl

set_option maxHeartbeats 4000000 in
set_option maxRecDepth 20000 in
theorem Symmetry_canGoOnO_c {dcgo_ : Nat} (cgo_ : (Nat → Int32) → (Nat → Int32) → (Nat → Int64) → (Nat → Int32) → Int32 → (Nat → Int32) → Int32 → Int32 → Option (Int32 × (Nat → Int32))) (hcgo_ : ∀ {order_g : Nat → Int32} {images_g : Nat → Int32} {looks_g : Nat → Int64} {twins_g : Nat → Int32} {wells_l : Int32} {next_l : Nat → Int32} {ways_l : Nat → Int32} {a1 : Int32} {a2 : Int32} {y : Int32 × (Nat → Int32)}, cgo_ order_g images_g looks_g twins_g wells_l next_l a1 a2 = some y → C mSymmetry_canGoOn dcgo_ 0 0 kpT [.ref 0, .int a1, .int a2] (wSym order_g images_g looks_g twins_g (.ref 5) wells_l next_l ways_l) (some (.int y.1)) (wSym order_g y.2 looks_g twins_g (.ref 5) wells_l next_l ways_l)) {order_g : Nat → Int32} {images_g : Nat → Int32} {looks_g : Nat → Int64} {twins_g : Nat → Int32} {wells_l : Int32} {next_l : Nat → Int32} {ways_l : Nat → Int32} {a1 : Int32} {a2 : Int32} {y : Int32 × (Nat → Int32)} (h : Symmetry_canGoOnO cgo_ order_g images_g looks_g twins_g wells_l next_l a1 a2 = some y) :
    C mSymmetry_canGoOn (dcgo_ + 4) 0 0 kpT [.ref 0, .int a1, .int a2] (wSym order_g images_g looks_g twins_g (.ref 5) wells_l next_l ways_l) (some (.int y.1)) (wSym order_g y.2 looks_g twins_g (.ref 5) wells_l next_l ways_l) := by
  refine C.of rfl rfl (Nat.le_of_ble_eq_true rfl) rfl rfl ?_
  show V mSymmetry_canGoOn (dcgo_ + 4, 0, 0, kpT, some (.int y.1), (wSym order_g y.2 looks_g twins_g (.ref 5) wells_l next_l ways_l), 0, 0) 0 0 0 [some (.ref 0), some (.int a1), some (.int a2), none, none, none] [] (wSym order_g images_g looks_g twins_g (.ref 5) wells_l next_l ways_l)
  unfold Symmetry_canGoOnO at h
  refine V.blk [(.iload_n 1, 0, 0, 0, 0), (.aload_n 0, 0, 0, 0, 0), (.getfield 29, 9, 4, 0, 0), (.getfield 33, 2, 0, 0, 0)] (by decide +kernel) (pc' := 8) (l' := [some (.ref 0), some (.int a1), some (.int a2), none, none, none]) (st' := [.int wells_l, .int a1]) (hs' := (wSym order_g images_g looks_g twins_g (.ref 5) wells_l next_l ways_l)) rfl trivial rfl ?_
  refine V.ic_lt (tgt := 13) 5 (by decide +kernel) (by decide +kernel) (fun c3 => ?_) (fun c3 => ?_)
  · replace h := if_t h c3
    refine V.blk [(.aload_n 0, 0, 0, 0, 0), (.iload_n 1, 0, 0, 0, 0), (.iload_n 2, 0, 0, 0, 0)] (by decide +kernel) (pc' := 16) (l' := [some (.ref 0), some (.int a1), some (.int a2), none, none, none]) (st' := [.int a2, .int a1, .ref 0]) (hs' := (wSym order_g images_g looks_g twins_g (.ref 5) wells_l next_l ways_l)) rfl trivial rfl ?_
    obtain ⟨x1, hx, h⟩ := ob_some h
    refine V.callV (ρ := fun j => j) (j0 := 0) (as' := [.int a1, .int a2]) (rest := []) (hc := (wSym order_g images_g looks_g twins_g (.ref 5) wells_l next_l ways_l)) (hc' := (wSym order_g images_g looks_g twins_g (.ref 5) wells_l next_l ways_l)) (hs' := (wSym order_g images_g looks_g twins_g (.ref 5) wells_l next_l ways_l)) (Symmetry_fitting_c hx) ok_mSymmetry_fitting lk9_65 rfl (Sub.self _) (Aft.self rfl) ⟨_, _, rfl, by decide, rfl⟩ (Nat.le_trans (by omega : 3 + 1 ≤ dcgo_ + 4) (Nat.le_refl _)) (Nat.le_refl _) (Nat.le_refl _) (Nat.le_of_ble_eq_true rfl) (by decide +kernel) ?_
    show V mSymmetry_canGoOn (dcgo_ + 4, 0, 0, kpT, some (.int y.1), (wSym order_g y.2 looks_g twins_g (.ref 5) wells_l next_l ways_l), 0, 0) 0 0 19 [some (.ref 0), some (.int a1), some (.int a2), none, none, none] [.int x1] (wSym order_g images_g looks_g twins_g (.ref 5) wells_l next_l ways_l)
    refine V.blk [(.istore_n 3, 0, 0, 0, 0), (.iconst 0, 0, 0, 0, 0), (.istore 4, 0, 0, 0, 0), (.iconst 0, 0, 0, 0, 0), (.istore 5, 0, 0, 0, 0)] (by decide +kernel) (pc' := 26) (l' := [some (.ref 0), some (.int a1), some (.int a2), some (.int x1), some (.int 0), some (.int 0)]) (st' := []) (hs' := (wSym order_g images_g looks_g twins_g (.ref 5) wells_l next_l ways_l)) rfl trivial rfl ?_
    obtain ⟨x2, hx, h⟩ := ob_some h
    refine lp_V (A := fun s26 : Int32 × Int32 × (Nat → Int32) => V mSymmetry_canGoOn (dcgo_ + 4, 0, 0, kpT, some (.int y.1), (wSym order_g y.2 looks_g twins_g (.ref 5) wells_l next_l ways_l), 0, 0) 0 0 26 [some (.ref 0), some (.int a1), some (.int a2), some (.int x1), some (.int s26.1), some (.int s26.2.1)] [] (wSym order_g s26.2.2 looks_g twins_g (.ref 5) wells_l next_l ways_l)) (B := (Sum.elim (fun x2 : Nat → Int32 => V mSymmetry_canGoOn (dcgo_ + 4, 0, 0, kpT, some (.int y.1), (wSym order_g y.2 looks_g twins_g (.ref 5) wells_l next_l ways_l), 0, 0) 0 0 84 [none, none, none, none, none, none] [] (wSym order_g x2 looks_g twins_g (.ref 5) wells_l next_l ways_l)) (fun x2 : Nat → Int32 => V mSymmetry_canGoOn (dcgo_ + 4, 0, 0, kpT, some (.int y.1), (wSym order_g y.2 looks_g twins_g (.ref 5) wells_l next_l ways_l), 0, 0) 0 0 101 [none, none, none, none, none, none] [] (wSym order_g x2 looks_g twins_g (.ref 5) wells_l next_l ways_l)))) (s := (0, 0, images_g)) (fun sq yq hq kIq kRq => Symmetry_canGoOnO_L26_v (Z := (dcgo_ + 4, 0, 0, kpT, some (.int y.1), (wSym order_g y.2 looks_g twins_g (.ref 5) wells_l next_l ways_l), 0, 0)) (cells := 0) (slots := 0) (Nat.le_refl _) (Nat.le_refl _) (Nat.le_refl _) cgo_ hcgo_ sq yq hq kIq (fun r e => kRq (.inl r) e) (fun r e => kRq (.inr (r)) e)) hx ?_
    rcases x2 with x2 | x2
    · replace h := sm_l h
      show V mSymmetry_canGoOn (dcgo_ + 4, 0, 0, kpT, some (.int y.1), (wSym order_g y.2 looks_g twins_g (.ref 5) wells_l next_l ways_l), 0, 0) 0 0 84 [none, none, none, none, none, none] [] (wSym order_g x2 looks_g twins_g (.ref 5) wells_l next_l ways_l)
      refine V.blk [(.iconst 1, 0, 0, 0, 1)] (by decide +kernel) (pc' := 85) (l' := [none, none, none, none, none, none]) (st' := [.int 1]) (hs' := (wSym order_g x2 looks_g twins_g (.ref 5) wells_l next_l ways_l)) rfl trivial rfl ?_
      replace h := Option.some.inj h
      subst h
      exact V.zret (Or.inr rfl) rfl (Nat.le_refl _) (Nat.le_refl _) (by decide +kernel)
    · replace h := sm_r h
      show V mSymmetry_canGoOn (dcgo_ + 4, 0, 0, kpT, some (.int y.1), (wSym order_g y.2 looks_g twins_g (.ref 5) wells_l next_l ways_l), 0, 0) 0 0 101 [none, none, none, none, none, none] [] (wSym order_g x2 looks_g twins_g (.ref 5) wells_l next_l ways_l)
      refine V.blk [(.iconst 0, 0, 0, 0, 0)] (by decide +kernel) (pc' := 102) (l' := [none, none, none, none, none, none]) (st' := [.int 0]) (hs' := (wSym order_g x2 looks_g twins_g (.ref 5) wells_l next_l ways_l)) rfl trivial rfl ?_
      replace h := Option.some.inj h
      subst h
      exact V.zret (Or.inl rfl) rfl (Nat.le_refl _) (Nat.le_refl _) (by decide +kernel)
  · replace h := if_f h c3
    refine V.blk [(.iconst 1, 0, 0, 0, 1)] (by decide +kernel) (pc' := 12) (l' := [some (.ref 0), some (.int a1), some (.int a2), none, none, none]) (st' := [.int 1]) (hs' := (wSym order_g images_g looks_g twins_g (.ref 5) wells_l next_l ways_l)) rfl trivial rfl ?_
    replace h := Option.some.inj h
    subst h
    exact V.zret (Or.inr rfl) rfl (Nat.le_refl _) (Nat.le_refl _) (by decide +kernel)

set_option maxHeartbeats 4000000 in
set_option maxRecDepth 20000 in
theorem Symmetry_canGoOn_c : ∀ (n : Nat) {order_g : Nat → Int32} {images_g : Nat → Int32} {looks_g : Nat → Int64} {twins_g : Nat → Int32} {wells_l : Int32} {next_l : Nat → Int32} {ways_l : Nat → Int32} {a1 : Int32} {a2 : Int32} {y : Int32 × (Nat → Int32)}, Symmetry_canGoOn n order_g images_g looks_g twins_g wells_l next_l a1 a2 = some y → C mSymmetry_canGoOn (4 * n) 0 0 kpT [.ref 0, .int a1, .int a2] (wSym order_g images_g looks_g twins_g (.ref 5) wells_l next_l ways_l) (some (.int y.1)) (wSym order_g y.2 looks_g twins_g (.ref 5) wells_l next_l ways_l) := by
  intro n
  induction n with
  | zero =>
    intro _ _ _ _ _ _ _ _ _ y h
    cases h
  | succ n ih =>
    intro _ _ _ _ _ _ _ _ _ y h
    exact Symmetry_canGoOnO_c (Symmetry_canGoOn n) ih h

set_option maxHeartbeats 4000000 in
set_option maxRecDepth 20000 in
theorem Symmetry_places_L4_v {Z : VZ} {cells slots : Nat} (hZ : 53 ≤ Z.1) (hC : cells ≤ Z.2.1) (hL : slots ≤ Z.2.2.1) {order_g : Nat → Int32} {looks_g : Nat → Int64} {twins_g : Nat → Int32} {wells_l : Int32} {next_l : Nat → Int32} {ways_l : Nat → Int32} {v1 : Int32} (s4 : Int32 × Int32 × (Nat → Int32)) (y : (Int32 × Int32 × (Nat → Int32)) ⊕ (Int32 × (Nat → Int32))) (h : Symmetry_places_L4 v1 order_g s4 = some y)  (kI : ∀ s' : Int32 × Int32 × (Nat → Int32), y = .inl s' → V mSymmetry_places Z cells slots 4 [some (.ref 0), some (.int v1), some (.int s'.1), some (.int s'.2.1), none, none] [] (wSym order_g s'.2.2 looks_g twins_g (.ref 5) wells_l next_l ways_l)) (kR0 : ∀ r : Int32 × (Nat → Int32), y = .inr r → V mSymmetry_places Z cells slots 38 [some (.ref 0), some (.int v1), some (.int r.1), none, none, none] [] (wSym order_g r.2 looks_g twins_g (.ref 5) wells_l next_l ways_l)) :
    V mSymmetry_places Z cells slots 4 [some (.ref 0), some (.int v1), some (.int s4.1), some (.int s4.2.1), none, none] [] (wSym order_g s4.2.2 looks_g twins_g (.ref 5) wells_l next_l ways_l) := by
  unfold Symmetry_places_L4 at h
  refine V.blk [(.iload_n 3, 0, 0, 0, 0), (.iload_n 1, 0, 0, 0, 0)] (by decide +kernel) (pc' := 6) (l' := [some (.ref 0), some (.int v1), some (.int s4.1), some (.int s4.2.1), none, none]) (st' := [.int v1, .int s4.2.1]) (hs' := (wSym order_g s4.2.2 looks_g twins_g (.ref 5) wells_l next_l ways_l)) rfl trivial rfl ?_
  refine V.ic_ge (tgt := 38) 32 (by decide +kernel) (by decide +kernel) (fun c4 => ?_) (fun c4 => ?_)
  · replace h := if_t h c4
    obtain ⟨g1, h⟩ := gd_some h
    obtain ⟨g2, h⟩ := gd_some h
    obtain ⟨g3, h⟩ := gd_some h
    refine V.blk [(.aload_n 0, 0, 0, 0, 0), (.getfield 15, 9, 1, 0, 0), (.iload_n 3, 0, 0, 0, 0), (.aload_n 0, 0, 0, 0, 0), (.getfield 9, 9, 0, 0, 0), (.iload_n 3, 0, 0, 0, 0), (.iaload, 0, 0, 0, 0), (.iastore, 0, 0, 0, 0), (.iload_n 2, 0, 0, 0, 0), (.iconst 1, 0, 0, 0, 1), (.aload_n 0, 0, 0, 0, 0), (.getfield 9, 9, 0, 0, 0), (.iload_n 3, 0, 0, 0, 0), (.iaload, 0, 0, 0, 0), (.ishl, 0, 0, 0, 0), (.ior, 0, 0, 0, 0), (.istore_n 2, 0, 0, 0, 0), (.iinc 3 1, 0, 0, 0, 1), (.goto (-31), 4, 0, 0, 0)] (by decide +kernel) (pc' := 4) (l' := [some (.ref 0), some (.int v1), some (.int (s4.1 ||| ((1 : Int32) <<< ((order_g (s4.2.1 : Int32).toNatClampNeg) &&& 31)))), some (.int (s4.2.1 + 1)), none, none]) (st' := []) (hs' := (wSym order_g (upd s4.2.2 (s4.2.1 : Int32).toNatClampNeg (order_g (s4.2.1 : Int32).toNatClampNeg)) looks_g twins_g (.ref 5) wells_l next_l ways_l)) rfl ⟨g1, g2, g3, trivial⟩ rfl ?_
    replace h := Option.some.inj h
    subst h
    exact kI (s4.1 ||| ((1 : Int32) <<< ((order_g (s4.2.1 : Int32).toNatClampNeg) &&& 31)), s4.2.1 + 1, upd s4.2.2 (s4.2.1 : Int32).toNatClampNeg (order_g (s4.2.1 : Int32).toNatClampNeg)) rfl
  · replace h := if_f h c4
    replace h := Option.some.inj h
    subst h
    refine V.weak [true, true, true, false, true, true] (l' := [some (.ref 0), some (.int v1), some (.int s4.1), none, none, none]) rfl rfl ?_
    exact kR0 (s4.1, s4.2.2) rfl

set_option maxHeartbeats 4000000 in
set_option maxRecDepth 20000 in
theorem Symmetry_places_L51_J119_v {Z : VZ} {cells slots : Nat} (hZ : 53 ≤ Z.1) (hC : cells ≤ Z.2.1) (hL : slots ≤ Z.2.2.1) {order_g : Nat → Int32} {images_g : Nat → Int32} {looks_g : Nat → Int64} {twins_g : Nat → Int32} {wells_l : Int32} {next_l : Nat → Int32} {ways_l : Nat → Int32} {v1 : Int32} {v2 : Int32} {v3 : Int32} {v4 : Int32} {v5 : Int32} (y : (Int32 × Int32 × (Nat → Int32)) ⊕ (Int32 × (Nat → Int32))) (h : Symmetry_places_L51_J119 v1 v2 v3 v4 v5 order_g images_g looks_g twins_g wells_l next_l = some y)  (kI : ∀ s' : Int32 × Int32 × (Nat → Int32), y = .inl s' → V mSymmetry_places Z cells slots 51 [some (.ref 0), some (.int v1), some (.int v2), some (.int s'.1), some (.int v4), some (.int s'.2.1)] [] (wSym order_g s'.2.2 looks_g twins_g (.ref 5) wells_l next_l ways_l)) (kR0 : ∀ r : Int32 × (Nat → Int32), y = .inr r → V mSymmetry_places Z cells slots 125 [none, none, none, some (.int r.1), none, none] [] (wSym order_g r.2 looks_g twins_g (.ref 5) wells_l next_l ways_l)) :
    V mSymmetry_places Z cells slots 119 [some (.ref 0), some (.int v1), some (.int v2), some (.int v3), some (.int v4), some (.int v5)] [] (wSym order_g images_g looks_g twins_g (.ref 5) wells_l next_l ways_l) := by
  unfold Symmetry_places_L51_J119 at h
  refine V.blk [(.iinc 5 1, 0, 0, 0, 1), (.goto (-71), 51, 0, 0, 0)] (by decide +kernel) (pc' := 51) (l' := [some (.ref 0), some (.int v1), some (.int v2), some (.int v3), some (.int v4), some (.int (v5 + 1))]) (st' := []) (hs' := (wSym order_g images_g looks_g twins_g (.ref 5) wells_l next_l ways_l)) rfl trivial rfl ?_
  replace h := Option.some.inj h
  subst h
  exact kI (v3, v5 + 1, images_g) rfl

set_option maxHeartbeats 4000000 in
set_option maxRecDepth 20000 in
theorem Symmetry_places_L51_J117_v {Z : VZ} {cells slots : Nat} (hZ : 53 ≤ Z.1) (hC : cells ≤ Z.2.1) (hL : slots ≤ Z.2.2.1) {order_g : Nat → Int32} {images_g : Nat → Int32} {looks_g : Nat → Int64} {twins_g : Nat → Int32} {wells_l : Int32} {next_l : Nat → Int32} {ways_l : Nat → Int32} {v1 : Int32} {v2 : Int32} {v4 : Int32} {v5 : Int32} {k0 : Int32} {k1 : Int32} (y : (Int32 × Int32 × (Nat → Int32)) ⊕ (Int32 × (Nat → Int32))) (h : Symmetry_places_L51_J117 v1 v2 v4 v5 k0 k1 order_g images_g looks_g twins_g wells_l next_l = some y)  (kI : ∀ s' : Int32 × Int32 × (Nat → Int32), y = .inl s' → V mSymmetry_places Z cells slots 51 [some (.ref 0), some (.int v1), some (.int v2), some (.int s'.1), some (.int v4), some (.int s'.2.1)] [] (wSym order_g s'.2.2 looks_g twins_g (.ref 5) wells_l next_l ways_l)) (kR0 : ∀ r : Int32 × (Nat → Int32), y = .inr r → V mSymmetry_places Z cells slots 125 [none, none, none, some (.int r.1), none, none] [] (wSym order_g r.2 looks_g twins_g (.ref 5) wells_l next_l ways_l)) :
    V mSymmetry_places Z cells slots 117 [some (.ref 0), some (.int v1), some (.int v2), none, some (.int v4), some (.int v5)] [.int k0, .int k1] (wSym order_g images_g looks_g twins_g (.ref 5) wells_l next_l ways_l) := by
  unfold Symmetry_places_L51_J117 at h
  refine V.blk [(.ior, 0, 0, 0, 0), (.istore_n 3, 0, 0, 0, 0)] (by decide +kernel) (pc' := 119) (l' := [some (.ref 0), some (.int v1), some (.int v2), some (.int (k1 ||| k0)), some (.int v4), some (.int v5)]) (st' := []) (hs' := (wSym order_g images_g looks_g twins_g (.ref 5) wells_l next_l ways_l)) rfl trivial rfl ?_
  exact Symmetry_places_L51_J119_v hZ hC hL y h kI kR0

set_option maxHeartbeats 4000000 in
set_option maxRecDepth 20000 in
theorem Symmetry_places_L51_J109_v {Z : VZ} {cells slots : Nat} (hZ : 53 ≤ Z.1) (hC : cells ≤ Z.2.1) (hL : slots ≤ Z.2.2.1) {order_g : Nat → Int32} {images_g : Nat → Int32} {looks_g : Nat → Int64} {twins_g : Nat → Int32} {wells_l : Int32} {next_l : Nat → Int32} {ways_l : Nat → Int32} {v1 : Int32} {v2 : Int32} {v4 : Int32} {v5 : Int32} {k0 : Int32} (y : (Int32 × Int32 × (Nat → Int32)) ⊕ (Int32 × (Nat → Int32))) (h : Symmetry_places_L51_J109 v1 v2 v4 v5 k0 order_g images_g looks_g twins_g wells_l next_l = some y)  (kI : ∀ s' : Int32 × Int32 × (Nat → Int32), y = .inl s' → V mSymmetry_places Z cells slots 51 [some (.ref 0), some (.int v1), some (.int v2), some (.int s'.1), some (.int v4), some (.int s'.2.1)] [] (wSym order_g s'.2.2 looks_g twins_g (.ref 5) wells_l next_l ways_l)) (kR0 : ∀ r : Int32 × (Nat → Int32), y = .inr r → V mSymmetry_places Z cells slots 125 [none, none, none, some (.int r.1), none, none] [] (wSym order_g r.2 looks_g twins_g (.ref 5) wells_l next_l ways_l)) :
    V mSymmetry_places Z cells slots 109 [some (.ref 0), some (.int v1), some (.int v2), none, some (.int v4), some (.int v5)] [.int k0] (wSym order_g images_g looks_g twins_g (.ref 5) wells_l next_l ways_l) := by
  unfold Symmetry_places_L51_J109 at h
  refine V.blk [(.iconst 1, 0, 0, 0, 1), (.iload 5, 0, 0, 0, 0), (.ishl, 0, 0, 0, 0), (.goto 4, 117, 0, 0, 0)] (by decide +kernel) (pc' := 117) (l' := [some (.ref 0), some (.int v1), some (.int v2), none, some (.int v4), some (.int v5)]) (st' := [.int ((1 : Int32) <<< (v5 &&& 31)), .int k0]) (hs' := (wSym order_g images_g looks_g twins_g (.ref 5) wells_l next_l ways_l)) rfl trivial rfl ?_
  exact Symmetry_places_L51_J117_v hZ hC hL y h kI kR0

set_option maxHeartbeats 4000000 in
set_option maxRecDepth 20000 in
theorem Symmetry_places_L51_v {Z : VZ} {cells slots : Nat} (hZ : 53 ≤ Z.1) (hC : cells ≤ Z.2.1) (hL : slots ≤ Z.2.2.1) {order_g : Nat → Int32} {looks_g : Nat → Int64} {twins_g : Nat → Int32} {wells_l : Int32} {next_l : Nat → Int32} {ways_l : Nat → Int32} {v1 : Int32} {v2 : Int32} {v4 : Int32} (s51 : Int32 × Int32 × (Nat → Int32)) (y : (Int32 × Int32 × (Nat → Int32)) ⊕ (Int32 × (Nat → Int32))) (h : Symmetry_places_L51 v1 v2 v4 order_g looks_g twins_g wells_l next_l s51 = some y)  (kI : ∀ s' : Int32 × Int32 × (Nat → Int32), y = .inl s' → V mSymmetry_places Z cells slots 51 [some (.ref 0), some (.int v1), some (.int v2), some (.int s'.1), some (.int v4), some (.int s'.2.1)] [] (wSym order_g s'.2.2 looks_g twins_g (.ref 5) wells_l next_l ways_l)) (kR0 : ∀ r : Int32 × (Nat → Int32), y = .inr r → V mSymmetry_places Z cells slots 125 [none, none, none, some (.int r.1), none, none] [] (wSym order_g r.2 looks_g twins_g (.ref 5) wells_l next_l ways_l)) :
    V mSymmetry_places Z cells slots 51 [some (.ref 0), some (.int v1), some (.int v2), some (.int s51.1), some (.int v4), some (.int s51.2.1)] [] (wSym order_g s51.2.2 looks_g twins_g (.ref 5) wells_l next_l ways_l) := by
  unfold Symmetry_places_L51 at h
  refine V.blk [(.iload 5, 0, 0, 0, 0), (.aload_n 0, 0, 0, 0, 0), (.getfield 29, 9, 4, 0, 0), (.getfield 33, 2, 0, 0, 0)] (by decide +kernel) (pc' := 60) (l' := [some (.ref 0), some (.int v1), some (.int v2), some (.int s51.1), some (.int v4), some (.int s51.2.1)]) (st' := [.int wells_l, .int s51.2.1]) (hs' := (wSym order_g s51.2.2 looks_g twins_g (.ref 5) wells_l next_l ways_l)) rfl trivial rfl ?_
  refine V.ic_ge (tgt := 125) 65 (by decide +kernel) (by decide +kernel) (fun c7 => ?_) (fun c7 => ?_)
  · replace h := if_t h c7
    refine V.blk [(.iload 4, 0, 0, 0, 0), (.iload 5, 0, 0, 0, 0), (.ishr, 0, 0, 0, 0), (.iconst 1, 0, 0, 0, 1), (.iand, 0, 0, 0, 0)] (by decide +kernel) (pc' := 70) (l' := [some (.ref 0), some (.int v1), some (.int v2), some (.int s51.1), some (.int v4), some (.int s51.2.1)]) (st' := [.int ((v4 >>> (s51.2.1 &&& 31)) &&& 1)]) (hs' := (wSym order_g s51.2.2 looks_g twins_g (.ref 5) wells_l next_l ways_l)) rfl trivial rfl ?_
    refine V.if_eq (tgt := 119) 49 (by decide +kernel) (by decide +kernel) (fun c6 => ?_) (fun c6 => ?_)
    · replace h := if_t h c6
      exact Symmetry_places_L51_J119_v hZ hC hL y h kI kR0
    · replace h := if_f h c6
      obtain ⟨g1, h⟩ := gd_some h
      obtain ⟨g2, h⟩ := gd_some h
      refine V.blk [(.aload_n 0, 0, 0, 0, 0), (.getfield 15, 9, 1, 0, 0), (.iload_n 1, 0, 0, 0, 0), (.iload 5, 0, 0, 0, 0), (.iastore, 0, 0, 0, 0), (.iload_n 3, 0, 0, 0, 0), (.iload 5, 0, 0, 0, 0), (.aload_n 0, 0, 0, 0, 0), (.getfield 9, 9, 0, 0, 0), (.iload_n 1, 0, 0, 0, 0), (.iaload, 0, 0, 0, 0)] (by decide +kernel) (pc' := 90) (l' := [some (.ref 0), some (.int v1), some (.int v2), some (.int s51.1), some (.int v4), some (.int s51.2.1)]) (st' := [.int (order_g (v1 : Int32).toNatClampNeg), .int s51.2.1, .int s51.1]) (hs' := (wSym order_g (upd s51.2.2 (v1 : Int32).toNatClampNeg s51.2.1) looks_g twins_g (.ref 5) wells_l next_l ways_l)) rfl ⟨g1, g2, trivial⟩ rfl ?_
      refine V.ic_eq (tgt := 109) 19 (by decide +kernel) (by decide +kernel) (fun c5 => ?_) (fun c5 => ?_)
      · replace h := if_t h c5
        refine V.weak [true, true, true, false, true, true] (l' := [some (.ref 0), some (.int v1), some (.int v2), none, some (.int v4), some (.int s51.2.1)]) rfl rfl ?_
        exact Symmetry_places_L51_J109_v hZ hC hL y h kI kR0
      · replace h := if_f h c5
        refine V.blk [(.aload_n 0, 0, 0, 0, 0), (.iload_n 1, 0, 0, 0, 0), (.iconst 1, 0, 0, 0, 1), (.iadd, 0, 0, 0, 0), (.iload_n 2, 0, 0, 0, 0), (.iconst 1, 0, 0, 0, 1), (.iload 5, 0, 0, 0, 0), (.ishl, 0, 0, 0, 0), (.ior, 0, 0, 0, 0)] (by decide +kernel) (pc' := 103) (l' := [some (.ref 0), some (.int v1), some (.int v2), some (.int s51.1), some (.int v4), some (.int s51.2.1)]) (st' := [.int (v2 ||| ((1 : Int32) <<< (s51.2.1 &&& 31))), .int (v1 + 1), .ref 0, .int s51.1]) (hs' := (wSym order_g (upd s51.2.2 (v1 : Int32).toNatClampNeg s51.2.1) looks_g twins_g (.ref 5) wells_l next_l ways_l)) rfl trivial rfl ?_
        obtain ⟨x3, hx, h⟩ := ob_some h
        refine V.callV (ρ := fun j => j) (j0 := 0) (as' := [.int (v1 + 1), .int (v2 ||| ((1 : Int32) <<< (s51.2.1 &&& 31)))]) (rest := [.int s51.1]) (hc := (wSym order_g (upd s51.2.2 (v1 : Int32).toNatClampNeg s51.2.1) looks_g twins_g (.ref 5) wells_l next_l ways_l)) (hc' := (wSym order_g x3.2 looks_g twins_g (.ref 5) wells_l next_l ways_l)) (hs' := (wSym order_g x3.2 looks_g twins_g (.ref 5) wells_l next_l ways_l)) (Symmetry_canGoOn_c 13 hx) ok_mSymmetry_canGoOn lk9_68 rfl (Sub.self _) (Aft.self rfl) ⟨_, _, rfl, by decide, rfl⟩ (Nat.le_trans (by decide : 52 + 1 ≤ 53) hZ) hC hL (Nat.le_of_ble_eq_true rfl) (by decide +kernel) ?_
        show V mSymmetry_places Z cells slots 106 [some (.ref 0), some (.int v1), some (.int v2), some (.int s51.1), some (.int v4), some (.int s51.2.1)] [.int x3.1, .int s51.1] (wSym order_g x3.2 looks_g twins_g (.ref 5) wells_l next_l ways_l)
        refine V.if_eq (tgt := 116) 10 (by decide +kernel) (by decide +kernel) (fun c4 => ?_) (fun c4 => ?_)
        · replace h := if_t h c4
          refine V.blk [(.iconst 0, 0, 0, 0, 0)] (by decide +kernel) (pc' := 117) (l' := [some (.ref 0), some (.int v1), some (.int v2), some (.int s51.1), some (.int v4), some (.int s51.2.1)]) (st' := [.int 0, .int s51.1]) (hs' := (wSym order_g x3.2 looks_g twins_g (.ref 5) wells_l next_l ways_l)) rfl trivial rfl ?_
          refine V.weak [true, true, true, false, true, true] (l' := [some (.ref 0), some (.int v1), some (.int v2), none, some (.int v4), some (.int s51.2.1)]) rfl rfl ?_
          exact Symmetry_places_L51_J117_v hZ hC hL y h kI kR0
        · replace h := if_f h c4
          refine V.weak [true, true, true, false, true, true] (l' := [some (.ref 0), some (.int v1), some (.int v2), none, some (.int v4), some (.int s51.2.1)]) rfl rfl ?_
          exact Symmetry_places_L51_J109_v hZ hC hL y h kI kR0
  · replace h := if_f h c7
    replace h := Option.some.inj h
    subst h
    refine V.weak [false, false, false, true, false, false] (l' := [none, none, none, some (.int s51.1), none, none]) rfl rfl ?_
    exact kR0 (s51.1, s51.2.2) rfl

set_option maxHeartbeats 4000000 in
set_option maxRecDepth 20000 in
theorem Symmetry_places_c {order_g : Nat → Int32} {images_g : Nat → Int32} {looks_g : Nat → Int64} {twins_g : Nat → Int32} {wells_l : Int32} {next_l : Nat → Int32} {ways_l : Nat → Int32} {a1 : Int32} {y : Int32 × (Nat → Int32)} (h : Symmetry_places order_g images_g looks_g twins_g wells_l next_l a1 = some y) :
    C mSymmetry_places 53 0 0 kpT [.ref 0, .int a1] (wSym order_g images_g looks_g twins_g (.ref 5) wells_l next_l ways_l) (some (.int y.1)) (wSym order_g y.2 looks_g twins_g (.ref 5) wells_l next_l ways_l) := by
  refine C.of rfl rfl (Nat.le_of_ble_eq_true rfl) rfl rfl ?_
  show V mSymmetry_places (53, 0, 0, kpT, some (.int y.1), (wSym order_g y.2 looks_g twins_g (.ref 5) wells_l next_l ways_l), 0, 0) 0 0 0 [some (.ref 0), some (.int a1), none, none, none, none] [] (wSym order_g images_g looks_g twins_g (.ref 5) wells_l next_l ways_l)
  unfold Symmetry_places at h
  refine V.blk [(.iconst 0, 0, 0, 0, 0), (.istore_n 2, 0, 0, 0, 0), (.iconst 0, 0, 0, 0, 0), (.istore_n 3, 0, 0, 0, 0)] (by decide +kernel) (pc' := 4) (l' := [some (.ref 0), some (.int a1), some (.int 0), some (.int 0), none, none]) (st' := []) (hs' := (wSym order_g images_g looks_g twins_g (.ref 5) wells_l next_l ways_l)) rfl trivial rfl ?_
  obtain ⟨x1, hx, h⟩ := ob_some h
  refine lp_V (A := fun s4 : Int32 × Int32 × (Nat → Int32) => V mSymmetry_places (53, 0, 0, kpT, some (.int y.1), (wSym order_g y.2 looks_g twins_g (.ref 5) wells_l next_l ways_l), 0, 0) 0 0 4 [some (.ref 0), some (.int a1), some (.int s4.1), some (.int s4.2.1), none, none] [] (wSym order_g s4.2.2 looks_g twins_g (.ref 5) wells_l next_l ways_l)) (B := fun x1 : Int32 × (Nat → Int32) => V mSymmetry_places (53, 0, 0, kpT, some (.int y.1), (wSym order_g y.2 looks_g twins_g (.ref 5) wells_l next_l ways_l), 0, 0) 0 0 38 [some (.ref 0), some (.int a1), some (.int x1.1), none, none, none] [] (wSym order_g x1.2 looks_g twins_g (.ref 5) wells_l next_l ways_l)) (s := (0, 0, images_g)) (fun sq yq hq kIq kRq => Symmetry_places_L4_v (Z := (53, 0, 0, kpT, some (.int y.1), (wSym order_g y.2 looks_g twins_g (.ref 5) wells_l next_l ways_l), 0, 0)) (cells := 0) (slots := 0) (Nat.le_refl _) (Nat.le_refl _) (Nat.le_refl _) sq yq hq kIq (fun r e => kRq r e)) hx ?_
  show V mSymmetry_places (53, 0, 0, kpT, some (.int y.1), (wSym order_g y.2 looks_g twins_g (.ref 5) wells_l next_l ways_l), 0, 0) 0 0 38 [some (.ref 0), some (.int a1), some (.int x1.1), none, none, none] [] (wSym order_g x1.2 looks_g twins_g (.ref 5) wells_l next_l ways_l)
  refine V.blk [(.iconst 0, 0, 0, 0, 0), (.istore_n 3, 0, 0, 0, 0), (.aload_n 0, 0, 0, 0, 0), (.iload_n 1, 0, 0, 0, 0), (.iload_n 2, 0, 0, 0, 0)] (by decide +kernel) (pc' := 43) (l' := [some (.ref 0), some (.int a1), some (.int x1.1), some (.int 0), none, none]) (st' := [.int x1.1, .int a1, .ref 0]) (hs' := (wSym order_g x1.2 looks_g twins_g (.ref 5) wells_l next_l ways_l)) rfl trivial rfl ?_
  obtain ⟨x2, hx, h⟩ := ob_some h
  refine V.callV (ρ := fun j => j) (j0 := 0) (as' := [.int a1, .int x1.1]) (rest := []) (hc := (wSym order_g x1.2 looks_g twins_g (.ref 5) wells_l next_l ways_l)) (hc' := (wSym order_g x1.2 looks_g twins_g (.ref 5) wells_l next_l ways_l)) (hs' := (wSym order_g x1.2 looks_g twins_g (.ref 5) wells_l next_l ways_l)) (Symmetry_fitting_c hx) ok_mSymmetry_fitting lk9_65 rfl (Sub.self _) (Aft.self rfl) ⟨_, _, rfl, by decide, rfl⟩ (Nat.le_trans (by decide : 3 + 1 ≤ 53) (Nat.le_refl _)) (Nat.le_refl _) (Nat.le_refl _) (Nat.le_of_ble_eq_true rfl) (by decide +kernel) ?_
  show V mSymmetry_places (53, 0, 0, kpT, some (.int y.1), (wSym order_g y.2 looks_g twins_g (.ref 5) wells_l next_l ways_l), 0, 0) 0 0 46 [some (.ref 0), some (.int a1), some (.int x1.1), some (.int 0), none, none] [.int x2] (wSym order_g x1.2 looks_g twins_g (.ref 5) wells_l next_l ways_l)
  refine V.blk [(.istore 4, 0, 0, 0, 0), (.iconst 0, 0, 0, 0, 0), (.istore 5, 0, 0, 0, 0)] (by decide +kernel) (pc' := 51) (l' := [some (.ref 0), some (.int a1), some (.int x1.1), some (.int 0), some (.int x2), some (.int 0)]) (st' := []) (hs' := (wSym order_g x1.2 looks_g twins_g (.ref 5) wells_l next_l ways_l)) rfl trivial rfl ?_
  obtain ⟨x3, hx, h⟩ := ob_some h
  refine lp_V (A := fun s51 : Int32 × Int32 × (Nat → Int32) => V mSymmetry_places (53, 0, 0, kpT, some (.int y.1), (wSym order_g y.2 looks_g twins_g (.ref 5) wells_l next_l ways_l), 0, 0) 0 0 51 [some (.ref 0), some (.int a1), some (.int x1.1), some (.int s51.1), some (.int x2), some (.int s51.2.1)] [] (wSym order_g s51.2.2 looks_g twins_g (.ref 5) wells_l next_l ways_l)) (B := fun x3 : Int32 × (Nat → Int32) => V mSymmetry_places (53, 0, 0, kpT, some (.int y.1), (wSym order_g y.2 looks_g twins_g (.ref 5) wells_l next_l ways_l), 0, 0) 0 0 125 [none, none, none, some (.int x3.1), none, none] [] (wSym order_g x3.2 looks_g twins_g (.ref 5) wells_l next_l ways_l)) (s := (0, 0, x1.2)) (fun sq yq hq kIq kRq => Symmetry_places_L51_v (Z := (53, 0, 0, kpT, some (.int y.1), (wSym order_g y.2 looks_g twins_g (.ref 5) wells_l next_l ways_l), 0, 0)) (cells := 0) (slots := 0) (Nat.le_refl _) (Nat.le_refl _) (Nat.le_refl _) sq yq hq kIq (fun r e => kRq r e)) hx ?_
  show V mSymmetry_places (53, 0, 0, kpT, some (.int y.1), (wSym order_g y.2 looks_g twins_g (.ref 5) wells_l next_l ways_l), 0, 0) 0 0 125 [none, none, none, some (.int x3.1), none, none] [] (wSym order_g x3.2 looks_g twins_g (.ref 5) wells_l next_l ways_l)
  refine V.blk [(.iload_n 3, 0, 0, 0, 0)] (by decide +kernel) (pc' := 126) (l' := [none, none, none, some (.int x3.1), none, none]) (st' := [.int x3.1]) (hs' := (wSym order_g x3.2 looks_g twins_g (.ref 5) wells_l next_l ways_l)) rfl trivial rfl ?_
  replace h := Option.some.inj h
  subst h
  exact V.iret rfl (Nat.le_refl _) (Nat.le_refl _) (by decide +kernel)

set_option maxHeartbeats 4000000 in
set_option maxRecDepth 20000 in
theorem Symmetry_begin_L93_v {Z : VZ} {cells slots : Nat} (hZ : 4 ≤ Z.1) (hC : cells ≤ Z.2.1) (hL : slots ≤ Z.2.2.1) {order_g : Nat → Int32} {images_g : Nat → Int32} {wells_l : Int32} {next_l : Nat → Int32} {ways_l : Nat → Int32}  (s93 : Int32 × (Nat → Int64) × (Nat → Int32)) (y : (Int32 × (Nat → Int64) × (Nat → Int32)) ⊕ ((Nat → Int64) × (Nat → Int32))) (h : Symmetry_begin_L93 wells_l next_l ways_l s93 = some y)  (kI : ∀ s' : Int32 × (Nat → Int64) × (Nat → Int32), y = .inl s' → V mSymmetry_begin Z cells slots 93 [some (.ref 0), none, none, none, none, some (.int s'.1), none] [] (wSym order_g images_g s'.2.1 s'.2.2 (.ref 5) wells_l next_l ways_l)) (kR0 : ∀ r : (Nat → Int64) × (Nat → Int32), y = .inr r → V mSymmetry_begin Z cells slots 137 [none, none, none, none, none, none, none] [] (wSym order_g images_g r.1 r.2 (.ref 5) wells_l next_l ways_l)) :
    V mSymmetry_begin Z cells slots 93 [some (.ref 0), none, none, none, none, some (.int s93.1), none] [] (wSym order_g images_g s93.2.1 s93.2.2 (.ref 5) wells_l next_l ways_l) := by
  unfold Symmetry_begin_L93 at h
  refine V.blk [(.iload 5, 0, 0, 0, 0), (.aload_n 0, 0, 0, 0, 0), (.getfield 29, 9, 4, 0, 0), (.getfield 33, 2, 0, 0, 0)] (by decide +kernel) (pc' := 102) (l' := [some (.ref 0), none, none, none, none, some (.int s93.1), none]) (st' := [.int wells_l, .int s93.1]) (hs' := (wSym order_g images_g s93.2.1 s93.2.2 (.ref 5) wells_l next_l ways_l)) rfl trivial rfl ?_
  refine V.ic_ge (tgt := 137) 35 (by decide +kernel) (by decide +kernel) (fun c5 => ?_) (fun c5 => ?_)
  · replace h := if_t h c5
    refine V.blk [(.aload_n 0, 0, 0, 0, 0), (.getfield 18, 9, 2, 0, 0), (.iload 5, 0, 0, 0, 0), (.aload_n 0, 0, 0, 0, 0), (.iload 5, 0, 0, 0, 0)] (by decide +kernel) (pc' := 114) (l' := [some (.ref 0), none, none, none, none, some (.int s93.1), none]) (st' := [.int s93.1, .ref 0, .int s93.1, .ref 3]) (hs' := (wSym order_g images_g s93.2.1 s93.2.2 (.ref 5) wells_l next_l ways_l)) rfl trivial rfl ?_
    obtain ⟨x1, hx, h⟩ := ob_some h
    refine V.callV (ρ := fun j => j) (j0 := 0) (as' := [.int s93.1]) (rest := [.int s93.1, .ref 3]) (hc := (wSym order_g images_g s93.2.1 s93.2.2 (.ref 5) wells_l next_l ways_l)) (hc' := (wSym order_g images_g s93.2.1 s93.2.2 (.ref 5) wells_l next_l ways_l)) (hs' := (wSym order_g images_g s93.2.1 s93.2.2 (.ref 5) wells_l next_l ways_l)) (Symmetry_look_c hx) ok_mSymmetry_look lk9_54 rfl (Sub.self _) (Aft.self rfl) ⟨_, _, rfl, by decide, rfl⟩ (Nat.le_trans (by decide : 3 + 1 ≤ 4) hZ) hC hL (Nat.le_of_ble_eq_true rfl) (by decide +kernel) ?_
    show V mSymmetry_begin Z cells slots 117 [some (.ref 0), none, none, none, none, some (.int s93.1), none] [.long x1, .int s93.1, .ref 3] (wSym order_g images_g s93.2.1 s93.2.2 (.ref 5) wells_l next_l ways_l)
    obtain ⟨g2, h⟩ := gd_some h
    refine V.blk [(.lastore, 0, 0, 0, 0), (.aload_n 0, 0, 0, 0, 0), (.getfield 22, 9, 3, 0, 0), (.iload 5, 0, 0, 0, 0), (.aload_n 0, 0, 0, 0, 0), (.iload 5, 0, 0, 0, 0)] (by decide +kernel) (pc' := 127) (l' := [some (.ref 0), none, none, none, none, some (.int s93.1), none]) (st' := [.int s93.1, .ref 0, .int s93.1, .ref 4]) (hs' := (wSym order_g images_g (vp_updL s93.2.1 (s93.1 : Int32).toNatClampNeg x1) s93.2.2 (.ref 5) wells_l next_l ways_l)) rfl ⟨g2, trivial⟩ rfl ?_
    obtain ⟨x3, hx, h⟩ := ob_some h
    refine V.callV (ρ := fun j => j) (j0 := 0) (as' := [.int s93.1]) (rest := [.int s93.1, .ref 4]) (hc := (wSym order_g images_g (vp_updL s93.2.1 (s93.1 : Int32).toNatClampNeg x1) s93.2.2 (.ref 5) wells_l next_l ways_l)) (hc' := (wSym order_g images_g (vp_updL s93.2.1 (s93.1 : Int32).toNatClampNeg x1) s93.2.2 (.ref 5) wells_l next_l ways_l)) (hs' := (wSym order_g images_g (vp_updL s93.2.1 (s93.1 : Int32).toNatClampNeg x1) s93.2.2 (.ref 5) wells_l next_l ways_l)) (Symmetry_twinsOf_c hx) ok_mSymmetry_twinsOf lk9_58 rfl (Sub.self _) (Aft.self rfl) ⟨_, _, rfl, by decide, rfl⟩ (Nat.le_trans (by decide : 1 + 1 ≤ 4) hZ) hC hL (Nat.le_of_ble_eq_true rfl) (by decide +kernel) ?_
    show V mSymmetry_begin Z cells slots 130 [some (.ref 0), none, none, none, none, some (.int s93.1), none] [.int x3, .int s93.1, .ref 4] (wSym order_g images_g (vp_updL s93.2.1 (s93.1 : Int32).toNatClampNeg x1) s93.2.2 (.ref 5) wells_l next_l ways_l)
    obtain ⟨g4, h⟩ := gd_some h
    refine V.blk [(.iastore, 0, 0, 0, 0), (.iinc 5 1, 0, 0, 0, 1), (.goto (-41), 93, 0, 0, 0)] (by decide +kernel) (pc' := 93) (l' := [some (.ref 0), none, none, none, none, some (.int (s93.1 + 1)), none]) (st' := []) (hs' := (wSym order_g images_g (vp_updL s93.2.1 (s93.1 : Int32).toNatClampNeg x1) (upd s93.2.2 (s93.1 : Int32).toNatClampNeg x3) (.ref 5) wells_l next_l ways_l)) rfl ⟨g4, trivial⟩ rfl ?_
    replace h := Option.some.inj h
    subst h
    exact kI (s93.1 + 1, vp_updL s93.2.1 (s93.1 : Int32).toNatClampNeg x1, upd s93.2.2 (s93.1 : Int32).toNatClampNeg x3) rfl
  · replace h := if_f h c5
    replace h := Option.some.inj h
    subst h
    refine V.weak [false, true, true, true, true, false, true] (l' := [none, none, none, none, none, none, none]) rfl rfl ?_
    exact kR0 (s93.2.1, s93.2.2) rfl

set_option maxHeartbeats 4000000 in
set_option maxRecDepth 20000 in
theorem Symmetry_begin_L15_J48_v {Z : VZ} {cells slots : Nat} (hZ : 4 ≤ Z.1) (hC : cells ≤ Z.2.1) (hL : slots ≤ Z.2.2.1) {order_g : Nat → Int32} {images_g : Nat → Int32} {looks_g : Nat → Int64} {twins_g : Nat → Int32} {wells_l : Int32} {next_l : Nat → Int32} {ways_l : Nat → Int32} {v3 : Int32} {v4 : Int32} {v5 : Int32} {k0 : Int32} (y : (Int32 × Int32 × Int32 × (Nat → Int32)) ⊕ (Nat → Int32)) (h : Symmetry_begin_L15_J48 v3 v4 v5 k0 order_g wells_l next_l = some y)  (kI : ∀ s' : Int32 × Int32 × Int32 × (Nat → Int32), y = .inl s' → V mSymmetry_begin Z cells slots 15 [some (.ref 0), none, none, some (.int s'.1), some (.int s'.2.1), some (.int s'.2.2.1), none] [] (wSym s'.2.2.2 images_g looks_g twins_g (.ref 5) wells_l next_l ways_l)) (kR0 : ∀ r : Nat → Int32, y = .inr r → V mSymmetry_begin Z cells slots 90 [some (.ref 0), none, none, none, none, none, none] [] (wSym r images_g looks_g twins_g (.ref 5) wells_l next_l ways_l)) :
    V mSymmetry_begin Z cells slots 48 [some (.ref 0), none, none, some (.int v3), some (.int v4), some (.int v5), none] [.int k0] (wSym order_g images_g looks_g twins_g (.ref 5) wells_l next_l ways_l) := by
  unfold Symmetry_begin_L15_J48 at h
  obtain ⟨x1, hx, h⟩ := ob_some h
  refine V.callS (ρ := fun j => [].getD j 0) (as' := [.int k0]) (rest := []) (hc := (wNone )) (hc' := (wNone )) (hs' := (wSym order_g images_g looks_g twins_g (.ref 5) wells_l next_l ways_l)) (Symmetry_lowest_c hx) ok_mSymmetry_lowest lk9_48 rfl (Sub.list rfl rfl) (Aft.list rfl rfl rfl rfl) (Nat.le_trans (by decide : 1 + 1 ≤ 4) hZ) hC hL (Nat.le_of_ble_eq_true rfl) (by decide +kernel) ?_
  show V mSymmetry_begin Z cells slots 51 [some (.ref 0), none, none, some (.int v3), some (.int v4), some (.int v5), none] [.int x1] (wSym order_g images_g looks_g twins_g (.ref 5) wells_l next_l ways_l)
  obtain ⟨g2, h⟩ := gd_some h
  obtain ⟨g3, h⟩ := gd_some h
  refine V.blk [(.istore 6, 0, 0, 0, 0), (.aload_n 0, 0, 0, 0, 0), (.getfield 9, 9, 0, 0, 0), (.iload 5, 0, 0, 0, 0), (.iload 6, 0, 0, 0, 0), (.iastore, 0, 0, 0, 0), (.iload_n 3, 0, 0, 0, 0), (.iconst 1, 0, 0, 0, 1), (.iload 6, 0, 0, 0, 0), (.ishl, 0, 0, 0, 0), (.ior, 0, 0, 0, 0), (.istore_n 3, 0, 0, 0, 0), (.iload 4, 0, 0, 0, 0), (.aload_n 0, 0, 0, 0, 0), (.getfield 29, 9, 4, 0, 0), (.getfield 51, 2, 1, 0, 0), (.iload 6, 0, 0, 0, 0), (.iaload, 0, 0, 0, 0), (.ior, 0, 0, 0, 0), (.istore 4, 0, 0, 0, 0), (.iinc 5 1, 0, 0, 0, 1), (.goto (-72), 15, 0, 0, 0)] (by decide +kernel) (pc' := 15) (l' := [some (.ref 0), none, none, some (.int (v3 ||| ((1 : Int32) <<< (x1 &&& 31)))), some (.int (v4 ||| (next_l (x1 : Int32).toNatClampNeg))), some (.int (v5 + 1)), some (.int x1)]) (st' := []) (hs' := (wSym (upd order_g (v5 : Int32).toNatClampNeg x1) images_g looks_g twins_g (.ref 5) wells_l next_l ways_l)) rfl ⟨g2, g3, trivial⟩ rfl ?_
  replace h := Option.some.inj h
  subst h
  refine V.weak [true, true, true, true, true, true, false] (l' := [some (.ref 0), none, none, some (.int (v3 ||| ((1 : Int32) <<< (x1 &&& 31)))), some (.int (v4 ||| (next_l (x1 : Int32).toNatClampNeg))), some (.int (v5 + 1)), none]) rfl rfl ?_
  exact kI (v3 ||| ((1 : Int32) <<< (x1 &&& 31)), v4 ||| (next_l (x1 : Int32).toNatClampNeg), v5 + 1, upd order_g (v5 : Int32).toNatClampNeg x1) rfl

set_option maxHeartbeats 4000000 in
set_option maxRecDepth 20000 in
theorem Symmetry_begin_L15_v {Z : VZ} {cells slots : Nat} (hZ : 4 ≤ Z.1) (hC : cells ≤ Z.2.1) (hL : slots ≤ Z.2.2.1) {images_g : Nat → Int32} {looks_g : Nat → Int64} {twins_g : Nat → Int32} {wells_l : Int32} {next_l : Nat → Int32} {ways_l : Nat → Int32}  (s15 : Int32 × Int32 × Int32 × (Nat → Int32)) (y : (Int32 × Int32 × Int32 × (Nat → Int32)) ⊕ (Nat → Int32)) (h : Symmetry_begin_L15 wells_l next_l s15 = some y)  (kI : ∀ s' : Int32 × Int32 × Int32 × (Nat → Int32), y = .inl s' → V mSymmetry_begin Z cells slots 15 [some (.ref 0), none, none, some (.int s'.1), some (.int s'.2.1), some (.int s'.2.2.1), none] [] (wSym s'.2.2.2 images_g looks_g twins_g (.ref 5) wells_l next_l ways_l)) (kR0 : ∀ r : Nat → Int32, y = .inr r → V mSymmetry_begin Z cells slots 90 [some (.ref 0), none, none, none, none, none, none] [] (wSym r images_g looks_g twins_g (.ref 5) wells_l next_l ways_l)) :
    V mSymmetry_begin Z cells slots 15 [some (.ref 0), none, none, some (.int s15.1), some (.int s15.2.1), some (.int s15.2.2.1), none] [] (wSym s15.2.2.2 images_g looks_g twins_g (.ref 5) wells_l next_l ways_l) := by
  unfold Symmetry_begin_L15 at h
  refine V.blk [(.iload 5, 0, 0, 0, 0), (.aload_n 0, 0, 0, 0, 0), (.getfield 29, 9, 4, 0, 0), (.getfield 33, 2, 0, 0, 0)] (by decide +kernel) (pc' := 24) (l' := [some (.ref 0), none, none, some (.int s15.1), some (.int s15.2.1), some (.int s15.2.2.1), none]) (st' := [.int wells_l, .int s15.2.2.1]) (hs' := (wSym s15.2.2.2 images_g looks_g twins_g (.ref 5) wells_l next_l ways_l)) rfl trivial rfl ?_
  refine V.ic_ge (tgt := 90) 66 (by decide +kernel) (by decide +kernel) (fun c2 => ?_) (fun c2 => ?_)
  · replace h := if_t h c2
    refine V.blk [(.iload 4, 0, 0, 0, 0), (.iload_n 3, 0, 0, 0, 0), (.iconst (-1), 0, 0, 0, (-1)), (.ixor, 0, 0, 0, 0), (.iand, 0, 0, 0, 0)] (by decide +kernel) (pc' := 33) (l' := [some (.ref 0), none, none, some (.int s15.1), some (.int s15.2.1), some (.int s15.2.2.1), none]) (st' := [.int (s15.2.1 &&& (s15.1 ^^^ (-1)))]) (hs' := (wSym s15.2.2.2 images_g looks_g twins_g (.ref 5) wells_l next_l ways_l)) rfl trivial rfl ?_
    refine V.if_eq (tgt := 45) 12 (by decide +kernel) (by decide +kernel) (fun c1 => ?_) (fun c1 => ?_)
    · replace h := if_t h c1
      refine V.blk [(.iload_n 3, 0, 0, 0, 0), (.iconst (-1), 0, 0, 0, (-1)), (.ixor, 0, 0, 0, 0)] (by decide +kernel) (pc' := 48) (l' := [some (.ref 0), none, none, some (.int s15.1), some (.int s15.2.1), some (.int s15.2.2.1), none]) (st' := [.int (s15.1 ^^^ (-1))]) (hs' := (wSym s15.2.2.2 images_g looks_g twins_g (.ref 5) wells_l next_l ways_l)) rfl trivial rfl ?_
      exact Symmetry_begin_L15_J48_v hZ hC hL y h kI kR0
    · replace h := if_f h c1
      refine V.blk [(.iload 4, 0, 0, 0, 0), (.iload_n 3, 0, 0, 0, 0), (.iconst (-1), 0, 0, 0, (-1)), (.ixor, 0, 0, 0, 0), (.iand, 0, 0, 0, 0), (.goto 6, 48, 0, 0, 0)] (by decide +kernel) (pc' := 48) (l' := [some (.ref 0), none, none, some (.int s15.1), some (.int s15.2.1), some (.int s15.2.2.1), none]) (st' := [.int (s15.2.1 &&& (s15.1 ^^^ (-1)))]) (hs' := (wSym s15.2.2.2 images_g looks_g twins_g (.ref 5) wells_l next_l ways_l)) rfl trivial rfl ?_
      exact Symmetry_begin_L15_J48_v hZ hC hL y h kI kR0
  · replace h := if_f h c2
    replace h := Option.some.inj h
    subst h
    refine V.weak [true, true, true, false, false, false, true] (l' := [some (.ref 0), none, none, none, none, none, none]) rfl rfl ?_
    exact kR0 s15.2.2.2 rfl

set_option maxHeartbeats 4000000 in
set_option maxRecDepth 20000 in
theorem Symmetry_begin_c {order_g : Nat → Int32} {images_g : Nat → Int32} {looks_g : Nat → Int64} {twins_g : Nat → Int32} {wells_l : Int32} {next_l : Nat → Int32} {ways_l : Nat → Int32} {a2 : Int32} {y : (Nat → Int32) × (Nat → Int64) × (Nat → Int32)} (h : Symmetry_begin order_g looks_g twins_g wells_l next_l ways_l a2 = some y) :
    C mSymmetry_begin 4 0 0 kpT [.ref 0, .ref 5, .int a2] (wSym order_g images_g looks_g twins_g (.ref 5) wells_l next_l ways_l) none (wSym y.1 images_g y.2.1 y.2.2 (.ref 5) wells_l next_l ways_l) := by
  refine C.of rfl rfl (Nat.le_of_ble_eq_true rfl) rfl rfl ?_
  show V mSymmetry_begin (4, 0, 0, kpT, none, (wSym y.1 images_g y.2.1 y.2.2 (.ref 5) wells_l next_l ways_l), 0, 0) 0 0 0 [some (.ref 0), some (.ref 5), some (.int a2), none, none, none, none] [] (wSym order_g images_g looks_g twins_g (.ref 5) wells_l next_l ways_l)
  unfold Symmetry_begin at h
  refine V.blk [(.aload_n 0, 0, 0, 0, 0), (.aload_n 1, 0, 0, 0, 0), (.putfield 29, 9, 4, 1, 0), (.iconst 0, 0, 0, 0, 0), (.istore_n 3, 0, 0, 0, 0), (.iconst 1, 0, 0, 0, 1), (.iload_n 2, 0, 0, 0, 0), (.ishl, 0, 0, 0, 0), (.istore 4, 0, 0, 0, 0), (.iconst 0, 0, 0, 0, 0), (.istore 5, 0, 0, 0, 0)] (by decide +kernel) (pc' := 15) (l' := [some (.ref 0), some (.ref 5), some (.int a2), some (.int 0), some (.int ((1 : Int32) <<< (a2 &&& 31))), some (.int 0), none]) (st' := []) (hs' := (wSym order_g images_g looks_g twins_g (.ref 5) wells_l next_l ways_l)) rfl trivial rfl ?_
  refine V.weak [true, false, false, true, true, true, true] (l' := [some (.ref 0), none, none, some (.int 0), some (.int ((1 : Int32) <<< (a2 &&& 31))), some (.int 0), none]) rfl rfl ?_
  obtain ⟨x1, hx, h⟩ := ob_some h
  refine lp_V (A := fun s15 : Int32 × Int32 × Int32 × (Nat → Int32) => V mSymmetry_begin (4, 0, 0, kpT, none, (wSym y.1 images_g y.2.1 y.2.2 (.ref 5) wells_l next_l ways_l), 0, 0) 0 0 15 [some (.ref 0), none, none, some (.int s15.1), some (.int s15.2.1), some (.int s15.2.2.1), none] [] (wSym s15.2.2.2 images_g looks_g twins_g (.ref 5) wells_l next_l ways_l)) (B := fun x1 : Nat → Int32 => V mSymmetry_begin (4, 0, 0, kpT, none, (wSym y.1 images_g y.2.1 y.2.2 (.ref 5) wells_l next_l ways_l), 0, 0) 0 0 90 [some (.ref 0), none, none, none, none, none, none] [] (wSym x1 images_g looks_g twins_g (.ref 5) wells_l next_l ways_l)) (s := (0, (1 : Int32) <<< (a2 &&& 31), 0, order_g)) (fun sq yq hq kIq kRq => Symmetry_begin_L15_v (Z := (4, 0, 0, kpT, none, (wSym y.1 images_g y.2.1 y.2.2 (.ref 5) wells_l next_l ways_l), 0, 0)) (cells := 0) (slots := 0) (Nat.le_refl _) (Nat.le_refl _) (Nat.le_refl _) sq yq hq kIq (fun r e => kRq r e)) hx ?_
  show V mSymmetry_begin (4, 0, 0, kpT, none, (wSym y.1 images_g y.2.1 y.2.2 (.ref 5) wells_l next_l ways_l), 0, 0) 0 0 90 [some (.ref 0), none, none, none, none, none, none] [] (wSym x1 images_g looks_g twins_g (.ref 5) wells_l next_l ways_l)
  refine V.blk [(.iconst 0, 0, 0, 0, 0), (.istore 5, 0, 0, 0, 0)] (by decide +kernel) (pc' := 93) (l' := [some (.ref 0), none, none, none, none, some (.int 0), none]) (st' := []) (hs' := (wSym x1 images_g looks_g twins_g (.ref 5) wells_l next_l ways_l)) rfl trivial rfl ?_
  obtain ⟨x2, hx, h⟩ := ob_some h
  refine lp_V (A := fun s93 : Int32 × (Nat → Int64) × (Nat → Int32) => V mSymmetry_begin (4, 0, 0, kpT, none, (wSym y.1 images_g y.2.1 y.2.2 (.ref 5) wells_l next_l ways_l), 0, 0) 0 0 93 [some (.ref 0), none, none, none, none, some (.int s93.1), none] [] (wSym x1 images_g s93.2.1 s93.2.2 (.ref 5) wells_l next_l ways_l)) (B := fun x2 : (Nat → Int64) × (Nat → Int32) => V mSymmetry_begin (4, 0, 0, kpT, none, (wSym y.1 images_g y.2.1 y.2.2 (.ref 5) wells_l next_l ways_l), 0, 0) 0 0 137 [none, none, none, none, none, none, none] [] (wSym x1 images_g x2.1 x2.2 (.ref 5) wells_l next_l ways_l)) (s := (0, looks_g, twins_g)) (fun sq yq hq kIq kRq => Symmetry_begin_L93_v (Z := (4, 0, 0, kpT, none, (wSym y.1 images_g y.2.1 y.2.2 (.ref 5) wells_l next_l ways_l), 0, 0)) (cells := 0) (slots := 0) (Nat.le_refl _) (Nat.le_refl _) (Nat.le_refl _) sq yq hq kIq (fun r e => kRq r e)) hx ?_
  show V mSymmetry_begin (4, 0, 0, kpT, none, (wSym y.1 images_g y.2.1 y.2.2 (.ref 5) wells_l next_l ways_l), 0, 0) 0 0 137 [none, none, none, none, none, none, none] [] (wSym x1 images_g x2.1 x2.2 (.ref 5) wells_l next_l ways_l)
  replace h := Option.some.inj h
  subst h
  exact V.vret rfl (Nat.le_refl _) (Nat.le_refl _) (by decide +kernel)

set_option maxHeartbeats 4000000 in
set_option maxRecDepth 20000 in
theorem Symmetry_howMany_L10_v {Z : VZ} {cells slots : Nat} (hZ : 54 ≤ Z.1) (hC : cells ≤ Z.2.1) (hL : slots ≤ Z.2.2.1) {order_g : Nat → Int32} {looks_g : Nat → Int64} {twins_g : Nat → Int32} {wells_l : Int32} {next_l : Nat → Int32} {ways_l : Nat → Int32}  (s10 : Int32 × Int32 × (Nat → Int32)) (y : (Int32 × Int32 × (Nat → Int32)) ⊕ (Int32 × (Nat → Int32))) (h : Symmetry_howMany_L10 order_g looks_g twins_g wells_l next_l s10 = some y)  (kI : ∀ s' : Int32 × Int32 × (Nat → Int32), y = .inl s' → V mSymmetry_howMany Z cells slots 10 [some (.ref 0), none, some (.int s'.1), some (.int s'.2.1)] [] (wSym order_g s'.2.2 looks_g twins_g (.ref 5) wells_l next_l ways_l)) (kR0 : ∀ r : Int32 × (Nat → Int32), y = .inr r → V mSymmetry_howMany Z cells slots 38 [none, none, some (.int r.1), none] [] (wSym order_g r.2 looks_g twins_g (.ref 5) wells_l next_l ways_l)) :
    V mSymmetry_howMany Z cells slots 10 [some (.ref 0), none, some (.int s10.1), some (.int s10.2.1)] [] (wSym order_g s10.2.2 looks_g twins_g (.ref 5) wells_l next_l ways_l) := by
  unfold Symmetry_howMany_L10 at h
  refine V.blk [(.iload_n 3, 0, 0, 0, 0), (.aload_n 0, 0, 0, 0, 0), (.getfield 29, 9, 4, 0, 0), (.getfield 33, 2, 0, 0, 0)] (by decide +kernel) (pc' := 18) (l' := [some (.ref 0), none, some (.int s10.1), some (.int s10.2.1)]) (st' := [.int wells_l, .int s10.2.1]) (hs' := (wSym order_g s10.2.2 looks_g twins_g (.ref 5) wells_l next_l ways_l)) rfl trivial rfl ?_
  refine V.ic_ge (tgt := 38) 20 (by decide +kernel) (by decide +kernel) (fun c3 => ?_) (fun c3 => ?_)
  · replace h := if_t h c3
    refine V.blk [(.iload_n 2, 0, 0, 0, 0), (.aload_n 0, 0, 0, 0, 0), (.iload_n 3, 0, 0, 0, 0)] (by decide +kernel) (pc' := 24) (l' := [some (.ref 0), none, some (.int s10.1), some (.int s10.2.1)]) (st' := [.int s10.2.1, .ref 0, .int s10.1]) (hs' := (wSym order_g s10.2.2 looks_g twins_g (.ref 5) wells_l next_l ways_l)) rfl trivial rfl ?_
    obtain ⟨x1, hx, h⟩ := ob_some h
    refine V.callV (ρ := fun j => j) (j0 := 0) (as' := [.int s10.2.1]) (rest := [.int s10.1]) (hc := (wSym order_g s10.2.2 looks_g twins_g (.ref 5) wells_l next_l ways_l)) (hc' := (wSym order_g x1.2 looks_g twins_g (.ref 5) wells_l next_l ways_l)) (hs' := (wSym order_g x1.2 looks_g twins_g (.ref 5) wells_l next_l ways_l)) (Symmetry_places_c hx) ok_mSymmetry_places lk9_39 rfl (Sub.self _) (Aft.self rfl) ⟨_, _, rfl, by decide, rfl⟩ (Nat.le_trans (by decide : 53 + 1 ≤ 54) hZ) hC hL (Nat.le_of_ble_eq_true rfl) (by decide +kernel) ?_
    show V mSymmetry_howMany Z cells slots 27 [some (.ref 0), none, some (.int s10.1), some (.int s10.2.1)] [.int x1.1, .int s10.1] (wSym order_g x1.2 looks_g twins_g (.ref 5) wells_l next_l ways_l)
    obtain ⟨x2, hx, h⟩ := ob_some h
    refine V.callS (ρ := fun j => [].getD j 0) (as' := [.int x1.1]) (rest := [.int s10.1]) (hc := (wNone )) (hc' := (wNone )) (hs' := (wSym order_g x1.2 looks_g twins_g (.ref 5) wells_l next_l ways_l)) (Integer_bitCount_c hx) ok_mInteger_bitCount lk9_43 rfl (Sub.list rfl rfl) (Aft.list rfl rfl rfl rfl) (Nat.le_trans (by decide : 1 + 1 ≤ 54) hZ) hC hL (Nat.le_of_ble_eq_true rfl) (by decide +kernel) ?_
    show V mSymmetry_howMany Z cells slots 30 [some (.ref 0), none, some (.int s10.1), some (.int s10.2.1)] [.int x2, .int s10.1] (wSym order_g x1.2 looks_g twins_g (.ref 5) wells_l next_l ways_l)
    refine V.blk [(.imul, 0, 0, 0, 0), (.istore_n 2, 0, 0, 0, 0), (.iinc 3 1, 0, 0, 0, 1), (.goto (-25), 10, 0, 0, 0)] (by decide +kernel) (pc' := 10) (l' := [some (.ref 0), none, some (.int (s10.1 * x2)), some (.int (s10.2.1 + 1))]) (st' := []) (hs' := (wSym order_g x1.2 looks_g twins_g (.ref 5) wells_l next_l ways_l)) rfl trivial rfl ?_
    replace h := Option.some.inj h
    subst h
    exact kI (s10.1 * x2, s10.2.1 + 1, x1.2) rfl
  · replace h := if_f h c3
    replace h := Option.some.inj h
    subst h
    refine V.weak [false, true, true, false] (l' := [none, none, some (.int s10.1), none]) rfl rfl ?_
    exact kR0 (s10.1, s10.2.2) rfl

set_option maxHeartbeats 4000000 in
set_option maxRecDepth 20000 in
theorem Symmetry_howMany_c {order_g : Nat → Int32} {images_g : Nat → Int32} {looks_g : Nat → Int64} {twins_g : Nat → Int32} {wells_l : Int32} {next_l : Nat → Int32} {ways_l : Nat → Int32}  {y : Int32 × (Nat → Int32) × (Nat → Int32) × (Nat → Int64) × (Nat → Int32)} (h : Symmetry_howMany order_g images_g looks_g twins_g wells_l next_l ways_l = some y) :
    C mSymmetry_howMany 54 0 0 kpT [.ref 0, .ref 5] (wSym order_g images_g looks_g twins_g (.ref 5) wells_l next_l ways_l) (some (.int y.1)) (wSym y.2.1 y.2.2.1 y.2.2.2.1 y.2.2.2.2 (.ref 5) wells_l next_l ways_l) := by
  refine C.of rfl rfl (Nat.le_of_ble_eq_true rfl) rfl rfl ?_
  show V mSymmetry_howMany (54, 0, 0, kpT, some (.int y.1), (wSym y.2.1 y.2.2.1 y.2.2.2.1 y.2.2.2.2 (.ref 5) wells_l next_l ways_l), 0, 0) 0 0 0 [some (.ref 0), some (.ref 5), none, none] [] (wSym order_g images_g looks_g twins_g (.ref 5) wells_l next_l ways_l)
  unfold Symmetry_howMany at h
  refine V.blk [(.aload_n 0, 0, 0, 0, 0), (.aload_n 1, 0, 0, 0, 0), (.iconst 0, 0, 0, 0, 0)] (by decide +kernel) (pc' := 3) (l' := [some (.ref 0), some (.ref 5), none, none]) (st' := [.int 0, .ref 5, .ref 0]) (hs' := (wSym order_g images_g looks_g twins_g (.ref 5) wells_l next_l ways_l)) rfl trivial rfl ?_
  obtain ⟨x1, hx, h⟩ := ob_some h
  refine V.callV (ρ := fun j => j) (j0 := 0) (as' := [.ref 5, .int 0]) (rest := []) (hc := (wSym order_g images_g looks_g twins_g (.ref 5) wells_l next_l ways_l)) (hc' := (wSym x1.1 images_g x1.2.1 x1.2.2 (.ref 5) wells_l next_l ways_l)) (hs' := (wSym x1.1 images_g x1.2.1 x1.2.2 (.ref 5) wells_l next_l ways_l)) (Symmetry_begin_c hx) ok_mSymmetry_begin lk9_25 rfl (Sub.self _) (Aft.self rfl) ⟨_, _, rfl, by decide, rfl⟩ (Nat.le_trans (by decide : 4 + 1 ≤ 54) (Nat.le_refl _)) (Nat.le_refl _) (Nat.le_refl _) (Nat.le_of_ble_eq_true rfl) (by decide +kernel) ?_
  show V mSymmetry_howMany (54, 0, 0, kpT, some (.int y.1), (wSym y.2.1 y.2.2.1 y.2.2.2.1 y.2.2.2.2 (.ref 5) wells_l next_l ways_l), 0, 0) 0 0 6 [some (.ref 0), some (.ref 5), none, none] [] (wSym x1.1 images_g x1.2.1 x1.2.2 (.ref 5) wells_l next_l ways_l)
  refine V.blk [(.iconst 1, 0, 0, 0, 1), (.istore_n 2, 0, 0, 0, 0), (.iconst 0, 0, 0, 0, 0), (.istore_n 3, 0, 0, 0, 0)] (by decide +kernel) (pc' := 10) (l' := [some (.ref 0), some (.ref 5), some (.int 1), some (.int 0)]) (st' := []) (hs' := (wSym x1.1 images_g x1.2.1 x1.2.2 (.ref 5) wells_l next_l ways_l)) rfl trivial rfl ?_
  refine V.weak [true, false, true, true] (l' := [some (.ref 0), none, some (.int 1), some (.int 0)]) rfl rfl ?_
  obtain ⟨x2, hx, h⟩ := ob_some h
  refine lp_V (A := fun s10 : Int32 × Int32 × (Nat → Int32) => V mSymmetry_howMany (54, 0, 0, kpT, some (.int y.1), (wSym y.2.1 y.2.2.1 y.2.2.2.1 y.2.2.2.2 (.ref 5) wells_l next_l ways_l), 0, 0) 0 0 10 [some (.ref 0), none, some (.int s10.1), some (.int s10.2.1)] [] (wSym x1.1 s10.2.2 x1.2.1 x1.2.2 (.ref 5) wells_l next_l ways_l)) (B := fun x2 : Int32 × (Nat → Int32) => V mSymmetry_howMany (54, 0, 0, kpT, some (.int y.1), (wSym y.2.1 y.2.2.1 y.2.2.2.1 y.2.2.2.2 (.ref 5) wells_l next_l ways_l), 0, 0) 0 0 38 [none, none, some (.int x2.1), none] [] (wSym x1.1 x2.2 x1.2.1 x1.2.2 (.ref 5) wells_l next_l ways_l)) (s := (1, 0, images_g)) (fun sq yq hq kIq kRq => Symmetry_howMany_L10_v (Z := (54, 0, 0, kpT, some (.int y.1), (wSym y.2.1 y.2.2.1 y.2.2.2.1 y.2.2.2.2 (.ref 5) wells_l next_l ways_l), 0, 0)) (cells := 0) (slots := 0) (Nat.le_refl _) (Nat.le_refl _) (Nat.le_refl _) sq yq hq kIq (fun r e => kRq r e)) hx ?_
  show V mSymmetry_howMany (54, 0, 0, kpT, some (.int y.1), (wSym y.2.1 y.2.2.1 y.2.2.2.1 y.2.2.2.2 (.ref 5) wells_l next_l ways_l), 0, 0) 0 0 38 [none, none, some (.int x2.1), none] [] (wSym x1.1 x2.2 x1.2.1 x1.2.2 (.ref 5) wells_l next_l ways_l)
  refine V.blk [(.iload_n 2, 0, 0, 0, 0)] (by decide +kernel) (pc' := 39) (l' := [none, none, some (.int x2.1), none]) (st' := [.int x2.1]) (hs' := (wSym x1.1 x2.2 x1.2.1 x1.2.2 (.ref 5) wells_l next_l ways_l)) rfl trivial rfl ?_
  replace h := Option.some.inj h
  subst h
  exact V.iret rfl (Nat.le_refl _) (Nat.le_refl _) (by decide +kernel)

set_option maxHeartbeats 4000000 in
set_option maxRecDepth 20000 in
theorem Symmetry_placesOf_c {order_g : Nat → Int32} {images_g : Nat → Int32} {looks_g : Nat → Int64} {twins_g : Nat → Int32} {wells_l : Int32} {next_l : Nat → Int32} {ways_l : Nat → Int32} {a2 : Int32} {y : Int32 × (Nat → Int32) × (Nat → Int32) × (Nat → Int64) × (Nat → Int32)} (h : Symmetry_placesOf order_g images_g looks_g twins_g wells_l next_l ways_l a2 = some y) :
    C mSymmetry_placesOf 54 0 0 kpT [.ref 0, .ref 5, .int a2] (wSym order_g images_g looks_g twins_g (.ref 5) wells_l next_l ways_l) (some (.int y.1)) (wSym y.2.1 y.2.2.1 y.2.2.2.1 y.2.2.2.2 (.ref 5) wells_l next_l ways_l) := by
  refine C.of rfl rfl (Nat.le_of_ble_eq_true rfl) rfl rfl ?_
  show V mSymmetry_placesOf (54, 0, 0, kpT, some (.int y.1), (wSym y.2.1 y.2.2.1 y.2.2.2.1 y.2.2.2.2 (.ref 5) wells_l next_l ways_l), 0, 0) 0 0 0 [some (.ref 0), some (.ref 5), some (.int a2)] [] (wSym order_g images_g looks_g twins_g (.ref 5) wells_l next_l ways_l)
  unfold Symmetry_placesOf at h
  refine V.blk [(.aload_n 0, 0, 0, 0, 0), (.aload_n 1, 0, 0, 0, 0), (.iload_n 2, 0, 0, 0, 0)] (by decide +kernel) (pc' := 3) (l' := [some (.ref 0), some (.ref 5), some (.int a2)]) (st' := [.int a2, .ref 5, .ref 0]) (hs' := (wSym order_g images_g looks_g twins_g (.ref 5) wells_l next_l ways_l)) rfl trivial rfl ?_
  obtain ⟨x1, hx, h⟩ := ob_some h
  refine V.callV (ρ := fun j => j) (j0 := 0) (as' := [.ref 5, .int a2]) (rest := []) (hc := (wSym order_g images_g looks_g twins_g (.ref 5) wells_l next_l ways_l)) (hc' := (wSym x1.1 images_g x1.2.1 x1.2.2 (.ref 5) wells_l next_l ways_l)) (hs' := (wSym x1.1 images_g x1.2.1 x1.2.2 (.ref 5) wells_l next_l ways_l)) (Symmetry_begin_c hx) ok_mSymmetry_begin lk9_25 rfl (Sub.self _) (Aft.self rfl) ⟨_, _, rfl, by decide, rfl⟩ (Nat.le_trans (by decide : 4 + 1 ≤ 54) (Nat.le_refl _)) (Nat.le_refl _) (Nat.le_refl _) (Nat.le_of_ble_eq_true rfl) (by decide +kernel) ?_
  show V mSymmetry_placesOf (54, 0, 0, kpT, some (.int y.1), (wSym y.2.1 y.2.2.1 y.2.2.2.1 y.2.2.2.2 (.ref 5) wells_l next_l ways_l), 0, 0) 0 0 6 [some (.ref 0), some (.ref 5), some (.int a2)] [] (wSym x1.1 images_g x1.2.1 x1.2.2 (.ref 5) wells_l next_l ways_l)
  refine V.blk [(.aload_n 0, 0, 0, 0, 0), (.iconst 0, 0, 0, 0, 0)] (by decide +kernel) (pc' := 8) (l' := [some (.ref 0), some (.ref 5), some (.int a2)]) (st' := [.int 0, .ref 0]) (hs' := (wSym x1.1 images_g x1.2.1 x1.2.2 (.ref 5) wells_l next_l ways_l)) rfl trivial rfl ?_
  obtain ⟨x2, hx, h⟩ := ob_some h
  refine V.callV (ρ := fun j => j) (j0 := 0) (as' := [.int 0]) (rest := []) (hc := (wSym x1.1 images_g x1.2.1 x1.2.2 (.ref 5) wells_l next_l ways_l)) (hc' := (wSym x1.1 x2.2 x1.2.1 x1.2.2 (.ref 5) wells_l next_l ways_l)) (hs' := (wSym x1.1 x2.2 x1.2.1 x1.2.2 (.ref 5) wells_l next_l ways_l)) (Symmetry_places_c hx) ok_mSymmetry_places lk9_39 rfl (Sub.self _) (Aft.self rfl) ⟨_, _, rfl, by decide, rfl⟩ (Nat.le_trans (by decide : 53 + 1 ≤ 54) (Nat.le_refl _)) (Nat.le_refl _) (Nat.le_refl _) (Nat.le_of_ble_eq_true rfl) (by decide +kernel) ?_
  show V mSymmetry_placesOf (54, 0, 0, kpT, some (.int y.1), (wSym y.2.1 y.2.2.1 y.2.2.2.1 y.2.2.2.2 (.ref 5) wells_l next_l ways_l), 0, 0) 0 0 11 [some (.ref 0), some (.ref 5), some (.int a2)] [.int x2.1] (wSym x1.1 x2.2 x1.2.1 x1.2.2 (.ref 5) wells_l next_l ways_l)
  replace h := Option.some.inj h
  subst h
  exact V.iret rfl (Nat.le_refl _) (Nat.le_refl _) (by decide +kernel)

set_option maxHeartbeats 4000000 in
set_option maxRecDepth 20000 in
theorem Symmetry_beginN_L93_v {Z : VZ} {cells slots : Nat} (hZ : 4 ≤ Z.1) (hC : cells ≤ Z.2.1) (hL : slots ≤ Z.2.2.1) {order_g : Nat → Int32} {images_g : Nat → Int32} {wells_l : Int32} {next_l : Nat → Int32} {ways_l : Nat → Int32}  (s93 : Int32 × (Nat → Int64) × (Nat → Int32)) (y : (Int32 × (Nat → Int64) × (Nat → Int32)) ⊕ ((Nat → Int64) × (Nat → Int32))) (h : Symmetry_beginN_L93 wells_l next_l ways_l s93 = some y)  (kI : ∀ s' : Int32 × (Nat → Int64) × (Nat → Int32), y = .inl s' → V mSymmetry_begin Z cells slots 93 [some (.ref 0), none, none, none, none, some (.int s'.1), none] [] (wSym order_g images_g s'.2.1 s'.2.2 (.ref 5) wells_l next_l ways_l)) (kR0 : ∀ r : (Nat → Int64) × (Nat → Int32), y = .inr r → V mSymmetry_begin Z cells slots 137 [none, none, none, none, none, none, none] [] (wSym order_g images_g r.1 r.2 (.ref 5) wells_l next_l ways_l)) :
    V mSymmetry_begin Z cells slots 93 [some (.ref 0), none, none, none, none, some (.int s93.1), none] [] (wSym order_g images_g s93.2.1 s93.2.2 (.ref 5) wells_l next_l ways_l) := by
  unfold Symmetry_beginN_L93 at h
  refine V.blk [(.iload 5, 0, 0, 0, 0), (.aload_n 0, 0, 0, 0, 0), (.getfield 29, 9, 4, 0, 0), (.getfield 33, 2, 0, 0, 0)] (by decide +kernel) (pc' := 102) (l' := [some (.ref 0), none, none, none, none, some (.int s93.1), none]) (st' := [.int wells_l, .int s93.1]) (hs' := (wSym order_g images_g s93.2.1 s93.2.2 (.ref 5) wells_l next_l ways_l)) rfl trivial rfl ?_
  refine V.ic_ge (tgt := 137) 35 (by decide +kernel) (by decide +kernel) (fun c5 => ?_) (fun c5 => ?_)
  · replace h := if_t h c5
    refine V.blk [(.aload_n 0, 0, 0, 0, 0), (.getfield 18, 9, 2, 0, 0), (.iload 5, 0, 0, 0, 0), (.aload_n 0, 0, 0, 0, 0), (.iload 5, 0, 0, 0, 0)] (by decide +kernel) (pc' := 114) (l' := [some (.ref 0), none, none, none, none, some (.int s93.1), none]) (st' := [.int s93.1, .ref 0, .int s93.1, .ref 3]) (hs' := (wSym order_g images_g s93.2.1 s93.2.2 (.ref 5) wells_l next_l ways_l)) rfl trivial rfl ?_
    obtain ⟨x1, hx, h⟩ := ob_some h
    refine V.callV (ρ := fun j => j) (j0 := 0) (as' := [.int s93.1]) (rest := [.int s93.1, .ref 3]) (hc := (wSym order_g images_g s93.2.1 s93.2.2 (.ref 5) wells_l next_l ways_l)) (hc' := (wSym order_g images_g s93.2.1 s93.2.2 (.ref 5) wells_l next_l ways_l)) (hs' := (wSym order_g images_g s93.2.1 s93.2.2 (.ref 5) wells_l next_l ways_l)) (Symmetry_look_c hx) ok_mSymmetry_look lk9_54 rfl (Sub.self _) (Aft.self rfl) ⟨_, _, rfl, by decide, rfl⟩ (Nat.le_trans (by decide : 3 + 1 ≤ 4) hZ) hC hL (Nat.le_of_ble_eq_true rfl) (by decide +kernel) ?_
    show V mSymmetry_begin Z cells slots 117 [some (.ref 0), none, none, none, none, some (.int s93.1), none] [.long x1, .int s93.1, .ref 3] (wSym order_g images_g s93.2.1 s93.2.2 (.ref 5) wells_l next_l ways_l)
    obtain ⟨g2, h⟩ := gd_some h
    refine V.blk [(.lastore, 0, 0, 0, 0), (.aload_n 0, 0, 0, 0, 0), (.getfield 22, 9, 3, 0, 0), (.iload 5, 0, 0, 0, 0), (.aload_n 0, 0, 0, 0, 0), (.iload 5, 0, 0, 0, 0)] (by decide +kernel) (pc' := 127) (l' := [some (.ref 0), none, none, none, none, some (.int s93.1), none]) (st' := [.int s93.1, .ref 0, .int s93.1, .ref 4]) (hs' := (wSym order_g images_g (vp_updL s93.2.1 (s93.1 : Int32).toNatClampNeg x1) s93.2.2 (.ref 5) wells_l next_l ways_l)) rfl ⟨g2, trivial⟩ rfl ?_
    obtain ⟨x3, hx, h⟩ := ob_some h
    refine V.callV (ρ := fun j => j) (j0 := 0) (as' := [.int s93.1]) (rest := [.int s93.1, .ref 4]) (hc := (wSym order_g images_g (vp_updL s93.2.1 (s93.1 : Int32).toNatClampNeg x1) s93.2.2 (.ref 5) wells_l next_l ways_l)) (hc' := (wSym order_g images_g (vp_updL s93.2.1 (s93.1 : Int32).toNatClampNeg x1) s93.2.2 (.ref 5) wells_l next_l ways_l)) (hs' := (wSym order_g images_g (vp_updL s93.2.1 (s93.1 : Int32).toNatClampNeg x1) s93.2.2 (.ref 5) wells_l next_l ways_l)) (Symmetry_twinsOf_c hx) ok_mSymmetry_twinsOf lk9_58 rfl (Sub.self _) (Aft.self rfl) ⟨_, _, rfl, by decide, rfl⟩ (Nat.le_trans (by decide : 1 + 1 ≤ 4) hZ) hC hL (Nat.le_of_ble_eq_true rfl) (by decide +kernel) ?_
    show V mSymmetry_begin Z cells slots 130 [some (.ref 0), none, none, none, none, some (.int s93.1), none] [.int x3, .int s93.1, .ref 4] (wSym order_g images_g (vp_updL s93.2.1 (s93.1 : Int32).toNatClampNeg x1) s93.2.2 (.ref 5) wells_l next_l ways_l)
    obtain ⟨g4, h⟩ := gd_some h
    refine V.blk [(.iastore, 0, 0, 0, 0), (.iinc 5 1, 0, 0, 0, 1), (.goto (-41), 93, 0, 0, 0)] (by decide +kernel) (pc' := 93) (l' := [some (.ref 0), none, none, none, none, some (.int (s93.1 + 1)), none]) (st' := []) (hs' := (wSym order_g images_g (vp_updL s93.2.1 (s93.1 : Int32).toNatClampNeg x1) (upd s93.2.2 (s93.1 : Int32).toNatClampNeg x3) (.ref 5) wells_l next_l ways_l)) rfl ⟨g4, trivial⟩ rfl ?_
    replace h := Option.some.inj h
    subst h
    exact kI (s93.1 + 1, vp_updL s93.2.1 (s93.1 : Int32).toNatClampNeg x1, upd s93.2.2 (s93.1 : Int32).toNatClampNeg x3) rfl
  · replace h := if_f h c5
    replace h := Option.some.inj h
    subst h
    refine V.weak [false, true, true, true, true, false, true] (l' := [none, none, none, none, none, none, none]) rfl rfl ?_
    exact kR0 (s93.2.1, s93.2.2) rfl

set_option maxHeartbeats 4000000 in
set_option maxRecDepth 20000 in
theorem Symmetry_beginN_L15_J48_v {Z : VZ} {cells slots : Nat} (hZ : 4 ≤ Z.1) (hC : cells ≤ Z.2.1) (hL : slots ≤ Z.2.2.1) {order_g : Nat → Int32} {images_g : Nat → Int32} {looks_g : Nat → Int64} {twins_g : Nat → Int32} {wells_l : Int32} {next_l : Nat → Int32} {ways_l : Nat → Int32} {v3 : Int32} {v4 : Int32} {v5 : Int32} {k0 : Int32} (y : (Int32 × Int32 × Int32 × (Nat → Int32)) ⊕ (Nat → Int32)) (h : Symmetry_beginN_L15_J48 v3 v4 v5 k0 order_g wells_l next_l = some y)  (kI : ∀ s' : Int32 × Int32 × Int32 × (Nat → Int32), y = .inl s' → V mSymmetry_begin Z cells slots 15 [some (.ref 0), none, none, some (.int s'.1), some (.int s'.2.1), some (.int s'.2.2.1), none] [] (wSym s'.2.2.2 images_g looks_g twins_g (.ref 5) wells_l next_l ways_l)) (kR0 : ∀ r : Nat → Int32, y = .inr r → V mSymmetry_begin Z cells slots 90 [some (.ref 0), none, none, none, none, none, none] [] (wSym r images_g looks_g twins_g (.ref 5) wells_l next_l ways_l)) :
    V mSymmetry_begin Z cells slots 48 [some (.ref 0), none, none, some (.int v3), some (.int v4), some (.int v5), none] [.int k0] (wSym order_g images_g looks_g twins_g (.ref 5) wells_l next_l ways_l) := by
  unfold Symmetry_beginN_L15_J48 at h
  obtain ⟨x1, hx, h⟩ := ob_some h
  refine V.callS (ρ := fun j => [].getD j 0) (as' := [.int k0]) (rest := []) (hc := (wNone )) (hc' := (wNone )) (hs' := (wSym order_g images_g looks_g twins_g (.ref 5) wells_l next_l ways_l)) (Symmetry_lowest_c hx) ok_mSymmetry_lowest lk9_48 rfl (Sub.list rfl rfl) (Aft.list rfl rfl rfl rfl) (Nat.le_trans (by decide : 1 + 1 ≤ 4) hZ) hC hL (Nat.le_of_ble_eq_true rfl) (by decide +kernel) ?_
  show V mSymmetry_begin Z cells slots 51 [some (.ref 0), none, none, some (.int v3), some (.int v4), some (.int v5), none] [.int x1] (wSym order_g images_g looks_g twins_g (.ref 5) wells_l next_l ways_l)
  obtain ⟨g2, h⟩ := gd_some h
  obtain ⟨g3, h⟩ := gd_some h
  refine V.blk [(.istore 6, 0, 0, 0, 0), (.aload_n 0, 0, 0, 0, 0), (.getfield 9, 9, 0, 0, 0), (.iload 5, 0, 0, 0, 0), (.iload 6, 0, 0, 0, 0), (.iastore, 0, 0, 0, 0), (.iload_n 3, 0, 0, 0, 0), (.iconst 1, 0, 0, 0, 1), (.iload 6, 0, 0, 0, 0), (.ishl, 0, 0, 0, 0), (.ior, 0, 0, 0, 0), (.istore_n 3, 0, 0, 0, 0), (.iload 4, 0, 0, 0, 0), (.aload_n 0, 0, 0, 0, 0), (.getfield 29, 9, 4, 0, 0), (.getfield 51, 2, 1, 0, 0), (.iload 6, 0, 0, 0, 0), (.iaload, 0, 0, 0, 0), (.ior, 0, 0, 0, 0), (.istore 4, 0, 0, 0, 0), (.iinc 5 1, 0, 0, 0, 1), (.goto (-72), 15, 0, 0, 0)] (by decide +kernel) (pc' := 15) (l' := [some (.ref 0), none, none, some (.int (v3 ||| ((1 : Int32) <<< (x1 &&& 31)))), some (.int (v4 ||| (next_l (x1 : Int32).toNatClampNeg))), some (.int (v5 + 1)), some (.int x1)]) (st' := []) (hs' := (wSym (upd order_g (v5 : Int32).toNatClampNeg x1) images_g looks_g twins_g (.ref 5) wells_l next_l ways_l)) rfl ⟨g2, g3, trivial⟩ rfl ?_
  replace h := Option.some.inj h
  subst h
  refine V.weak [true, true, true, true, true, true, false] (l' := [some (.ref 0), none, none, some (.int (v3 ||| ((1 : Int32) <<< (x1 &&& 31)))), some (.int (v4 ||| (next_l (x1 : Int32).toNatClampNeg))), some (.int (v5 + 1)), none]) rfl rfl ?_
  exact kI (v3 ||| ((1 : Int32) <<< (x1 &&& 31)), v4 ||| (next_l (x1 : Int32).toNatClampNeg), v5 + 1, upd order_g (v5 : Int32).toNatClampNeg x1) rfl

set_option maxHeartbeats 4000000 in
set_option maxRecDepth 20000 in
theorem Symmetry_beginN_L15_v {Z : VZ} {cells slots : Nat} (hZ : 4 ≤ Z.1) (hC : cells ≤ Z.2.1) (hL : slots ≤ Z.2.2.1) {images_g : Nat → Int32} {looks_g : Nat → Int64} {twins_g : Nat → Int32} {wells_l : Int32} {next_l : Nat → Int32} {ways_l : Nat → Int32}  (s15 : Int32 × Int32 × Int32 × (Nat → Int32)) (y : (Int32 × Int32 × Int32 × (Nat → Int32)) ⊕ (Nat → Int32)) (h : Symmetry_beginN_L15 wells_l next_l s15 = some y)  (kI : ∀ s' : Int32 × Int32 × Int32 × (Nat → Int32), y = .inl s' → V mSymmetry_begin Z cells slots 15 [some (.ref 0), none, none, some (.int s'.1), some (.int s'.2.1), some (.int s'.2.2.1), none] [] (wSym s'.2.2.2 images_g looks_g twins_g (.ref 5) wells_l next_l ways_l)) (kR0 : ∀ r : Nat → Int32, y = .inr r → V mSymmetry_begin Z cells slots 90 [some (.ref 0), none, none, none, none, none, none] [] (wSym r images_g looks_g twins_g (.ref 5) wells_l next_l ways_l)) :
    V mSymmetry_begin Z cells slots 15 [some (.ref 0), none, none, some (.int s15.1), some (.int s15.2.1), some (.int s15.2.2.1), none] [] (wSym s15.2.2.2 images_g looks_g twins_g (.ref 5) wells_l next_l ways_l) := by
  unfold Symmetry_beginN_L15 at h
  refine V.blk [(.iload 5, 0, 0, 0, 0), (.aload_n 0, 0, 0, 0, 0), (.getfield 29, 9, 4, 0, 0), (.getfield 33, 2, 0, 0, 0)] (by decide +kernel) (pc' := 24) (l' := [some (.ref 0), none, none, some (.int s15.1), some (.int s15.2.1), some (.int s15.2.2.1), none]) (st' := [.int wells_l, .int s15.2.2.1]) (hs' := (wSym s15.2.2.2 images_g looks_g twins_g (.ref 5) wells_l next_l ways_l)) rfl trivial rfl ?_
  refine V.ic_ge (tgt := 90) 66 (by decide +kernel) (by decide +kernel) (fun c2 => ?_) (fun c2 => ?_)
  · replace h := if_t h c2
    refine V.blk [(.iload 4, 0, 0, 0, 0), (.iload_n 3, 0, 0, 0, 0), (.iconst (-1), 0, 0, 0, (-1)), (.ixor, 0, 0, 0, 0), (.iand, 0, 0, 0, 0)] (by decide +kernel) (pc' := 33) (l' := [some (.ref 0), none, none, some (.int s15.1), some (.int s15.2.1), some (.int s15.2.2.1), none]) (st' := [.int (s15.2.1 &&& (s15.1 ^^^ (-1)))]) (hs' := (wSym s15.2.2.2 images_g looks_g twins_g (.ref 5) wells_l next_l ways_l)) rfl trivial rfl ?_
    refine V.if_eq (tgt := 45) 12 (by decide +kernel) (by decide +kernel) (fun c1 => ?_) (fun c1 => ?_)
    · replace h := if_t h c1
      refine V.blk [(.iload_n 3, 0, 0, 0, 0), (.iconst (-1), 0, 0, 0, (-1)), (.ixor, 0, 0, 0, 0)] (by decide +kernel) (pc' := 48) (l' := [some (.ref 0), none, none, some (.int s15.1), some (.int s15.2.1), some (.int s15.2.2.1), none]) (st' := [.int (s15.1 ^^^ (-1))]) (hs' := (wSym s15.2.2.2 images_g looks_g twins_g (.ref 5) wells_l next_l ways_l)) rfl trivial rfl ?_
      exact Symmetry_beginN_L15_J48_v hZ hC hL y h kI kR0
    · replace h := if_f h c1
      refine V.blk [(.iload 4, 0, 0, 0, 0), (.iload_n 3, 0, 0, 0, 0), (.iconst (-1), 0, 0, 0, (-1)), (.ixor, 0, 0, 0, 0), (.iand, 0, 0, 0, 0), (.goto 6, 48, 0, 0, 0)] (by decide +kernel) (pc' := 48) (l' := [some (.ref 0), none, none, some (.int s15.1), some (.int s15.2.1), some (.int s15.2.2.1), none]) (st' := [.int (s15.2.1 &&& (s15.1 ^^^ (-1)))]) (hs' := (wSym s15.2.2.2 images_g looks_g twins_g (.ref 5) wells_l next_l ways_l)) rfl trivial rfl ?_
      exact Symmetry_beginN_L15_J48_v hZ hC hL y h kI kR0
  · replace h := if_f h c2
    replace h := Option.some.inj h
    subst h
    refine V.weak [true, true, true, false, false, false, true] (l' := [some (.ref 0), none, none, none, none, none, none]) rfl rfl ?_
    exact kR0 s15.2.2.2 rfl

set_option maxHeartbeats 4000000 in
set_option maxRecDepth 20000 in
theorem Symmetry_beginN_c {order_g : Nat → Int32} {images_g : Nat → Int32} {looks_g : Nat → Int64} {twins_g : Nat → Int32} {wells_l : Int32} {next_l : Nat → Int32} {ways_l : Nat → Int32} {a2 : Int32} {y : (Nat → Int32) × (Nat → Int64) × (Nat → Int32)} (h : Symmetry_beginN order_g looks_g twins_g wells_l next_l ways_l a2 = some y) :
    C mSymmetry_begin 4 0 0 kpT [.ref 0, .ref 5, .int a2] (wSym order_g images_g looks_g twins_g .null wells_l next_l ways_l) none (wSym y.1 images_g y.2.1 y.2.2 (.ref 5) wells_l next_l ways_l) := by
  refine C.of rfl rfl (Nat.le_of_ble_eq_true rfl) rfl rfl ?_
  show V mSymmetry_begin (4, 0, 0, kpT, none, (wSym y.1 images_g y.2.1 y.2.2 (.ref 5) wells_l next_l ways_l), 0, 0) 0 0 0 [some (.ref 0), some (.ref 5), some (.int a2), none, none, none, none] [] (wSym order_g images_g looks_g twins_g .null wells_l next_l ways_l)
  unfold Symmetry_beginN at h
  refine V.blk [(.aload_n 0, 0, 0, 0, 0), (.aload_n 1, 0, 0, 0, 0), (.putfield 29, 9, 4, 1, 0), (.iconst 0, 0, 0, 0, 0), (.istore_n 3, 0, 0, 0, 0), (.iconst 1, 0, 0, 0, 1), (.iload_n 2, 0, 0, 0, 0), (.ishl, 0, 0, 0, 0), (.istore 4, 0, 0, 0, 0), (.iconst 0, 0, 0, 0, 0), (.istore 5, 0, 0, 0, 0)] (by decide +kernel) (pc' := 15) (l' := [some (.ref 0), some (.ref 5), some (.int a2), some (.int 0), some (.int ((1 : Int32) <<< (a2 &&& 31))), some (.int 0), none]) (st' := []) (hs' := (wSym order_g images_g looks_g twins_g (.ref 5) wells_l next_l ways_l)) rfl trivial rfl ?_
  refine V.weak [true, false, false, true, true, true, true] (l' := [some (.ref 0), none, none, some (.int 0), some (.int ((1 : Int32) <<< (a2 &&& 31))), some (.int 0), none]) rfl rfl ?_
  obtain ⟨x1, hx, h⟩ := ob_some h
  refine lp_V (A := fun s15 : Int32 × Int32 × Int32 × (Nat → Int32) => V mSymmetry_begin (4, 0, 0, kpT, none, (wSym y.1 images_g y.2.1 y.2.2 (.ref 5) wells_l next_l ways_l), 0, 0) 0 0 15 [some (.ref 0), none, none, some (.int s15.1), some (.int s15.2.1), some (.int s15.2.2.1), none] [] (wSym s15.2.2.2 images_g looks_g twins_g (.ref 5) wells_l next_l ways_l)) (B := fun x1 : Nat → Int32 => V mSymmetry_begin (4, 0, 0, kpT, none, (wSym y.1 images_g y.2.1 y.2.2 (.ref 5) wells_l next_l ways_l), 0, 0) 0 0 90 [some (.ref 0), none, none, none, none, none, none] [] (wSym x1 images_g looks_g twins_g (.ref 5) wells_l next_l ways_l)) (s := (0, (1 : Int32) <<< (a2 &&& 31), 0, order_g)) (fun sq yq hq kIq kRq => Symmetry_beginN_L15_v (Z := (4, 0, 0, kpT, none, (wSym y.1 images_g y.2.1 y.2.2 (.ref 5) wells_l next_l ways_l), 0, 0)) (cells := 0) (slots := 0) (Nat.le_refl _) (Nat.le_refl _) (Nat.le_refl _) sq yq hq kIq (fun r e => kRq r e)) hx ?_
  show V mSymmetry_begin (4, 0, 0, kpT, none, (wSym y.1 images_g y.2.1 y.2.2 (.ref 5) wells_l next_l ways_l), 0, 0) 0 0 90 [some (.ref 0), none, none, none, none, none, none] [] (wSym x1 images_g looks_g twins_g (.ref 5) wells_l next_l ways_l)
  refine V.blk [(.iconst 0, 0, 0, 0, 0), (.istore 5, 0, 0, 0, 0)] (by decide +kernel) (pc' := 93) (l' := [some (.ref 0), none, none, none, none, some (.int 0), none]) (st' := []) (hs' := (wSym x1 images_g looks_g twins_g (.ref 5) wells_l next_l ways_l)) rfl trivial rfl ?_
  obtain ⟨x2, hx, h⟩ := ob_some h
  refine lp_V (A := fun s93 : Int32 × (Nat → Int64) × (Nat → Int32) => V mSymmetry_begin (4, 0, 0, kpT, none, (wSym y.1 images_g y.2.1 y.2.2 (.ref 5) wells_l next_l ways_l), 0, 0) 0 0 93 [some (.ref 0), none, none, none, none, some (.int s93.1), none] [] (wSym x1 images_g s93.2.1 s93.2.2 (.ref 5) wells_l next_l ways_l)) (B := fun x2 : (Nat → Int64) × (Nat → Int32) => V mSymmetry_begin (4, 0, 0, kpT, none, (wSym y.1 images_g y.2.1 y.2.2 (.ref 5) wells_l next_l ways_l), 0, 0) 0 0 137 [none, none, none, none, none, none, none] [] (wSym x1 images_g x2.1 x2.2 (.ref 5) wells_l next_l ways_l)) (s := (0, looks_g, twins_g)) (fun sq yq hq kIq kRq => Symmetry_beginN_L93_v (Z := (4, 0, 0, kpT, none, (wSym y.1 images_g y.2.1 y.2.2 (.ref 5) wells_l next_l ways_l), 0, 0)) (cells := 0) (slots := 0) (Nat.le_refl _) (Nat.le_refl _) (Nat.le_refl _) sq yq hq kIq (fun r e => kRq r e)) hx ?_
  show V mSymmetry_begin (4, 0, 0, kpT, none, (wSym y.1 images_g y.2.1 y.2.2 (.ref 5) wells_l next_l ways_l), 0, 0) 0 0 137 [none, none, none, none, none, none, none] [] (wSym x1 images_g x2.1 x2.2 (.ref 5) wells_l next_l ways_l)
  replace h := Option.some.inj h
  subst h
  exact V.vret rfl (Nat.le_refl _) (Nat.le_refl _) (by decide +kernel)

set_option maxHeartbeats 4000000 in
set_option maxRecDepth 20000 in
theorem Symmetry_howManyN_L10_v {Z : VZ} {cells slots : Nat} (hZ : 54 ≤ Z.1) (hC : cells ≤ Z.2.1) (hL : slots ≤ Z.2.2.1) {order_g : Nat → Int32} {looks_g : Nat → Int64} {twins_g : Nat → Int32} {wells_l : Int32} {next_l : Nat → Int32} {ways_l : Nat → Int32}  (s10 : Int32 × Int32 × (Nat → Int32)) (y : (Int32 × Int32 × (Nat → Int32)) ⊕ (Int32 × (Nat → Int32))) (h : Symmetry_howManyN_L10 order_g looks_g twins_g wells_l next_l s10 = some y)  (kI : ∀ s' : Int32 × Int32 × (Nat → Int32), y = .inl s' → V mSymmetry_howMany Z cells slots 10 [some (.ref 0), none, some (.int s'.1), some (.int s'.2.1)] [] (wSym order_g s'.2.2 looks_g twins_g (.ref 5) wells_l next_l ways_l)) (kR0 : ∀ r : Int32 × (Nat → Int32), y = .inr r → V mSymmetry_howMany Z cells slots 38 [none, none, some (.int r.1), none] [] (wSym order_g r.2 looks_g twins_g (.ref 5) wells_l next_l ways_l)) :
    V mSymmetry_howMany Z cells slots 10 [some (.ref 0), none, some (.int s10.1), some (.int s10.2.1)] [] (wSym order_g s10.2.2 looks_g twins_g (.ref 5) wells_l next_l ways_l) := by
  unfold Symmetry_howManyN_L10 at h
  refine V.blk [(.iload_n 3, 0, 0, 0, 0), (.aload_n 0, 0, 0, 0, 0), (.getfield 29, 9, 4, 0, 0), (.getfield 33, 2, 0, 0, 0)] (by decide +kernel) (pc' := 18) (l' := [some (.ref 0), none, some (.int s10.1), some (.int s10.2.1)]) (st' := [.int wells_l, .int s10.2.1]) (hs' := (wSym order_g s10.2.2 looks_g twins_g (.ref 5) wells_l next_l ways_l)) rfl trivial rfl ?_
  refine V.ic_ge (tgt := 38) 20 (by decide +kernel) (by decide +kernel) (fun c3 => ?_) (fun c3 => ?_)
  · replace h := if_t h c3
    refine V.blk [(.iload_n 2, 0, 0, 0, 0), (.aload_n 0, 0, 0, 0, 0), (.iload_n 3, 0, 0, 0, 0)] (by decide +kernel) (pc' := 24) (l' := [some (.ref 0), none, some (.int s10.1), some (.int s10.2.1)]) (st' := [.int s10.2.1, .ref 0, .int s10.1]) (hs' := (wSym order_g s10.2.2 looks_g twins_g (.ref 5) wells_l next_l ways_l)) rfl trivial rfl ?_
    obtain ⟨x1, hx, h⟩ := ob_some h
    refine V.callV (ρ := fun j => j) (j0 := 0) (as' := [.int s10.2.1]) (rest := [.int s10.1]) (hc := (wSym order_g s10.2.2 looks_g twins_g (.ref 5) wells_l next_l ways_l)) (hc' := (wSym order_g x1.2 looks_g twins_g (.ref 5) wells_l next_l ways_l)) (hs' := (wSym order_g x1.2 looks_g twins_g (.ref 5) wells_l next_l ways_l)) (Symmetry_places_c hx) ok_mSymmetry_places lk9_39 rfl (Sub.self _) (Aft.self rfl) ⟨_, _, rfl, by decide, rfl⟩ (Nat.le_trans (by decide : 53 + 1 ≤ 54) hZ) hC hL (Nat.le_of_ble_eq_true rfl) (by decide +kernel) ?_
    show V mSymmetry_howMany Z cells slots 27 [some (.ref 0), none, some (.int s10.1), some (.int s10.2.1)] [.int x1.1, .int s10.1] (wSym order_g x1.2 looks_g twins_g (.ref 5) wells_l next_l ways_l)
    obtain ⟨x2, hx, h⟩ := ob_some h
    refine V.callS (ρ := fun j => [].getD j 0) (as' := [.int x1.1]) (rest := [.int s10.1]) (hc := (wNone )) (hc' := (wNone )) (hs' := (wSym order_g x1.2 looks_g twins_g (.ref 5) wells_l next_l ways_l)) (Integer_bitCount_c hx) ok_mInteger_bitCount lk9_43 rfl (Sub.list rfl rfl) (Aft.list rfl rfl rfl rfl) (Nat.le_trans (by decide : 1 + 1 ≤ 54) hZ) hC hL (Nat.le_of_ble_eq_true rfl) (by decide +kernel) ?_
    show V mSymmetry_howMany Z cells slots 30 [some (.ref 0), none, some (.int s10.1), some (.int s10.2.1)] [.int x2, .int s10.1] (wSym order_g x1.2 looks_g twins_g (.ref 5) wells_l next_l ways_l)
    refine V.blk [(.imul, 0, 0, 0, 0), (.istore_n 2, 0, 0, 0, 0), (.iinc 3 1, 0, 0, 0, 1), (.goto (-25), 10, 0, 0, 0)] (by decide +kernel) (pc' := 10) (l' := [some (.ref 0), none, some (.int (s10.1 * x2)), some (.int (s10.2.1 + 1))]) (st' := []) (hs' := (wSym order_g x1.2 looks_g twins_g (.ref 5) wells_l next_l ways_l)) rfl trivial rfl ?_
    replace h := Option.some.inj h
    subst h
    exact kI (s10.1 * x2, s10.2.1 + 1, x1.2) rfl
  · replace h := if_f h c3
    replace h := Option.some.inj h
    subst h
    refine V.weak [false, true, true, false] (l' := [none, none, some (.int s10.1), none]) rfl rfl ?_
    exact kR0 (s10.1, s10.2.2) rfl

set_option maxHeartbeats 4000000 in
set_option maxRecDepth 20000 in
theorem Symmetry_howManyN_c {order_g : Nat → Int32} {images_g : Nat → Int32} {looks_g : Nat → Int64} {twins_g : Nat → Int32} {wells_l : Int32} {next_l : Nat → Int32} {ways_l : Nat → Int32}  {y : Int32 × (Nat → Int32) × (Nat → Int32) × (Nat → Int64) × (Nat → Int32)} (h : Symmetry_howManyN order_g images_g looks_g twins_g wells_l next_l ways_l = some y) :
    C mSymmetry_howMany 54 0 0 kpT [.ref 0, .ref 5] (wSym order_g images_g looks_g twins_g .null wells_l next_l ways_l) (some (.int y.1)) (wSym y.2.1 y.2.2.1 y.2.2.2.1 y.2.2.2.2 (.ref 5) wells_l next_l ways_l) := by
  refine C.of rfl rfl (Nat.le_of_ble_eq_true rfl) rfl rfl ?_
  show V mSymmetry_howMany (54, 0, 0, kpT, some (.int y.1), (wSym y.2.1 y.2.2.1 y.2.2.2.1 y.2.2.2.2 (.ref 5) wells_l next_l ways_l), 0, 0) 0 0 0 [some (.ref 0), some (.ref 5), none, none] [] (wSym order_g images_g looks_g twins_g .null wells_l next_l ways_l)
  unfold Symmetry_howManyN at h
  refine V.blk [(.aload_n 0, 0, 0, 0, 0), (.aload_n 1, 0, 0, 0, 0), (.iconst 0, 0, 0, 0, 0)] (by decide +kernel) (pc' := 3) (l' := [some (.ref 0), some (.ref 5), none, none]) (st' := [.int 0, .ref 5, .ref 0]) (hs' := (wSym order_g images_g looks_g twins_g .null wells_l next_l ways_l)) rfl trivial rfl ?_
  obtain ⟨x1, hx, h⟩ := ob_some h
  refine V.callV (ρ := fun j => j) (j0 := 0) (as' := [.ref 5, .int 0]) (rest := []) (hc := (wSym order_g images_g looks_g twins_g .null wells_l next_l ways_l)) (hc' := (wSym x1.1 images_g x1.2.1 x1.2.2 (.ref 5) wells_l next_l ways_l)) (hs' := (wSym x1.1 images_g x1.2.1 x1.2.2 (.ref 5) wells_l next_l ways_l)) (Symmetry_beginN_c hx) ok_mSymmetry_begin lk9_25 rfl (Sub.self _) (Aft.self rfl) ⟨_, _, rfl, by decide, rfl⟩ (Nat.le_trans (by decide : 4 + 1 ≤ 54) (Nat.le_refl _)) (Nat.le_refl _) (Nat.le_refl _) (Nat.le_of_ble_eq_true rfl) (by decide +kernel) ?_
  show V mSymmetry_howMany (54, 0, 0, kpT, some (.int y.1), (wSym y.2.1 y.2.2.1 y.2.2.2.1 y.2.2.2.2 (.ref 5) wells_l next_l ways_l), 0, 0) 0 0 6 [some (.ref 0), some (.ref 5), none, none] [] (wSym x1.1 images_g x1.2.1 x1.2.2 (.ref 5) wells_l next_l ways_l)
  refine V.blk [(.iconst 1, 0, 0, 0, 1), (.istore_n 2, 0, 0, 0, 0), (.iconst 0, 0, 0, 0, 0), (.istore_n 3, 0, 0, 0, 0)] (by decide +kernel) (pc' := 10) (l' := [some (.ref 0), some (.ref 5), some (.int 1), some (.int 0)]) (st' := []) (hs' := (wSym x1.1 images_g x1.2.1 x1.2.2 (.ref 5) wells_l next_l ways_l)) rfl trivial rfl ?_
  refine V.weak [true, false, true, true] (l' := [some (.ref 0), none, some (.int 1), some (.int 0)]) rfl rfl ?_
  obtain ⟨x2, hx, h⟩ := ob_some h
  refine lp_V (A := fun s10 : Int32 × Int32 × (Nat → Int32) => V mSymmetry_howMany (54, 0, 0, kpT, some (.int y.1), (wSym y.2.1 y.2.2.1 y.2.2.2.1 y.2.2.2.2 (.ref 5) wells_l next_l ways_l), 0, 0) 0 0 10 [some (.ref 0), none, some (.int s10.1), some (.int s10.2.1)] [] (wSym x1.1 s10.2.2 x1.2.1 x1.2.2 (.ref 5) wells_l next_l ways_l)) (B := fun x2 : Int32 × (Nat → Int32) => V mSymmetry_howMany (54, 0, 0, kpT, some (.int y.1), (wSym y.2.1 y.2.2.1 y.2.2.2.1 y.2.2.2.2 (.ref 5) wells_l next_l ways_l), 0, 0) 0 0 38 [none, none, some (.int x2.1), none] [] (wSym x1.1 x2.2 x1.2.1 x1.2.2 (.ref 5) wells_l next_l ways_l)) (s := (1, 0, images_g)) (fun sq yq hq kIq kRq => Symmetry_howManyN_L10_v (Z := (54, 0, 0, kpT, some (.int y.1), (wSym y.2.1 y.2.2.1 y.2.2.2.1 y.2.2.2.2 (.ref 5) wells_l next_l ways_l), 0, 0)) (cells := 0) (slots := 0) (Nat.le_refl _) (Nat.le_refl _) (Nat.le_refl _) sq yq hq kIq (fun r e => kRq r e)) hx ?_
  show V mSymmetry_howMany (54, 0, 0, kpT, some (.int y.1), (wSym y.2.1 y.2.2.1 y.2.2.2.1 y.2.2.2.2 (.ref 5) wells_l next_l ways_l), 0, 0) 0 0 38 [none, none, some (.int x2.1), none] [] (wSym x1.1 x2.2 x1.2.1 x1.2.2 (.ref 5) wells_l next_l ways_l)
  refine V.blk [(.iload_n 2, 0, 0, 0, 0)] (by decide +kernel) (pc' := 39) (l' := [none, none, some (.int x2.1), none]) (st' := [.int x2.1]) (hs' := (wSym x1.1 x2.2 x1.2.1 x1.2.2 (.ref 5) wells_l next_l ways_l)) rfl trivial rfl ?_
  replace h := Option.some.inj h
  subst h
  exact V.iret rfl (Nat.le_refl _) (Nat.le_refl _) (by decide +kernel)

set_option maxHeartbeats 4000000 in
set_option maxRecDepth 20000 in
theorem Symmetry_placesOfN_c {order_g : Nat → Int32} {images_g : Nat → Int32} {looks_g : Nat → Int64} {twins_g : Nat → Int32} {wells_l : Int32} {next_l : Nat → Int32} {ways_l : Nat → Int32} {a2 : Int32} {y : Int32 × (Nat → Int32) × (Nat → Int32) × (Nat → Int64) × (Nat → Int32)} (h : Symmetry_placesOfN order_g images_g looks_g twins_g wells_l next_l ways_l a2 = some y) :
    C mSymmetry_placesOf 54 0 0 kpT [.ref 0, .ref 5, .int a2] (wSym order_g images_g looks_g twins_g .null wells_l next_l ways_l) (some (.int y.1)) (wSym y.2.1 y.2.2.1 y.2.2.2.1 y.2.2.2.2 (.ref 5) wells_l next_l ways_l) := by
  refine C.of rfl rfl (Nat.le_of_ble_eq_true rfl) rfl rfl ?_
  show V mSymmetry_placesOf (54, 0, 0, kpT, some (.int y.1), (wSym y.2.1 y.2.2.1 y.2.2.2.1 y.2.2.2.2 (.ref 5) wells_l next_l ways_l), 0, 0) 0 0 0 [some (.ref 0), some (.ref 5), some (.int a2)] [] (wSym order_g images_g looks_g twins_g .null wells_l next_l ways_l)
  unfold Symmetry_placesOfN at h
  refine V.blk [(.aload_n 0, 0, 0, 0, 0), (.aload_n 1, 0, 0, 0, 0), (.iload_n 2, 0, 0, 0, 0)] (by decide +kernel) (pc' := 3) (l' := [some (.ref 0), some (.ref 5), some (.int a2)]) (st' := [.int a2, .ref 5, .ref 0]) (hs' := (wSym order_g images_g looks_g twins_g .null wells_l next_l ways_l)) rfl trivial rfl ?_
  obtain ⟨x1, hx, h⟩ := ob_some h
  refine V.callV (ρ := fun j => j) (j0 := 0) (as' := [.ref 5, .int a2]) (rest := []) (hc := (wSym order_g images_g looks_g twins_g .null wells_l next_l ways_l)) (hc' := (wSym x1.1 images_g x1.2.1 x1.2.2 (.ref 5) wells_l next_l ways_l)) (hs' := (wSym x1.1 images_g x1.2.1 x1.2.2 (.ref 5) wells_l next_l ways_l)) (Symmetry_beginN_c hx) ok_mSymmetry_begin lk9_25 rfl (Sub.self _) (Aft.self rfl) ⟨_, _, rfl, by decide, rfl⟩ (Nat.le_trans (by decide : 4 + 1 ≤ 54) (Nat.le_refl _)) (Nat.le_refl _) (Nat.le_refl _) (Nat.le_of_ble_eq_true rfl) (by decide +kernel) ?_
  show V mSymmetry_placesOf (54, 0, 0, kpT, some (.int y.1), (wSym y.2.1 y.2.2.1 y.2.2.2.1 y.2.2.2.2 (.ref 5) wells_l next_l ways_l), 0, 0) 0 0 6 [some (.ref 0), some (.ref 5), some (.int a2)] [] (wSym x1.1 images_g x1.2.1 x1.2.2 (.ref 5) wells_l next_l ways_l)
  refine V.blk [(.aload_n 0, 0, 0, 0, 0), (.iconst 0, 0, 0, 0, 0)] (by decide +kernel) (pc' := 8) (l' := [some (.ref 0), some (.ref 5), some (.int a2)]) (st' := [.int 0, .ref 0]) (hs' := (wSym x1.1 images_g x1.2.1 x1.2.2 (.ref 5) wells_l next_l ways_l)) rfl trivial rfl ?_
  obtain ⟨x2, hx, h⟩ := ob_some h
  refine V.callV (ρ := fun j => j) (j0 := 0) (as' := [.int 0]) (rest := []) (hc := (wSym x1.1 images_g x1.2.1 x1.2.2 (.ref 5) wells_l next_l ways_l)) (hc' := (wSym x1.1 x2.2 x1.2.1 x1.2.2 (.ref 5) wells_l next_l ways_l)) (hs' := (wSym x1.1 x2.2 x1.2.1 x1.2.2 (.ref 5) wells_l next_l ways_l)) (Symmetry_places_c hx) ok_mSymmetry_places lk9_39 rfl (Sub.self _) (Aft.self rfl) ⟨_, _, rfl, by decide, rfl⟩ (Nat.le_trans (by decide : 53 + 1 ≤ 54) (Nat.le_refl _)) (Nat.le_refl _) (Nat.le_refl _) (Nat.le_of_ble_eq_true rfl) (by decide +kernel) ?_
  show V mSymmetry_placesOf (54, 0, 0, kpT, some (.int y.1), (wSym y.2.1 y.2.2.1 y.2.2.2.1 y.2.2.2.2 (.ref 5) wells_l next_l ways_l), 0, 0) 0 0 11 [some (.ref 0), some (.ref 5), some (.int a2)] [.int x2.1] (wSym x1.1 x2.2 x1.2.1 x1.2.2 (.ref 5) wells_l next_l ways_l)
  replace h := Option.some.inj h
  subst h
  exact V.iret rfl (Nat.le_refl _) (Nat.le_refl _) (by decide +kernel)

