/-! THE METHODS AS PARTIAL FUNCTIONS (printed by wip/gen, out of the bytecode) -/
/-! the class: Ledger, Symmetry -/
noncomputable def Ledger_fillOne_L13_J92 (go_ : (Nat → Int32) → (Nat → Int32) → (Nat → Int32) → Int32 → Int32 → Int32 → Int32 → Int32 → Int32 → (Nat → Int32) → Int32 → Option ((Nat → Int32) × Int32 × Int32 × Int32)) (v2 : Int32) (v3 : Int32) (v4 : Int32) (needs_o : Nat → Int32) (changes_o : Nat → Int32) (row_o : Nat → Int32) (lost_o : Int32) (throne_o : Int32) (ways_o : Int32) (least_o : Int32) (most_o : Int32) (wells_l : Int32) (next_l : Nat → Int32) : Option ((Int32 × (Nat → Int32) × Int32 × Int32 × Int32) ⊕ ((Nat → Int32) × Int32 × Int32 × Int32)) :=
  some (.inl (v4 + 1, row_o, ways_o, least_o, most_o))
noncomputable def Ledger_fillOne_L13 (go_ : (Nat → Int32) → (Nat → Int32) → (Nat → Int32) → Int32 → Int32 → Int32 → Int32 → Int32 → Int32 → (Nat → Int32) → Int32 → Option ((Nat → Int32) × Int32 × Int32 × Int32)) (v2 : Int32) (v3 : Int32) (needs_o : Nat → Int32) (changes_o : Nat → Int32) (lost_o : Int32) (throne_o : Int32) (wells_l : Int32) (next_l : Nat → Int32) : (Int32 × (Nat → Int32) × Int32 × Int32 × Int32) → Option ((Int32 × (Nat → Int32) × Int32 × Int32 × Int32) ⊕ ((Nat → Int32) × Int32 × Int32 × Int32)) := fun s13 =>
  gd (ix v3 12) (if (s13.2.1 (v3 : Int32).toNatClampNeg) < 2 then (some (.inr (s13.2.1, s13.2.2.1, s13.2.2.2.1, s13.2.2.2.2))) else (if s13.1 < wells_l then (ob (Land_areNext wells_l next_l v3 s13.1) fun x2 =>
  if x2 = 0 then (Ledger_fillOne_L13_J92 go_ v2 v3 s13.1 needs_o changes_o s13.2.1 lost_o throne_o s13.2.2.1 s13.2.2.2.1 s13.2.2.2.2 wells_l next_l) else (gd (ix v3 12) (gd (ix v3 12) (gd (ix s13.1 12) (gd (ix s13.1 12) (ob (go_ needs_o changes_o (upd (upd s13.2.1 (v3 : Int32).toNatClampNeg ((s13.2.1 (v3 : Int32).toNatClampNeg) - 2)) (s13.1 : Int32).toNatClampNeg (((upd s13.2.1 (v3 : Int32).toNatClampNeg ((s13.2.1 (v3 : Int32).toNatClampNeg) - 2)) (s13.1 : Int32).toNatClampNeg) + 1)) lost_o throne_o s13.2.2.1 s13.2.2.2.1 s13.2.2.2.2 wells_l next_l (v2 + 1)) fun x7 =>
  gd (ix v3 12) (gd (ix v3 12) (gd (ix s13.1 12) (gd (ix s13.1 12) (Ledger_fillOne_L13_J92 go_ v2 v3 s13.1 needs_o changes_o (upd (upd x7.1 (v3 : Int32).toNatClampNeg ((x7.1 (v3 : Int32).toNatClampNeg) + 2)) (s13.1 : Int32).toNatClampNeg (((upd x7.1 (v3 : Int32).toNatClampNeg ((x7.1 (v3 : Int32).toNatClampNeg) + 2)) (s13.1 : Int32).toNatClampNeg) - 1)) lost_o throne_o x7.2.1 x7.2.2.1 x7.2.2.2 wells_l next_l)))))))))) else (some (.inr (s13.2.1, s13.2.2.1, s13.2.2.2.1, s13.2.2.2.2)))))
noncomputable def Ledger_fillOne_L2_J98 (go_ : (Nat → Int32) → (Nat → Int32) → (Nat → Int32) → Int32 → Int32 → Int32 → Int32 → Int32 → Int32 → (Nat → Int32) → Int32 → Option ((Nat → Int32) × Int32 × Int32 × Int32)) (v2 : Int32) (v3 : Int32) (needs_o : Nat → Int32) (changes_o : Nat → Int32) (row_o : Nat → Int32) (lost_o : Int32) (throne_o : Int32) (ways_o : Int32) (least_o : Int32) (most_o : Int32) (wells_l : Int32) (next_l : Nat → Int32) : Option ((Int32 × (Nat → Int32) × Int32 × Int32 × Int32) ⊕ ((Nat → Int32) × Int32 × Int32 × Int32)) :=
  some (.inl (v3 + 1, row_o, ways_o, least_o, most_o))
noncomputable def Ledger_fillOne_L2 (go_ : (Nat → Int32) → (Nat → Int32) → (Nat → Int32) → Int32 → Int32 → Int32 → Int32 → Int32 → Int32 → (Nat → Int32) → Int32 → Option ((Nat → Int32) × Int32 × Int32 × Int32)) (v2 : Int32) (needs_o : Nat → Int32) (changes_o : Nat → Int32) (lost_o : Int32) (throne_o : Int32) (wells_l : Int32) (next_l : Nat → Int32) : (Int32 × (Nat → Int32) × Int32 × Int32 × Int32) → Option ((Int32 × (Nat → Int32) × Int32 × Int32 × Int32) ⊕ ((Nat → Int32) × Int32 × Int32 × Int32)) := fun s2 =>
  if s2.1 < wells_l then (ob (lp (Ledger_fillOne_L13 go_ v2 s2.1 needs_o changes_o lost_o throne_o wells_l next_l) (0, s2.2.1, s2.2.2.1, s2.2.2.2.1, s2.2.2.2.2)) fun x1 =>
  Ledger_fillOne_L2_J98 go_ v2 s2.1 needs_o changes_o x1.1 lost_o throne_o x1.2.1 x1.2.2.1 x1.2.2.2 wells_l next_l) else (some (.inr (s2.2.1, s2.2.2.1, s2.2.2.2.1, s2.2.2.2.2)))
noncomputable def Ledger_fillOne (go_ : (Nat → Int32) → (Nat → Int32) → (Nat → Int32) → Int32 → Int32 → Int32 → Int32 → Int32 → Int32 → (Nat → Int32) → Int32 → Option ((Nat → Int32) × Int32 × Int32 × Int32)) (needs_o : Nat → Int32) (changes_o : Nat → Int32) (row_o : Nat → Int32) (lost_o : Int32) (throne_o : Int32) (ways_o : Int32) (least_o : Int32) (most_o : Int32) (wells_l : Int32) (next_l : Nat → Int32) (a2 : Int32) : Option ((Nat → Int32) × Int32 × Int32 × Int32) :=
  ob (lp (Ledger_fillOne_L2 go_ a2 needs_o changes_o lost_o throne_o wells_l next_l) (0, row_o, ways_o, least_o, most_o)) fun x1 =>
  some (x1.1, x1.2.1, x1.2.2.1, x1.2.2.2)
noncomputable def Ledger_goO_J83 (go_ : (Nat → Int32) → (Nat → Int32) → (Nat → Int32) → Int32 → Int32 → Int32 → Int32 → Int32 → Int32 → (Nat → Int32) → Int32 → Option ((Nat → Int32) × Int32 × Int32 × Int32)) (v2 : Int32) (needs_o : Nat → Int32) (changes_o : Nat → Int32) (row_o : Nat → Int32) (lost_o : Int32) (throne_o : Int32) (ways_o : Int32) (least_o : Int32) (most_o : Int32) (wells_l : Int32) (next_l : Nat → Int32) : Option ((Nat → Int32) × Int32 × Int32 × Int32) :=
  ob (Ledger_change changes_o row_o v2 (-1)) fun x1 =>
  some (x1, ways_o, least_o, most_o)
noncomputable def Ledger_goO (go_ : (Nat → Int32) → (Nat → Int32) → (Nat → Int32) → Int32 → Int32 → Int32 → Int32 → Int32 → Int32 → (Nat → Int32) → Int32 → Option ((Nat → Int32) × Int32 × Int32 × Int32)) (needs_o : Nat → Int32) (changes_o : Nat → Int32) (row_o : Nat → Int32) (lost_o : Int32) (throne_o : Int32) (ways_o : Int32) (least_o : Int32) (most_o : Int32) (wells_l : Int32) (next_l : Nat → Int32) (a2 : Int32) : Option ((Nat → Int32) × Int32 × Int32 × Int32) :=
  if a2 ≤ 3 then (ob (Ledger_lackAt needs_o row_o a2) fun x1 =>
  if x1 = (-1) then (ob (Ledger_change changes_o row_o a2 1) fun x2 =>
  if a2 < lost_o then (if a2 = (lost_o - 1) then (ob (Ledger_fillLast needs_o changes_o x2 throne_o ways_o least_o most_o wells_l next_l lost_o) fun x3 =>
  Ledger_goO_J83 go_ a2 needs_o changes_o x3.1 lost_o throne_o x3.2.1 x3.2.2.1 x3.2.2.2 wells_l next_l) else (ob (Ledger_fillOne go_ needs_o changes_o x2 lost_o throne_o ways_o least_o most_o wells_l next_l a2) fun x4 =>
  Ledger_goO_J83 go_ a2 needs_o changes_o x4.1 lost_o throne_o x4.2.1 x4.2.2.1 x4.2.2.2 wells_l next_l)) else (gd (ix throne_o 12) (ob (Ledger_tell least_o most_o (x2 (throne_o : Int32).toNatClampNeg)) fun x7 =>
  Ledger_goO_J83 go_ a2 needs_o changes_o x2 lost_o throne_o (ways_o + 1) x7.1 x7.2 wells_l next_l))) else (some (row_o, ways_o, least_o, most_o))) else (some (row_o, ways_o, least_o, most_o))
noncomputable def Ledger_go : Nat → (Nat → Int32) → (Nat → Int32) → (Nat → Int32) → Int32 → Int32 → Int32 → Int32 → Int32 → Int32 → (Nat → Int32) → Int32 → Option ((Nat → Int32) × Int32 × Int32 × Int32)
  | 0 => fun _ _ _ _ _ _ _ _ _ _ _ => none
  | n + 1 => Ledger_goO (Ledger_go n)
noncomputable def Ledger_fill (needs_o : Nat → Int32) (changes_o : Nat → Int32) (row_o : Nat → Int32) (lost_o : Int32) (throne_o : Int32) (ways_o : Int32) (least_o : Int32) (most_o : Int32) (wells_l : Int32) (next_l : Nat → Int32) (jars_c : Nat → Int32) (throne_c : Int32) : Option ((Nat → Int32) × Int32 × Int32 × Int32 × Int32) :=
  gd (cpOk 0 0 12 12 12) (ob (Ledger_go 5 needs_o changes_o (va_cpy jars_c row_o (0 : Int32).toNatClampNeg (0 : Int32).toNatClampNeg (12 : Int32).toNatClampNeg) lost_o throne_c 0 2147483647 0 wells_l next_l 0) fun x2 =>
  some (x2.1, throne_c, x2.2.1, x2.2.2.1, x2.2.2.2))
noncomputable def Symmetry_lowest_L2 (v0 : Int32) : Int32 → Option ((Int32) ⊕ (Int32) ⊕ (Unit)) := fun s2 =>
  if s2 < 11 then (if ((v0 >>> (s2 &&& 31)) &&& 1) = 0 then (some (.inl (s2 + 1))) else (some (.inr (.inl s2)))) else (some (.inr (.inr ())))
noncomputable def Symmetry_lowest (a0 : Int32) : Option (Int32) :=
  ob (lp (Symmetry_lowest_L2 a0) 0) fun x1 =>
  sm x1 (fun x1 => some x1) (fun x1 => some 11)
noncomputable def Symmetry_twinsOf_L4_J59 (v1 : Int32) (v3 : Int32) (k0 : Int32) (k1 : Int32) (wells_l : Int32) (next_l : Nat → Int32) : Option ((Int32 × Int32) ⊕ (Int32)) :=
  some (.inl (k1 ||| k0, v3 + 1))
noncomputable def Symmetry_twinsOf_L4 (v1 : Int32) (wells_l : Int32) (next_l : Nat → Int32) : (Int32 × Int32) → Option ((Int32 × Int32) ⊕ (Int32)) := fun s4 =>
  if s4.2 < wells_l then (gd (ix v1 12) (gd (ix s4.2 12) (if (((next_l (v1 : Int32).toNatClampNeg) ^^^ (next_l (s4.2 : Int32).toNatClampNeg)) &&& ((((1 : Int32) <<< (v1 &&& 31)) ||| ((1 : Int32) <<< (s4.2 &&& 31))) ^^^ (-1))) = 0 then (Symmetry_twinsOf_L4_J59 v1 s4.2 ((1 : Int32) <<< (s4.2 &&& 31)) s4.1 wells_l next_l) else (Symmetry_twinsOf_L4_J59 v1 s4.2 0 s4.1 wells_l next_l)))) else (some (.inr s4.1))
noncomputable def Symmetry_twinsOf (wells_l : Int32) (next_l : Nat → Int32) (a1 : Int32) : Option (Int32) :=
  ob (lp (Symmetry_twinsOf_L4 a1 wells_l next_l) (0, 0)) fun x1 =>
  some x1
noncomputable def Symmetry_look_L5_J45 (v1 : Int32) (v4 : Int32) (k0 : Int64) (k1 : Int64) (wells_l : Int32) (ways_l : Nat → Int32) : Option ((Int64 × Int32) ⊕ (Int64)) :=
  some (.inl (k1 + k0, v4 + 1))
noncomputable def Symmetry_look_L5 (v1 : Int32) (wells_l : Int32) (ways_l : Nat → Int32) : (Int64 × Int32) → Option ((Int64 × Int32) ⊕ (Int64)) := fun s5 =>
  if s5.2 < wells_l then (ob (Land_way wells_l ways_l v1 s5.2) fun x1 =>
  if x1 < 0 then (Symmetry_look_L5_J45 v1 s5.2 (Int64.ofNat 0) s5.1 wells_l ways_l) else (Symmetry_look_L5_J45 v1 s5.2 (jLs (Int64.ofNat 1) (4 * x1)) s5.1 wells_l ways_l)) else (some (.inr s5.1))
noncomputable def Symmetry_look (wells_l : Int32) (ways_l : Nat → Int32) (a1 : Int32) : Option (Int64) :=
  ob (lp (Symmetry_look_L5 a1 wells_l ways_l) (Int64.ofNat 0, 0)) fun x1 =>
  some x1
noncomputable def Symmetry_fitting_L13_J52 (v1 : Int32) (v2 : Int32) (v3 : Int32) (v5 : Int32) (k0 : Int32) (k1 : Int32) (looks_g : Nat → Int64) (wells_l : Int32) : Option ((Int32 × Int32) ⊕ (Int32)) :=
  some (.inl (k1 ||| k0, v5 + 1))
noncomputable def Symmetry_fitting_L13 (v1 : Int32) (v2 : Int32) (v3 : Int32) (looks_g : Nat → Int64) (wells_l : Int32) : (Int32 × Int32) → Option ((Int32 × Int32) ⊕ (Int32)) := fun s13 =>
  if s13.2 < wells_l then (gd (ix v3 12) (gd (ix s13.2 12) (if (lg_cmp (looks_g (v3 : Int32).toNatClampNeg) (looks_g (s13.2 : Int32).toNatClampNeg)) = 0 then (Symmetry_fitting_L13_J52 v1 v2 v3 s13.2 ((1 : Int32) <<< (s13.2 &&& 31)) s13.1 looks_g wells_l) else (Symmetry_fitting_L13_J52 v1 v2 v3 s13.2 0 s13.1 looks_g wells_l)))) else (some (.inr s13.1))
noncomputable def Symmetry_fitting_L72_J124 (v1 : Int32) (v3 : Int32) (v5 : Int32) (k0 : Int32) (k1 : Int32) (order_g : Nat → Int32) (images_g : Nat → Int32) (wells_l : Int32) (next_l : Nat → Int32) : Option ((Int32 × Int32) ⊕ (Int32)) :=
  some (.inl (k1 &&& k0, v5 + 1))
noncomputable def Symmetry_fitting_L72 (v1 : Int32) (v3 : Int32) (order_g : Nat → Int32) (images_g : Nat → Int32) (wells_l : Int32) (next_l : Nat → Int32) : (Int32 × Int32) → Option ((Int32 × Int32) ⊕ (Int32)) := fun s72 =>
  if s72.2 < v1 then (gd (ix s72.2 12) (gd (ix (images_g (s72.2 : Int32).toNatClampNeg) 12) (gd (ix s72.2 12) (ob (Land_areNext wells_l next_l v3 (order_g (s72.2 : Int32).toNatClampNeg)) fun x4 =>
  if x4 = 0 then (Symmetry_fitting_L72_J124 v1 v3 s72.2 ((next_l (images_g (s72.2 : Int32).toNatClampNeg : Int32).toNatClampNeg) ^^^ (-1)) s72.1 order_g images_g wells_l next_l) else (Symmetry_fitting_L72_J124 v1 v3 s72.2 (next_l (images_g (s72.2 : Int32).toNatClampNeg : Int32).toNatClampNeg) s72.1 order_g images_g wells_l next_l))))) else (some (.inr s72.1))
noncomputable def Symmetry_fitting (order_g : Nat → Int32) (images_g : Nat → Int32) (looks_g : Nat → Int64) (wells_l : Int32) (next_l : Nat → Int32) (a1 : Int32) (a2 : Int32) : Option (Int32) :=
  gd (ix a1 12) (ob (lp (Symmetry_fitting_L13 a1 a2 (order_g (a1 : Int32).toNatClampNeg) looks_g wells_l) (0, 0)) fun x2 =>
  ob (lp (Symmetry_fitting_L72 a1 (order_g (a1 : Int32).toNatClampNeg) order_g images_g wells_l next_l) (x2 &&& (a2 ^^^ (-1)), 0)) fun x3 =>
  some x3)
noncomputable def Symmetry_canGoOnO_L26_J95 (cgo_ : (Nat → Int32) → (Nat → Int32) → (Nat → Int64) → (Nat → Int32) → Int32 → (Nat → Int32) → Int32 → Int32 → Option (Int32 × (Nat → Int32))) (v1 : Int32) (v2 : Int32) (v3 : Int32) (v4 : Int32) (v5 : Int32) (order_g : Nat → Int32) (images_g : Nat → Int32) (looks_g : Nat → Int64) (twins_g : Nat → Int32) (wells_l : Int32) (next_l : Nat → Int32) : Option ((Int32 × Int32 × (Nat → Int32)) ⊕ (Nat → Int32) ⊕ (Nat → Int32)) :=
  some (.inl (v4, v5 + 1, images_g))
noncomputable def Symmetry_canGoOnO_L26 (cgo_ : (Nat → Int32) → (Nat → Int32) → (Nat → Int64) → (Nat → Int32) → Int32 → (Nat → Int32) → Int32 → Int32 → Option (Int32 × (Nat → Int32))) (v1 : Int32) (v2 : Int32) (v3 : Int32) (order_g : Nat → Int32) (looks_g : Nat → Int64) (twins_g : Nat → Int32) (wells_l : Int32) (next_l : Nat → Int32) : (Int32 × Int32 × (Nat → Int32)) → Option ((Int32 × Int32 × (Nat → Int32)) ⊕ (Nat → Int32) ⊕ (Nat → Int32)) := fun s26 =>
  if s26.2.1 < wells_l then (if ((v3 >>> (s26.2.1 &&& 31)) &&& 1) = 0 then (Symmetry_canGoOnO_L26_J95 cgo_ v1 v2 v3 s26.1 s26.2.1 order_g s26.2.2 looks_g twins_g wells_l next_l) else (gd (ix s26.2.1 12) (if (s26.1 &&& (twins_g (s26.2.1 : Int32).toNatClampNeg)) = 0 then (gd (ix v1 12) (ob (cgo_ order_g (upd s26.2.2 (v1 : Int32).toNatClampNeg s26.2.1) looks_g twins_g wells_l next_l (v1 + 1) (v2 ||| ((1 : Int32) <<< (s26.2.1 &&& 31)))) fun x3 =>
  if x3.1 = 0 then (Symmetry_canGoOnO_L26_J95 cgo_ v1 v2 v3 (s26.1 ||| ((1 : Int32) <<< (s26.2.1 &&& 31))) s26.2.1 order_g x3.2 looks_g twins_g wells_l next_l) else (some (.inr (.inl x3.2))))) else (Symmetry_canGoOnO_L26_J95 cgo_ v1 v2 v3 s26.1 s26.2.1 order_g s26.2.2 looks_g twins_g wells_l next_l)))) else (some (.inr (.inr (s26.2.2))))
noncomputable def Symmetry_canGoOnO (cgo_ : (Nat → Int32) → (Nat → Int32) → (Nat → Int64) → (Nat → Int32) → Int32 → (Nat → Int32) → Int32 → Int32 → Option (Int32 × (Nat → Int32))) (order_g : Nat → Int32) (images_g : Nat → Int32) (looks_g : Nat → Int64) (twins_g : Nat → Int32) (wells_l : Int32) (next_l : Nat → Int32) (a1 : Int32) (a2 : Int32) : Option (Int32 × (Nat → Int32)) :=
  if a1 < wells_l then (ob (Symmetry_fitting order_g images_g looks_g wells_l next_l a1 a2) fun x1 =>
  ob (lp (Symmetry_canGoOnO_L26 cgo_ a1 a2 x1 order_g looks_g twins_g wells_l next_l) (0, 0, images_g)) fun x2 =>
  sm x2 (fun x2 => some (1, x2)) (fun x2 => some (0, x2))) else (some (1, images_g))
noncomputable def Symmetry_canGoOn : Nat → (Nat → Int32) → (Nat → Int32) → (Nat → Int64) → (Nat → Int32) → Int32 → (Nat → Int32) → Int32 → Int32 → Option (Int32 × (Nat → Int32))
  | 0 => fun _ _ _ _ _ _ _ _ => none
  | n + 1 => Symmetry_canGoOnO (Symmetry_canGoOn n)
noncomputable def Symmetry_places_L4 (v1 : Int32) (order_g : Nat → Int32) : (Int32 × Int32 × (Nat → Int32)) → Option ((Int32 × Int32 × (Nat → Int32)) ⊕ (Int32 × (Nat → Int32))) := fun s4 =>
  if s4.2.1 < v1 then (gd (ix s4.2.1 12) (gd (ix s4.2.1 12) (gd (ix s4.2.1 12) (some (.inl (s4.1 ||| ((1 : Int32) <<< ((order_g (s4.2.1 : Int32).toNatClampNeg) &&& 31)), s4.2.1 + 1, upd s4.2.2 (s4.2.1 : Int32).toNatClampNeg (order_g (s4.2.1 : Int32).toNatClampNeg))))))) else (some (.inr (s4.1, s4.2.2)))
noncomputable def Symmetry_places_L51_J119 (v1 : Int32) (v2 : Int32) (v3 : Int32) (v4 : Int32) (v5 : Int32) (order_g : Nat → Int32) (images_g : Nat → Int32) (looks_g : Nat → Int64) (twins_g : Nat → Int32) (wells_l : Int32) (next_l : Nat → Int32) : Option ((Int32 × Int32 × (Nat → Int32)) ⊕ (Int32 × (Nat → Int32))) :=
  some (.inl (v3, v5 + 1, images_g))
noncomputable def Symmetry_places_L51_J117 (v1 : Int32) (v2 : Int32) (v4 : Int32) (v5 : Int32) (k0 : Int32) (k1 : Int32) (order_g : Nat → Int32) (images_g : Nat → Int32) (looks_g : Nat → Int64) (twins_g : Nat → Int32) (wells_l : Int32) (next_l : Nat → Int32) : Option ((Int32 × Int32 × (Nat → Int32)) ⊕ (Int32 × (Nat → Int32))) :=
  Symmetry_places_L51_J119 v1 v2 (k1 ||| k0) v4 v5 order_g images_g looks_g twins_g wells_l next_l
noncomputable def Symmetry_places_L51_J109 (v1 : Int32) (v2 : Int32) (v4 : Int32) (v5 : Int32) (k0 : Int32) (order_g : Nat → Int32) (images_g : Nat → Int32) (looks_g : Nat → Int64) (twins_g : Nat → Int32) (wells_l : Int32) (next_l : Nat → Int32) : Option ((Int32 × Int32 × (Nat → Int32)) ⊕ (Int32 × (Nat → Int32))) :=
  Symmetry_places_L51_J117 v1 v2 v4 v5 ((1 : Int32) <<< (v5 &&& 31)) k0 order_g images_g looks_g twins_g wells_l next_l
noncomputable def Symmetry_places_L51 (v1 : Int32) (v2 : Int32) (v4 : Int32) (order_g : Nat → Int32) (looks_g : Nat → Int64) (twins_g : Nat → Int32) (wells_l : Int32) (next_l : Nat → Int32) : (Int32 × Int32 × (Nat → Int32)) → Option ((Int32 × Int32 × (Nat → Int32)) ⊕ (Int32 × (Nat → Int32))) := fun s51 =>
  if s51.2.1 < wells_l then (if ((v4 >>> (s51.2.1 &&& 31)) &&& 1) = 0 then (Symmetry_places_L51_J119 v1 v2 s51.1 v4 s51.2.1 order_g s51.2.2 looks_g twins_g wells_l next_l) else (gd (ix v1 12) (gd (ix v1 12) (if s51.2.1 = (order_g (v1 : Int32).toNatClampNeg) then (Symmetry_places_L51_J109 v1 v2 v4 s51.2.1 s51.1 order_g (upd s51.2.2 (v1 : Int32).toNatClampNeg s51.2.1) looks_g twins_g wells_l next_l) else (ob (Symmetry_canGoOn 13 order_g (upd s51.2.2 (v1 : Int32).toNatClampNeg s51.2.1) looks_g twins_g wells_l next_l (v1 + 1) (v2 ||| ((1 : Int32) <<< (s51.2.1 &&& 31)))) fun x3 =>
  if x3.1 = 0 then (Symmetry_places_L51_J117 v1 v2 v4 s51.2.1 0 s51.1 order_g x3.2 looks_g twins_g wells_l next_l) else (Symmetry_places_L51_J109 v1 v2 v4 s51.2.1 s51.1 order_g x3.2 looks_g twins_g wells_l next_l)))))) else (some (.inr (s51.1, s51.2.2)))
noncomputable def Symmetry_places (order_g : Nat → Int32) (images_g : Nat → Int32) (looks_g : Nat → Int64) (twins_g : Nat → Int32) (wells_l : Int32) (next_l : Nat → Int32) (a1 : Int32) : Option (Int32 × (Nat → Int32)) :=
  ob (lp (Symmetry_places_L4 a1 order_g) (0, 0, images_g)) fun x1 =>
  ob (Symmetry_fitting order_g x1.2 looks_g wells_l next_l a1 x1.1) fun x2 =>
  ob (lp (Symmetry_places_L51 a1 x1.1 x2 order_g looks_g twins_g wells_l next_l) (0, 0, x1.2)) fun x3 =>
  some (x3.1, x3.2)
noncomputable def Symmetry_begin_L93 (wells_l : Int32) (next_l : Nat → Int32) (ways_l : Nat → Int32) : (Int32 × (Nat → Int64) × (Nat → Int32)) → Option ((Int32 × (Nat → Int64) × (Nat → Int32)) ⊕ ((Nat → Int64) × (Nat → Int32))) := fun s93 =>
  if s93.1 < wells_l then (ob (Symmetry_look wells_l ways_l s93.1) fun x1 =>
  gd (ix s93.1 12) (ob (Symmetry_twinsOf wells_l next_l s93.1) fun x3 =>
  gd (ix s93.1 12) (some (.inl (s93.1 + 1, vp_updL s93.2.1 (s93.1 : Int32).toNatClampNeg x1, upd s93.2.2 (s93.1 : Int32).toNatClampNeg x3))))) else (some (.inr (s93.2.1, s93.2.2)))
noncomputable def Symmetry_begin_L15_J48 (v3 : Int32) (v4 : Int32) (v5 : Int32) (k0 : Int32) (order_g : Nat → Int32) (wells_l : Int32) (next_l : Nat → Int32) : Option ((Int32 × Int32 × Int32 × (Nat → Int32)) ⊕ (Nat → Int32)) :=
  ob (Symmetry_lowest k0) fun x1 =>
  gd (ix v5 12) (gd (ix x1 12) (some (.inl (v3 ||| ((1 : Int32) <<< (x1 &&& 31)), v4 ||| (next_l (x1 : Int32).toNatClampNeg), v5 + 1, upd order_g (v5 : Int32).toNatClampNeg x1))))
noncomputable def Symmetry_begin_L15 (wells_l : Int32) (next_l : Nat → Int32) : (Int32 × Int32 × Int32 × (Nat → Int32)) → Option ((Int32 × Int32 × Int32 × (Nat → Int32)) ⊕ (Nat → Int32)) := fun s15 =>
  if s15.2.2.1 < wells_l then (if (s15.2.1 &&& (s15.1 ^^^ (-1))) = 0 then (Symmetry_begin_L15_J48 s15.1 s15.2.1 s15.2.2.1 (s15.1 ^^^ (-1)) s15.2.2.2 wells_l next_l) else (Symmetry_begin_L15_J48 s15.1 s15.2.1 s15.2.2.1 (s15.2.1 &&& (s15.1 ^^^ (-1))) s15.2.2.2 wells_l next_l)) else (some (.inr s15.2.2.2))
noncomputable def Symmetry_begin (order_g : Nat → Int32) (looks_g : Nat → Int64) (twins_g : Nat → Int32) (wells_l : Int32) (next_l : Nat → Int32) (ways_l : Nat → Int32) (a2 : Int32) : Option ((Nat → Int32) × (Nat → Int64) × (Nat → Int32)) :=
  ob (lp (Symmetry_begin_L15 wells_l next_l) (0, (1 : Int32) <<< (a2 &&& 31), 0, order_g)) fun x1 =>
  ob (lp (Symmetry_begin_L93 wells_l next_l ways_l) (0, looks_g, twins_g)) fun x2 =>
  some (x1, x2.1, x2.2)
noncomputable def Symmetry_howMany_L10 (order_g : Nat → Int32) (looks_g : Nat → Int64) (twins_g : Nat → Int32) (wells_l : Int32) (next_l : Nat → Int32) : (Int32 × Int32 × (Nat → Int32)) → Option ((Int32 × Int32 × (Nat → Int32)) ⊕ (Int32 × (Nat → Int32))) := fun s10 =>
  if s10.2.1 < wells_l then (ob (Symmetry_places order_g s10.2.2 looks_g twins_g wells_l next_l s10.2.1) fun x1 =>
  ob (Integer_bitCount x1.1) fun x2 =>
  some (.inl (s10.1 * x2, s10.2.1 + 1, x1.2))) else (some (.inr (s10.1, s10.2.2)))
noncomputable def Symmetry_howMany (order_g : Nat → Int32) (images_g : Nat → Int32) (looks_g : Nat → Int64) (twins_g : Nat → Int32) (wells_l : Int32) (next_l : Nat → Int32) (ways_l : Nat → Int32) : Option (Int32 × (Nat → Int32) × (Nat → Int32) × (Nat → Int64) × (Nat → Int32)) :=
  ob (Symmetry_begin order_g looks_g twins_g wells_l next_l ways_l 0) fun x1 =>
  ob (lp (Symmetry_howMany_L10 x1.1 x1.2.1 x1.2.2 wells_l next_l) (1, 0, images_g)) fun x2 =>
  some (x2.1, x1.1, x2.2, x1.2.1, x1.2.2)
noncomputable def Symmetry_placesOf (order_g : Nat → Int32) (images_g : Nat → Int32) (looks_g : Nat → Int64) (twins_g : Nat → Int32) (wells_l : Int32) (next_l : Nat → Int32) (ways_l : Nat → Int32) (a2 : Int32) : Option (Int32 × (Nat → Int32) × (Nat → Int32) × (Nat → Int64) × (Nat → Int32)) :=
  ob (Symmetry_begin order_g looks_g twins_g wells_l next_l ways_l a2) fun x1 =>
  ob (Symmetry_places x1.1 images_g x1.2.1 x1.2.2 wells_l next_l 0) fun x2 =>
  some (x2.1, x1.1, x2.2, x1.2.1, x1.2.2)
noncomputable def Symmetry_beginN_L93 (wells_l : Int32) (next_l : Nat → Int32) (ways_l : Nat → Int32) : (Int32 × (Nat → Int64) × (Nat → Int32)) → Option ((Int32 × (Nat → Int64) × (Nat → Int32)) ⊕ ((Nat → Int64) × (Nat → Int32))) := fun s93 =>
  if s93.1 < wells_l then (ob (Symmetry_look wells_l ways_l s93.1) fun x1 =>
  gd (ix s93.1 12) (ob (Symmetry_twinsOf wells_l next_l s93.1) fun x3 =>
  gd (ix s93.1 12) (some (.inl (s93.1 + 1, vp_updL s93.2.1 (s93.1 : Int32).toNatClampNeg x1, upd s93.2.2 (s93.1 : Int32).toNatClampNeg x3))))) else (some (.inr (s93.2.1, s93.2.2)))
noncomputable def Symmetry_beginN_L15_J48 (v3 : Int32) (v4 : Int32) (v5 : Int32) (k0 : Int32) (order_g : Nat → Int32) (wells_l : Int32) (next_l : Nat → Int32) : Option ((Int32 × Int32 × Int32 × (Nat → Int32)) ⊕ (Nat → Int32)) :=
  ob (Symmetry_lowest k0) fun x1 =>
  gd (ix v5 12) (gd (ix x1 12) (some (.inl (v3 ||| ((1 : Int32) <<< (x1 &&& 31)), v4 ||| (next_l (x1 : Int32).toNatClampNeg), v5 + 1, upd order_g (v5 : Int32).toNatClampNeg x1))))
noncomputable def Symmetry_beginN_L15 (wells_l : Int32) (next_l : Nat → Int32) : (Int32 × Int32 × Int32 × (Nat → Int32)) → Option ((Int32 × Int32 × Int32 × (Nat → Int32)) ⊕ (Nat → Int32)) := fun s15 =>
  if s15.2.2.1 < wells_l then (if (s15.2.1 &&& (s15.1 ^^^ (-1))) = 0 then (Symmetry_beginN_L15_J48 s15.1 s15.2.1 s15.2.2.1 (s15.1 ^^^ (-1)) s15.2.2.2 wells_l next_l) else (Symmetry_beginN_L15_J48 s15.1 s15.2.1 s15.2.2.1 (s15.2.1 &&& (s15.1 ^^^ (-1))) s15.2.2.2 wells_l next_l)) else (some (.inr s15.2.2.2))
noncomputable def Symmetry_beginN (order_g : Nat → Int32) (looks_g : Nat → Int64) (twins_g : Nat → Int32) (wells_l : Int32) (next_l : Nat → Int32) (ways_l : Nat → Int32) (a2 : Int32) : Option ((Nat → Int32) × (Nat → Int64) × (Nat → Int32)) :=
  ob (lp (Symmetry_beginN_L15 wells_l next_l) (0, (1 : Int32) <<< (a2 &&& 31), 0, order_g)) fun x1 =>
  ob (lp (Symmetry_beginN_L93 wells_l next_l ways_l) (0, looks_g, twins_g)) fun x2 =>
  some (x1, x2.1, x2.2)
noncomputable def Symmetry_howManyN_L10 (order_g : Nat → Int32) (looks_g : Nat → Int64) (twins_g : Nat → Int32) (wells_l : Int32) (next_l : Nat → Int32) : (Int32 × Int32 × (Nat → Int32)) → Option ((Int32 × Int32 × (Nat → Int32)) ⊕ (Int32 × (Nat → Int32))) := fun s10 =>
  if s10.2.1 < wells_l then (ob (Symmetry_places order_g s10.2.2 looks_g twins_g wells_l next_l s10.2.1) fun x1 =>
  ob (Integer_bitCount x1.1) fun x2 =>
  some (.inl (s10.1 * x2, s10.2.1 + 1, x1.2))) else (some (.inr (s10.1, s10.2.2)))
noncomputable def Symmetry_howManyN (order_g : Nat → Int32) (images_g : Nat → Int32) (looks_g : Nat → Int64) (twins_g : Nat → Int32) (wells_l : Int32) (next_l : Nat → Int32) (ways_l : Nat → Int32) : Option (Int32 × (Nat → Int32) × (Nat → Int32) × (Nat → Int64) × (Nat → Int32)) :=
  ob (Symmetry_beginN order_g looks_g twins_g wells_l next_l ways_l 0) fun x1 =>
  ob (lp (Symmetry_howManyN_L10 x1.1 x1.2.1 x1.2.2 wells_l next_l) (1, 0, images_g)) fun x2 =>
  some (x2.1, x1.1, x2.2, x1.2.1, x1.2.2)
noncomputable def Symmetry_placesOfN (order_g : Nat → Int32) (images_g : Nat → Int32) (looks_g : Nat → Int64) (twins_g : Nat → Int32) (wells_l : Int32) (next_l : Nat → Int32) (ways_l : Nat → Int32) (a2 : Int32) : Option (Int32 × (Nat → Int32) × (Nat → Int32) × (Nat → Int64) × (Nat → Int32)) :=
  ob (Symmetry_beginN order_g looks_g twins_g wells_l next_l ways_l a2) fun x1 =>
  ob (Symmetry_places x1.1 images_g x1.2.1 x1.2.2 wells_l next_l 0) fun x2 =>
  some (x2.1, x1.1, x2.2, x1.2.1, x1.2.2)
