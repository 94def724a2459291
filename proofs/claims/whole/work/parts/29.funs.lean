/-! constructors' loops -/
noncomputable def Ranks_init_L22_J75 (v1 : Int32) (v2 : Int32) (k0 : Int32) (k1 : Int32) (below_k : Nat → Int32) : Option ((Int32 × (Nat → Int32)) ⊕ (Nat → Int32)) :=
  gd (ix k1 112) (some (.inl (v2 + 1, upd below_k (k1 : Int32).toNatClampNeg k0)))
noncomputable def Ranks_init_L22 (v1 : Int32) : (Int32 × (Nat → Int32)) → Option ((Int32 × (Nat → Int32)) ⊕ (Nat → Int32)) := fun s22 =>
  if s22.1 < 14 then (gd (ix (((v1 * 14) + s22.1) - 1) 112) (if v1 = 0 then (Ranks_init_L22_J75 v1 s22.1 s22.1 ((v1 * 14) + s22.1) s22.2) else (gd (ix (((v1 - 1) * 14) + s22.1) 112) (Ranks_init_L22_J75 v1 s22.1 ((s22.2 (((v1 * 14) + s22.1) - 1 : Int32).toNatClampNeg) + (s22.2 (((v1 - 1) * 14) + s22.1 : Int32).toNatClampNeg)) ((v1 * 14) + s22.1) s22.2)))) else (some (.inr s22.2))
noncomputable def Ranks_init_L14  : (Int32 × (Nat → Int32)) → Option ((Int32 × (Nat → Int32)) ⊕ (Nat → Int32)) := fun s14 =>
  if s14.1 < 8 then (ob (lp (Ranks_init_L22 s14.1) (1, s14.2)) fun x1 =>
  some (.inl (s14.1 + 1, x1))) else (some (.inr s14.2))
noncomputable def Mo_init_L436  : (Int32 × (Nat → Int32)) → Option ((Int32 × (Nat → Int32)) ⊕ (Nat → Int32)) := fun s436 =>
  if s436.1 < 12 then (gd (ix (12 + s436.1) 27) (some (.inl (s436.1 + 1, upd s436.2 (12 + s436.1 : Int32).toNatClampNeg 40)))) else (some (.inr s436.2))
noncomputable def Ranks_init : Option (Nat → Int32) := lp (Ranks_init_L14 ) (0, fun _ => 0)
noncomputable def Mo_init : Option (Nat → Int32) := lp (Mo_init_L436 ) (0, upd (fun _ => 0 : Nat → Int32) (26 : Int32).toNatClampNeg 1)
