/-! THE CLASS'S NUMBERS: its list of moves -/
theorem nodup_map_on {α : Type} {φ : α → Nat} : ∀ {l : List α}, l.Nodup → (∀ x ∈ l, ∀ y ∈ l, φ x = φ y → x = y) → (l.map φ).Nodup := by
  intro l
  induction l with
  | nil => intro _ _; exact List.nodup_nil
  | cons a l ih =>
    intro h inj
    rw [List.nodup_cons] at h
    rw [List.map_cons, List.nodup_cons]
    refine ⟨fun z => ?_, ih h.2 (fun x hx y hy => inj x (List.mem_cons_of_mem _ hx) y (List.mem_cons_of_mem _ hy))⟩
    obtain ⟨y, y1, y2⟩ := List.mem_map.mp z
    have := inj y (List.mem_cons_of_mem _ y1) a (List.mem_cons_self) y2
    rw [this] at y1
    exact h.1 y1
theorem pairs_len {l : List (Nat × Nat)} (h : l.Nodup) (hp : ∀ p ∈ l, p.1 < 12 ∧ p.2 < 12 ∧ ¬ p.2 = p.1) : l.length ≤ 132 := by
  have h1 := nodup_map_on (φ := fun p : Nat × Nat => p.1 * 11 + if p.2 < p.1 then p.2 else p.2 - 1) h (fun x hx y hy e => by
    obtain ⟨a1, a2, a3⟩ := hp x hx
    obtain ⟨b1, b2, b3⟩ := hp y hy
    obtain ⟨x1, x2⟩ := x
    obtain ⟨y1, y2⟩ := y
    dsimp only at a1 a2 a3 b1 b2 b3 e
    have : x1 = y1 ∧ x2 = y2 := by
      split at e <;> split at e <;> omega
    rw [this.1, this.2])
  have h2 := nodup_len (n := 132) h1 (fun q hq => by
    obtain ⟨p, p1, p2⟩ := List.mem_map.mp hq
    obtain ⟨a1, a2, a3⟩ := hp p p1
    split at p2 <;> omega)
  rw [List.length_map] at h2
  exact h2
def MVr (n : Nat) (d : Nat → Nat) (VL : List (Nat × Nat)) (two full change : Nat → Int32) (mv : Int32) : Prop :=
  mv = nI VL.length ∧ ∀ i, i < VL.length → two i = nI (less (fdS (d (VL.getD i (0, 0)).1) (shC n d (VL.getD i (0, 0)).1)) (2 ^ shC n d (VL.getD i (0, 0)).1)) ∧ full i = nI (fdS (d (VL.getD i (0, 0)).2) (shC n d (VL.getD i (0, 0)).2)) ∧ change i = nI (2 ^ shC n d (VL.getD i (0, 0)).2) - nI (2 * 2 ^ shC n d (VL.getD i (0, 0)).1)
theorem MVr.add {n : Nat} {d : Nat → Nat} {VL : List (Nat × Nat)} {two full change : Nat → Int32} {mv : Int32} (h : MVr n d VL two full change mv) (p : Nat × Nat) : MVr n d (VL ++ [p]) (upd two VL.length (nI (less (fdS (d p.1) (shC n d p.1)) (2 ^ shC n d p.1)))) (upd full VL.length (nI (fdS (d p.2) (shC n d p.2)))) (upd change VL.length (nI (2 ^ shC n d p.2) - nI (2 * 2 ^ shC n d p.1))) (nI (VL.length + 1)) := by
  refine ⟨by rw [List.length_append]; rfl, fun i hi => ?_⟩
  rw [List.length_append] at hi
  have hi : i < VL.length + 1 := hi
  by_cases e : i = VL.length
  · subst e
    rw [upd_at, upd_at, upd_at, List.getD_eq_getElem?_getD, List.getElem?_append_right (Nat.le_refl _), Nat.sub_self]
    exact ⟨rfl, rfl, rfl⟩
  · rw [upd_ne e, upd_ne e, upd_ne e, List.getD_eq_getElem?_getD, List.getElem?_append_left (by omega), ← List.getD_eq_getElem?_getD]
    exact h.2 i (by omega)
def lgS (n : Nat) (nx d : Nat → Nat) (p : Nat × Nat) : Prop := p.1 < n ∧ p.2 < n ∧ (nx p.1).testBit p.2 = true ∧ 2 ≤ d p.1
section VMV
variable {n : Nat} {nx d : Nat → Nat} {w : Nat} {next ways sh fi : Nat → Int32}
/-- what is in the list, in the midst of a pass -/
def VLs (n : Nat) (nx d : Nat → Nat) (VL0 : List (Nat × Nat)) (F : Bool) (a b : Nat) (VL : List (Nat × Nat)) : Prop :=
  VL.Nodup ∧ ∀ p, p ∈ VL ↔ p ∈ VL0 ∨ (lgS n nx d p ∧ decide (d p.2 < d p.1) = F ∧ (p.1 < a ∨ p.1 = a ∧ p.2 < b))
theorem vmoves_ok (hG : GoodG n nx) (hx : ∀ w, w < 12 → next w = nI (nx w)) (hw : w < n) (hr : RW n nx ways) (hd : ∀ v, v < n → dI n nx v w = nI (d v)) (hs : totS d n ≤ 16) (hF : FSs n d sh fi) {VL0 : List (Nat × Nat)} (F : Bool) {v3 : Int32} (hv3 : v3 = if F then 1 else 0) (h0 : VL0.Nodup) (hl0 : ∀ p ∈ VL0, lgS n nx d p ∧ ¬ decide (d p.2 < d p.1) = F) {two full change : Nat → Int32} {mv : Int32} (hM : MVr n d VL0 two full change mv) :
    ∃ VL two' full' change' mv', Numbers_listMoves sh fi two full change mv (nI n) (nI n) next ways (nI w) v3 = some (two', full', change', mv') ∧ MVr n d VL two' full' change' mv' ∧ VL.Nodup ∧ ∀ p, p ∈ VL ↔ p ∈ VL0 ∨ (lgS n nx d p ∧ decide (d p.2 < d p.1) = F) := by
  have n12 := hG.1
  have hd16 : ∀ v, v < n → d v ≤ 16 := fun v hv => by have := totS_le (g := d) hv; omega
  -- one pair
  have inner : ∀ a, a < n → ∀ (τ : (Nat → Int32) × (Nat → Int32) × (Nat → Int32) × Int32) VL1, MVr n d VL1 τ.1 τ.2.1 τ.2.2.1 τ.2.2.2 → VLs n nx d VL0 F a 0 VL1 → ∃ τ' VL2, lp (Numbers_listMoves_L15 (nI w) v3 (nI a) sh fi (nI n) (nI n) next ways) (0, τ) = some τ' ∧ MVr n d VL2 τ'.1 τ'.2.1 τ'.2.2.1 τ'.2.2.2 ∧ VLs n nx d VL0 F a n VL2 := by
    intro a ha τ VL1 h1 h2
    obtain ⟨τ', q1, VL2, q2, q3⟩ := lp_inv (f := Numbers_listMoves_L15 (nI w) v3 (nI a) sh fi (nI n) (nI n) next ways) (fun k s => s.1 = nI k ∧ ∃ VL, MVr n d VL s.2.1 s.2.2.1 s.2.2.2.1 s.2.2.2.2 ∧ VLs n nx d VL0 F a k VL) n
      (fun r => ∃ VL, MVr n d VL r.1 r.2.1 r.2.2.1 r.2.2.2 ∧ VLs n nx d VL0 F a n VL)
      (by
        rintro k ⟨s1, two, full, change, mv⟩ hk ⟨e1, VL, e2, e3⟩
        have e1 : s1 = nI k := e1
        have e2 : MVr n d VL two full change mv := e2
        subst e1
        left
        have hmv : mv = nI VL.length := e2.1
        have hda := hd16 a ha
        have hdk := hd16 k hk
        have hmvl : ∀ (j : Int32), Numbers_listMoves_L15_J168 (nI w) v3 (nI a) (nI k) sh fi two full change mv (nI n) (nI n) next ways = some (.inl (nI k + 1, two, full, change, mv)) := fun _ => rfl
        have hsa := shC_le (d := d) ha
        have hsk := shC_le (d := d) hk
        have hfa := fd_lt17 hs ha
        have hix : ∀ v, v < n → ix (nI v) 12 = true := fun v hv => ixN (by omega) (by omega)
        have hpa : 2 ^ shC n d a ≤ 2 ^ 16 := Nat.pow_le_pow_right (by omega) (by omega)
        have hhead : Numbers_listMoves_L15 (nI w) v3 (nI a) sh fi (nI n) (nI n) next ways (nI k, two, full, change, mv) = if (if (nx a).testBit k then (1 : Int32) else 0) = 0 then some (.inl (nI k + 1, two, full, change, mv)) else if nI (d a) < 2 then some (.inl (nI k + 1, two, full, change, mv)) else if (if d k < d a then (1 : Int32) else 0) = v3 then (if mv < 132 then gd (ix mv 132) (gd (ix mv 132) (gd (ix mv 132) (some (.inl (nI k + 1, upd two mv.toNatClampNeg (nI (less (fdS (d a) (shC n d a)) (2 ^ shC n d a))), upd full mv.toNatClampNeg (nI (fdS (d k) (shC n d k))), upd change mv.toNatClampNeg (nI (2 ^ shC n d k) - nI (2 * 2 ^ shC n d a)), mv + 1))))) else some (.inl (nI k + 1, two, full, change, mv))) else some (.inl (nI k + 1, two, full, change, mv)) := by
          have hJ : ∀ k0 : Int32, Numbers_listMoves_L15_J46 (nI w) v3 (nI a) (nI k) k0 sh fi two full change mv (nI n) (nI n) next ways = if (if (nx a).testBit k then (1 : Int32) else 0) = 0 then some (.inl (nI k + 1, two, full, change, mv)) else if nI (d a) < 2 then some (.inl (nI k + 1, two, full, change, mv)) else if k0 = v3 then (if mv < 132 then gd (ix mv 132) (gd (ix mv 132) (gd (ix mv 132) (some (.inl (nI k + 1, upd two mv.toNatClampNeg (nI (less (fdS (d a) (shC n d a)) (2 ^ shC n d a))), upd full mv.toNatClampNeg (nI (fdS (d k) (shC n d k))), upd change mv.toNatClampNeg (nI (2 ^ shC n d k) - nI (2 * 2 ^ shC n d a)), mv + 1))))) else some (.inl (nI k + 1, two, full, change, mv))) else some (.inl (nI k + 1, two, full, change, mv)) := fun k0 => by
            unfold Numbers_listMoves_L15_J46
            rw [ob_eq (areNext_in hG hx ha hk), ob_eq (way_in n12 ha hw), hr a w ha hw, hd a ha, gd_eq (hix a ha), gd_eq (hix a ha), gd_eq (hix k hk), gd_eq (hix k hk), gd_eq (hix a ha), nI_clamp (show a < 2 ^ 31 by omega), nI_clamp (show k < 2 ^ 31 by omega), (hF a ha).1, (hF a ha).2, (hF k hk).1, (hF k hk).2, shl_nI (by omega), shl_nI (by omega), show (2 : Int32) <<< (nI (shC n d a) &&& 31) = nI (2 * 2 ^ shC n d a) from pk_shlN (n := 2) _ _ (sm32 _ (by omega)) (by omega), nand_nI (by omega) (by omega)]
            rfl
          unfold Numbers_listMoves_L15
          show (if nI k < nI n then _ else _) = _
          rw [if_pos ((nI_ltN (by omega) (by omega)).mpr hk)]
          dsimp only
          rw [ob_eq (way_in n12 hk hw), hr k w hk hw, hd k hk, ob_eq (way_in n12 ha hw), hr a w ha hw, hd a ha]
          by_cases z : d k < d a
          · rw [if_pos ((nI_ltN (by omega) (by omega)).mpr z), hJ, if_pos z]
          · rw [if_neg (fun y => z ((nI_ltN (by omega) (by omega)).mp y)), hJ, if_neg z]
        -- nothing is added
        have none : ¬ (lgS n nx d (a, k) ∧ decide (d k < d a) = F) → VLs n nx d VL0 F a (k + 1) VL := fun hno => by
          refine ⟨e3.1, fun p => ?_⟩
          rw [e3.2 p]
          constructor
          · rintro (z | ⟨z1, z2, z3⟩)
            · exact Or.inl z
            · exact Or.inr ⟨z1, z2, by omega⟩
          · rintro (z | ⟨z1, z2, z3⟩)
            · exact Or.inl z
            · by_cases y : p.1 = a ∧ p.2 = k
              · exfalso
                obtain ⟨p1, p2⟩ := p
                obtain ⟨y1, y2⟩ := y
                have y1 : p1 = a := y1
                have y2 : p2 = k := y2
                subst y1; subst y2
                exact hno ⟨z1, z2⟩
              · exact Or.inr ⟨z1, z2, by omega⟩
        rw [hhead]
        cases ht : (nx a).testBit k with
        | false =>
          refine ⟨_, if_pos rfl, nI_ad k 1, VL, e2, none (fun z => ?_)⟩
          have := z.1.2.2.1
          have this : (nx a).testBit k = true := this
          rw [ht] at this; cases this
        | true =>
          rw [if_neg (show ¬ (if true = true then (1 : Int32) else 0) = 0 by decide)]
          by_cases h2 : d a < 2
          · refine ⟨_, if_pos ((nI_ltN (b := 2) (by omega) (by omega)).mpr h2), nI_ad k 1, VL, e2, none (fun z => ?_)⟩
            have := z.1.2.2.2
            have this : 2 ≤ d a := this
            omega
          · rw [if_neg (show ¬ nI (d a) < 2 from fun z => h2 ((nI_ltN (b := 2) (by omega) (by omega)).mp z))]
            by_cases hf : decide (d k < d a) = F
            · have hff : (if d k < d a then (1 : Int32) else 0) = v3 := by
                rw [hv3, ← hf]
                by_cases z : d k < d a
                · rw [if_pos z, decide_eq_true z]; rfl
                · rw [if_neg z, decide_eq_false z]; rfl
              have hlg : lgS n nx d (a, k) := ⟨ha, hk, ht, by show 2 ≤ d a; omega⟩
              have hnin : ¬ (a, k) ∈ VL := fun z => by
                rcases (e3.2 (a, k)).mp z with y | ⟨-, -, y⟩
                · exact (hl0 _ y).2 hf
                · have y : a < a ∨ a = a ∧ k < k := y
                  omega
              have hnew : VLs n nx d VL0 F a (k + 1) (VL ++ [(a, k)]) := by
                refine ⟨List.nodup_append.mpr ⟨e3.1, by simp, fun x hx y hy e => ?_⟩, fun p => ?_⟩
                · rw [List.mem_singleton.mp hy] at e
                  rw [e] at hx
                  exact hnin hx
                · rw [List.mem_append, List.mem_singleton, e3.2 p]
                  constructor
                  · rintro ((z | ⟨z1, z2, z3⟩) | z)
                    · exact Or.inl z
                    · exact Or.inr ⟨z1, z2, by omega⟩
                    · subst z; exact Or.inr ⟨hlg, hf, Or.inr ⟨rfl, Nat.lt_succ_self _⟩⟩
                  · rintro (z | ⟨z1, z2, z3⟩)
                    · exact Or.inl (Or.inl z)
                    · by_cases y : p.1 = a ∧ p.2 = k
                      · right
                        obtain ⟨p1, p2⟩ := p
                        obtain ⟨y1, y2⟩ := y
                        have y1 : p1 = a := y1
                        have y2 : p2 = k := y2
                        rw [y1, y2]
                      · exact Or.inl (Or.inr ⟨z1, z2, by omega⟩)
              have hlen := pairs_len hnew.1 (fun p hp => by
                have hl : lgS n nx d p := by
                  rcases (hnew.2 p).mp hp with y | ⟨y, -⟩
                  · exact (hl0 p y).1
                  · exact y
                obtain ⟨l1, l2, l3, l4⟩ := hl
                refine ⟨by omega, by omega, fun e => ?_⟩
                rw [e, hG.2.2.2.2] at l3; cases l3)
              rw [List.length_append] at hlen
              have hlen : VL.length + 1 ≤ 132 := hlen
              have hix2 : ix mv 132 = true := by rw [hmv]; exact ixN (by omega) (by omega)
              have hc : mv.toNatClampNeg = VL.length := by rw [hmv, nI_clamp (by omega)]
              rw [if_pos hff, if_pos (show mv < 132 by rw [hmv]; exact (nI_ltN (b := 132) (by omega) (by omega)).mpr (by omega)), gd_eq hix2, gd_eq hix2, gd_eq hix2, hc]
              refine ⟨_, rfl, nI_ad k 1, VL ++ [(a, k)], ?_, hnew⟩
              have hm1 : mv + 1 = nI (VL.length + 1) := by rw [hmv]; exact nI_ad _ 1
              show MVr n d (VL ++ [(a, k)]) (upd two VL.length (nI (less (fdS (d a) (shC n d a)) (2 ^ shC n d a)))) (upd full VL.length (nI (fdS (d k) (shC n d k)))) (upd change VL.length (nI (2 ^ shC n d k) - nI (2 * 2 ^ shC n d a))) (mv + 1)
              rw [hm1]
              exact e2.add (a, k)
            · have hff : ¬ (if d k < d a then (1 : Int32) else 0) = v3 := fun e => hf (by
                rw [hv3] at e
                by_cases z : d k < d a
                · rw [decide_eq_true z]
                  rw [if_pos z] at e
                  cases F with
                  | true => rfl
                  | false => exact absurd e (by decide)
                · rw [decide_eq_false z]
                  rw [if_neg z] at e
                  cases F with
                  | true => exact absurd e (by decide)
                  | false => rfl)
              exact ⟨_, if_neg hff, nI_ad k 1, VL, e2, none (fun z => hf z.2)⟩)
      (by
        rintro ⟨s1, τ⟩ ⟨e1, e2⟩
        have e1 : s1 = nI n := e1
        subst e1
        refine ⟨τ, ?_, e2⟩
        unfold Numbers_listMoves_L15
        exact if_neg (fun z => by have := (nI_ltN (by omega) (by omega)).mp z; omega))
      0 (0, τ) (Nat.zero_le _) ⟨rfl, VL1, h1, h2⟩
    exact ⟨τ', VL2, q1, q2, q3⟩
  obtain ⟨⟨two', full', change', mv'⟩, q1, VL, q2, q3⟩ := lp_inv (f := Numbers_listMoves_L3 (nI w) v3 sh fi (nI n) (nI n) next ways) (fun k s => s.1 = nI k ∧ ∃ VL, MVr n d VL s.2.1 s.2.2.1 s.2.2.2.1 s.2.2.2.2 ∧ VLs n nx d VL0 F k 0 VL) n
    (fun r => ∃ VL, MVr n d VL r.1 r.2.1 r.2.2.1 r.2.2.2 ∧ VLs n nx d VL0 F n 0 VL)
    (by
      rintro k ⟨s1, τ⟩ hk ⟨e1, VL, e2, e3⟩
      have e1 : s1 = nI k := e1
      subst e1
      left
      obtain ⟨τ', VL2, q1, q2, q3⟩ := inner k hk τ VL e2 e3
      refine ⟨(nI k + 1, τ'), ?_, nI_ad k 1, VL2, q2, q3.1, fun p => ?_⟩
      · unfold Numbers_listMoves_L3
        show (if nI k < nI n then _ else _) = _
        rw [if_pos ((nI_ltN (by omega) (by omega)).mpr hk)]
        show ob (lp (Numbers_listMoves_L15 (nI w) v3 (nI k) sh fi (nI n) (nI n) next ways) (0, τ)) _ = _
        rw [ob_eq q1]
      · rw [q3.2 p]
        constructor
        · rintro (z | ⟨z1, z2, z3⟩)
          · exact Or.inl z
          · exact Or.inr ⟨z1, z2, by omega⟩
        · rintro (z | ⟨z1, z2, z3⟩)
          · exact Or.inl z
          · exact Or.inr ⟨z1, z2, by have := z1.2.1; omega⟩)
    (by
      rintro ⟨s1, τ⟩ ⟨e1, e2⟩
      have e1 : s1 = nI n := e1
      subst e1
      refine ⟨τ, ?_, e2⟩
      unfold Numbers_listMoves_L3
      exact if_neg (fun z => by have := (nI_ltN (by omega) (by omega)).mp z; omega))
    0 (0, two, full, change, mv) (Nat.zero_le _) ⟨rfl, VL0, hM, h0, fun p => ⟨Or.inl, fun z => by
      rcases z with z | ⟨-, -, z⟩
      · exact z
      · omega⟩⟩
  refine ⟨VL, two', full', change', mv', ob_eq q1, q2, q3.1, fun p => ?_⟩
  rw [q3.2 p]
  constructor
  · rintro (z | ⟨z1, z2, -⟩)
    · exact Or.inl z
    · exact Or.inr ⟨z1, z2⟩
  · rintro (z | ⟨z1, z2⟩)
    · exact Or.inl z
    · exact Or.inr ⟨z1, z2, Or.inl z1.1⟩
end VMV
