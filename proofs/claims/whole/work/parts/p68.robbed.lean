/-! ROBBERS: the loops -/
section RBD
variable {n : Nat} {nx : Nat → Nat} {nextTo : Nat → Int32}
theorem CloS.mono {G H : List (Nat → Nat)} {g : Nat → Nat} (h : CloS n nx G g) : CloS n nx (G ++ H) g :=
  ⟨fun w hw h0 => List.mem_append_left _ (h.1 w hw h0), fun v hv u hu h2 hb w hw h0 => List.mem_append_left _ (h.2 v hv u hu h2 hb w hw h0)⟩
theorem RG.at {G : List (Nat → Nat)} {C : Nat → List Nat} {τ : T7} (h : RG n G C τ) {i : Nat} (hi : i < G.length) : τ.2.1 i = cdS (G.getD i z0S) := by
  obtain ⟨⟨-, pl, -, -, h3, -⟩, -⟩ := h
  rw [h3 i (by rw [List.length_map]; exact hi), gF_cd hi]
theorem nI_neM {i : Nat} (h : i < 2 ^ 31) : ¬ nI i = -1 := fun e => by
  have h1 : (nI i).toInt = (-1 : Int32).toInt := by rw [e]
  rw [nI_toInt h] at h1
  have h2 : (-1 : Int32).toInt = -1 := by decide
  rw [h2] at h1
  omega
theorem chain_go (hG : GoodG n nx) (hn : n ≤ 8) (hx : ∀ w, w < 12 → nextTo w = nI (nx w)) {G : List (Nat → Nat)} {C : Nat → List Nat} {τ : T7} (h : RG n G C τ) {w : Nat} (hw : w < n) {t : Nat} (ht : t < 13) (v2 : Int32) :
    ∃ G' C' τ', lp (Mo_robbers_L78 (nI w) v2 nextTo (nI n)) (τ.2.2.2.2.2.1 t, τ) = some τ' ∧ RG n G' C' τ' ∧ ExS t G C τ G' C' τ' ∧ ∀ i ∈ C t, ¬ aoS n nx (G'.getD i z0S) w → CloS n nx G' (G'.getD i z0S) := by
  obtain ⟨h1, h2, h3, h4, h5⟩ := id h
  obtain ⟨r, r1, G', C', r2, r3, r4⟩ := lp_inv (f := Mo_robbers_L78 (nI w) v2 nextTo (nI n)) (fun k s => ∃ G' C' pre r, C t = pre ++ r ∧ pre.length = k ∧ RG n G' C' s.2 ∧ ExS t G C τ G' C' s.2 ∧ ChF s.2.2.2.2.2.1 s.1 r ∧ ∀ i ∈ pre, ¬ aoS n nx (G'.getD i z0S) w → CloS n nx G' (G'.getD i z0S)) (C t).length
    (fun r => ∃ G' C', RG n G' C' r ∧ ExS t G C τ G' C' r ∧ ∀ i ∈ C t, ¬ aoS n nx (G'.getD i z0S) w → CloS n nx G' (G'.getD i z0S))
    (by
      rintro k ⟨s1, σ⟩ hk ⟨G1, C1, pre, r, e1, e2, e3, e4, e5, e6⟩
      left
      cases r with
      | nil => exfalso; rw [e1, List.append_nil] at hk; omega
      | cons i r =>
        obtain ⟨f1, f2⟩ := e5
        have f1 : s1 = nI i := f1
        subst f1
        have hit := h5 t i ht (by rw [e1]; simp)
        have hlen : G.length ≤ G1.length := by obtain ⟨⟨H, rfl⟩, -, -⟩ := e4; rw [List.length_append]; omega
        have hgi : G1.getD i z0S = G.getD i z0S := by obtain ⟨⟨H, rfl⟩, -, -⟩ := e4; exact gF_app hit.1
        have hi1 : i < G1.length := by omega
        have hr1 := e3.room
        obtain ⟨G2, C2, σ2, c1, c2, c3, c4⟩ := goesOn_ok hG hn hx e3 (e3.2.1 _ (gF_mem hi1)) (s := t) (by rw [hgi, hit.2]; exact Nat.le_refl _) hw
        refine ⟨(σ2.2.2.2.2.1 i, σ2), ?_, G2, C2, pre ++ [i], r, by rw [e1]; simp, by rw [List.length_append, e2]; rfl, c2, e4.trans c3, ?_, ?_⟩
        · unfold Mo_robbers_L78
          show (if nI i = -1 then _ else gd (ix (nI i) 131072) (ob (Mo_goesOn nextTo (nI n) σ.1 σ.2.1 σ.2.2.1 σ.2.2.2.1 σ.2.2.2.2.1 σ.2.2.2.2.2.1 σ.2.2.2.2.2.2 (σ.2.1 (nI i).toNatClampNeg) (nI w)) _)) = _
          rw [if_neg (nI_neM (by omega)), gd_eq (ixN (show i < 131072 by omega) (by omega)), nI_clamp (by omega), e3.at hi1, ob_eq c1, gd_eq (ixN (show i < 131072 by omega) (by omega))]
        · show ChF σ2.2.2.2.2.1 (σ2.2.2.2.2.1 i) r
          rw [c3.2.2 i hi1]
          exact ChF_congr (fun j hj => c3.2.2 j (by have := (h5 t j ht (by rw [e1]; simp [hj])).1; omega)) f2
        · intro j hj
          obtain ⟨⟨H, rfl⟩, -, -⟩ := c3
          rcases List.mem_append.mp hj with z | z
          · have hj1 : j < G1.length := by have := (h5 t j ht (by rw [e1]; simp [z])).1; omega
            rw [gF_app hj1]
            exact fun ha => (e6 j z ha).mono
          · have : j = i := by simpa using z
            subst this
            rw [gF_app hi1]
            exact c4)
    (by
      rintro ⟨s1, σ⟩ ⟨G1, C1, pre, r, e1, e2, e3, e4, e5, e6⟩
      have hr : r = [] := by
        cases r with
        | nil => rfl
        | cons i r => exfalso; have := congrArg List.length e1; rw [List.length_append, e2] at this; simp at this
      subst hr
      rw [List.append_nil] at e1
      refine ⟨σ, ?_, G1, C1, e3, e4, by rw [e1]; exact e6⟩
      unfold Mo_robbers_L78
      exact if_pos e5)
    0 (τ.2.2.2.2.2.1 t, τ) (Nat.zero_le _) ⟨G, C, [], C t, rfl, rfl, h, ExS.refl, h3 t ht, fun i hi => by simp at hi⟩
  exact ⟨G', C', r, r1, r2, r3, r4⟩
/-- the first loop: all that may follow -/
theorem all_go (hG : GoodG n nx) (hn : n ≤ 8) (hx : ∀ w, w < 12 → nextTo w = nI (nx w)) {G : List (Nat → Nat)} {C : Nat → List Nat} {τ : T7} (h : RG n G C τ) {w : Nat} (hw : w < n) :
    ∃ G' C' τ', lp (Mo_robbers_L67 (nI w) nextTo (nI n)) ((12 : Int32), τ) = some τ' ∧ RG n G' C' τ' ∧ (∃ H, G' = G ++ H) ∧ ∀ i, i < G'.length → ¬ aoS n nx (G'.getD i z0S) w → CloS n nx G' (G'.getD i z0S) := by
  obtain ⟨r, r1, G', C', r2, r3, r4⟩ := lp_inv (f := Mo_robbers_L67 (nI w) nextTo (nI n)) (fun k s => (s.1 = if k < 13 then nI (12 - k) else -1) ∧ ∃ G' C', RG n G' C' s.2 ∧ (∃ H, G' = G ++ H) ∧ ∀ i, i < G'.length → 13 ≤ totS (G'.getD i z0S) 8 + k → ¬ aoS n nx (G'.getD i z0S) w → CloS n nx G' (G'.getD i z0S)) 13
    (fun r => ∃ G' C', RG n G' C' r ∧ (∃ H, G' = G ++ H) ∧ ∀ i, i < G'.length → ¬ aoS n nx (G'.getD i z0S) w → CloS n nx G' (G'.getD i z0S))
    (by
      rintro k ⟨s1, σ⟩ hk ⟨e1, G1, C1, e2, ⟨H, e3⟩, e4⟩
      have e1 : s1 = if k < 13 then nI (12 - k) else -1 := e1
      rw [if_pos hk] at e1
      subst e1
      left
      obtain ⟨G2, C2, σ2, c1, c2, c3, c4⟩ := chain_go hG hn hx e2 hw (show 12 - k < 13 by omega) (nI (12 - k))
      refine ⟨(nI (12 - k) + (-1), σ2), ?_, ?_, G2, C2, c2, ?_, ?_⟩
      · unfold Mo_robbers_L67
        show (if nI (12 - k) < 0 then _ else gd (ix (nI (12 - k)) 13) (ob (lp (Mo_robbers_L78 (nI w) (nI (12 - k)) nextTo (nI n)) (σ.2.2.2.2.2.1 (nI (12 - k)).toNatClampNeg, σ)) _)) = _
        rw [if_neg (fun z => by have := (nI_ltN (b := 0) (by omega) (by omega)).mp z; omega), gd_eq (ixN (show 12 - k < 13 by omega) (by omega)), nI_clamp (by omega), ob_eq c1]
      · show nI (12 - k) + (-1) = _
        by_cases e : k + 1 < 13
        · rw [if_pos e, show nI (12 - k) = nI (12 - (k + 1)) + 1 by rw [show (1 : Int32) = nI 1 from rfl, nI_ad]; congr 1; omega, Int32.add_assoc, show (1 : Int32) + (-1) = 0 by decide, Int32.add_zero]
        · rw [if_neg e, show 12 - k = 0 by omega]; decide
      · obtain ⟨⟨K, rfl⟩, -, -⟩ := c3
        exact ⟨H ++ K, by rw [e3]; simp⟩
      · intro i hi htk ha
        have h12 := (c2.2.1 _ (gF_mem hi)).2
        have hC := c2.2.2.2.1 i hi
        rw [c3.2.1 _ (show 12 - k ≤ totS (G2.getD i z0S) 8 by omega)] at hC
        by_cases e : totS (G2.getD i z0S) 8 = 12 - k
        · rw [e] at hC
          exact c4 i hC ha
        · have hi1 := (e2.2.2.2.2 _ i (by omega) hC).1
          obtain ⟨⟨K, rfl⟩, -, -⟩ := c3
          rw [gF_app hi1] at ha htk e ⊢
          exact (e4 i hi1 (by omega) ha).mono)
    (by
      rintro ⟨s1, σ⟩ ⟨e1, G1, C1, e2, e3, e4⟩
      have e1 : s1 = -1 := e1
      subst e1
      refine ⟨σ, ?_, G1, C1, e2, e3, fun i hi => e4 i hi (by omega)⟩
      unfold Mo_robbers_L67
      exact if_pos (show (-1 : Int32) < 0 by decide))
    0 ((12 : Int32), τ) (Nat.zero_le _) ⟨rfl, G, C, h, ⟨[], by simp⟩, fun i hi h13 => by have := (h.2.1 _ (gF_mem hi)).2; omega⟩
  exact ⟨G', C', r, r1, r2, r3, r4⟩
/-- who wins, along a chain -/
theorem chain_win (hG : GoodG n nx) (hn : n ≤ 8) (hx : ∀ w, w < 12 → nextTo w = nI (nx w)) {G : List (Nat → Nat)} {C : Nat → List Nat} {τ : T7} (h : RG n G C τ) {w : Nat} (hw : w < n) (hcl : ∀ i, i < G.length → ¬ aoS n nx (G.getD i z0S) w → CloS n nx G (G.getD i z0S)) {t : Nat} (ht : t < 13) (v2 : Int32) {cw : Nat → Int32}
    (hW : ∀ i, i < G.length → totS (G.getD i z0S) 8 < t → (cw i = 0 ↔ ¬ aoS n nx (G.getD i z0S) w)) :
    ∃ cw', lp (Mo_robbers_L125 (nI w) v2 nextTo (nI n) τ.2.2.2.2.1) (τ.2.2.2.2.2.1 t, τ.1, τ.2.1, τ.2.2.1, τ.2.2.2.1, cw) = some (τ.1, τ.2.1, τ.2.2.1, τ.2.2.2.1, cw') ∧ ∀ i, i < G.length → totS (G.getD i z0S) 8 < t + 1 → (cw' i = 0 ↔ ¬ aoS n nx (G.getD i z0S) w) := by
  have hr := h.room
  obtain ⟨h1, h2, h3, h4, h5⟩ := id h
  obtain ⟨r, r1, cw', r2, r3⟩ := lp_inv (f := Mo_robbers_L125 (nI w) v2 nextTo (nI n) τ.2.2.2.2.1) (fun k s => ∃ cw1 x pre r, s = (x, τ.1, τ.2.1, τ.2.2.1, τ.2.2.2.1, cw1) ∧ C t = pre ++ r ∧ pre.length = k ∧ ChF τ.2.2.2.2.1 x r ∧ ∀ i, i < G.length → (totS (G.getD i z0S) 8 < t ∨ i ∈ pre) → (cw1 i = 0 ↔ ¬ aoS n nx (G.getD i z0S) w)) (C t).length
    (fun r => ∃ cw', r = (τ.1, τ.2.1, τ.2.2.1, τ.2.2.2.1, cw') ∧ ∀ i, i < G.length → totS (G.getD i z0S) 8 < t + 1 → (cw' i = 0 ↔ ¬ aoS n nx (G.getD i z0S) w))
    (by
      rintro k s hk ⟨cw1, x, pre, r, rfl, e1, e2, e5, e6⟩
      left
      cases r with
      | nil => exfalso; rw [e1, List.append_nil] at hk; omega
      | cons i r =>
        obtain ⟨f1, f2⟩ := e5
        subst f1
        have hit := h5 t i ht (by rw [e1]; simp)
        have hi1 := hit.1
        have hwin := wins_ok hG hn hx hr h1 (cw := cw1) (h2 _ (gF_mem hi1)) hw (hcl i hi1) (fun j hj hjt => (e6 j hj (.inl (by rw [hit.2] at hjt; exact hjt))).mpr)
        obtain ⟨b, hb1, hb2⟩ : ∃ b : Int32, Mo_wins nextTo (nI n) τ.1 τ.2.1 τ.2.2.1 τ.2.2.2.1 cw1 (cdS (G.getD i z0S)) (nI w) = some (b, τ.1, τ.2.1, τ.2.2.1, τ.2.2.2.1) ∧ (vp_nar .boolean b = 0 ↔ ¬ aoS n nx (G.getD i z0S) w) := by
          rcases hwin with ⟨a1, a2⟩ | ⟨a1, a2⟩
          · exact ⟨1, a1, fun z => absurd z (by decide), fun z => absurd a2 z⟩
          · exact ⟨0, a1, fun _ => a2, fun _ => by decide⟩
        refine ⟨(τ.2.2.2.2.1 i, τ.1, τ.2.1, τ.2.2.1, τ.2.2.2.1, upd cw1 i (vp_nar .boolean b)), ?_, upd cw1 i (vp_nar .boolean b), τ.2.2.2.2.1 i, pre ++ [i], r, rfl, by rw [e1]; simp, by rw [List.length_append, e2]; rfl, f2, ?_⟩
        · unfold Mo_robbers_L125
          show (if nI i = -1 then _ else gd (ix (nI i) 131072) (ob (Mo_wins nextTo (nI n) τ.1 τ.2.1 τ.2.2.1 τ.2.2.2.1 cw1 (τ.2.1 (nI i).toNatClampNeg) (nI w)) _)) = _
          rw [if_neg (nI_neM (by omega)), gd_eq (ixN (show i < 131072 by omega) (by omega)), nI_clamp (by omega), h.at hi1, ob_eq hb1, gd_eq (ixN (show i < 131072 by omega) (by omega)), gd_eq (ixN (show i < 131072 by omega) (by omega))]
        · intro j hj hjt
          by_cases e : j = i
          · subst e; rw [upd_at]; exact hb2
          · rw [upd_ne e]
            refine e6 j hj ?_
            rcases hjt with z | z
            · exact .inl z
            · rcases List.mem_append.mp z with z | z
              · exact .inr z
              · exact absurd (by simpa using z) e)
    (by
      rintro s ⟨cw1, x, pre, r, rfl, e1, e2, e5, e6⟩
      have hr : r = [] := by
        cases r with
        | nil => rfl
        | cons i r => exfalso; have := congrArg List.length e1; rw [List.length_append, e2] at this; simp at this
      subst hr
      rw [List.append_nil] at e1
      refine ⟨(τ.1, τ.2.1, τ.2.2.1, τ.2.2.2.1, cw1), ?_, cw1, rfl, fun i hi hit => ?_⟩
      · unfold Mo_robbers_L125
        exact if_pos e5
      · refine e6 i hi ?_
        by_cases e : totS (G.getD i z0S) 8 < t
        · exact .inl e
        · right
          have := h4 i hi
          rw [show totS (G.getD i z0S) 8 = t by omega, e1] at this
          exact this)
    0 (τ.2.2.2.2.2.1 t, τ.1, τ.2.1, τ.2.2.1, τ.2.2.2.1, cw) (Nat.zero_le _) ⟨cw, _, [], C t, rfl, rfl, rfl, h3 t ht, fun i hi hit => hW i hi (hit.resolve_right (by simp))⟩
  exact ⟨cw', by rw [r1, r2], r3⟩
theorem all_win (hG : GoodG n nx) (hn : n ≤ 8) (hx : ∀ w, w < 12 → nextTo w = nI (nx w)) {G : List (Nat → Nat)} {C : Nat → List Nat} {τ : T7} (h : RG n G C τ) {w : Nat} (hw : w < n) (hcl : ∀ i, i < G.length → ¬ aoS n nx (G.getD i z0S) w → CloS n nx G (G.getD i z0S)) :
    ∃ cw', lp (Mo_robbers_L112 (nI w) nextTo (nI n) τ.2.2.2.2.1 τ.2.2.2.2.2.1) ((0 : Int32), τ.1, τ.2.1, τ.2.2.1, τ.2.2.2.1, τ.2.2.2.2.2.2) = some (τ.1, τ.2.1, τ.2.2.1, τ.2.2.2.1, cw') ∧ ∀ i, i < G.length → (cw' i = 0 ↔ ¬ aoS n nx (G.getD i z0S) w) := by
  obtain ⟨r, r1, cw', r2, r3⟩ := lp_inv (f := Mo_robbers_L112 (nI w) nextTo (nI n) τ.2.2.2.2.1 τ.2.2.2.2.2.1) (fun k s => ∃ cw1, s = (nI k, τ.1, τ.2.1, τ.2.2.1, τ.2.2.2.1, cw1) ∧ ∀ i, i < G.length → totS (G.getD i z0S) 8 < k → (cw1 i = 0 ↔ ¬ aoS n nx (G.getD i z0S) w)) 13
    (fun r => ∃ cw', r = (τ.1, τ.2.1, τ.2.2.1, τ.2.2.2.1, cw') ∧ ∀ i, i < G.length → (cw' i = 0 ↔ ¬ aoS n nx (G.getD i z0S) w))
    (by
      rintro k s hk ⟨cw1, rfl, e1⟩
      left
      obtain ⟨cw2, c1, c2⟩ := chain_win hG hn hx h hw hcl hk (nI k) e1
      refine ⟨(nI (k + 1), τ.1, τ.2.1, τ.2.2.1, τ.2.2.2.1, cw2), ?_, cw2, rfl, c2⟩
      unfold Mo_robbers_L112
      show (if nI k < nI 13 then gd (ix (nI k) 13) (ob (lp (Mo_robbers_L125 (nI w) (nI k) nextTo (nI n) τ.2.2.2.2.1) (τ.2.2.2.2.2.1 (nI k).toNatClampNeg, τ.1, τ.2.1, τ.2.2.1, τ.2.2.2.1, cw1)) _) else _) = _
      rw [if_pos ((nI_ltN (by omega) (by omega)).mpr hk), gd_eq (ixN hk (by omega)), nI_clamp (by omega), ob_eq c1]
      show some (Sum.inl (nI k + 1, τ.1, τ.2.1, τ.2.2.1, τ.2.2.2.1, cw2)) = _
      rw [show nI k + 1 = nI (k + 1) from nI_ad k 1])
    (by
      rintro s ⟨cw1, rfl, e1⟩
      refine ⟨(τ.1, τ.2.1, τ.2.2.1, τ.2.2.2.1, cw1), ?_, cw1, rfl, fun i hi => e1 i hi (by have := (h.2.1 _ (gF_mem hi)).2; omega)⟩
      unfold Mo_robbers_L112
      exact if_neg (show ¬ nI 13 < 13 by decide))
    0 ((0 : Int32), τ.1, τ.2.1, τ.2.2.1, τ.2.2.2.1, τ.2.2.2.2.2.2) (Nat.zero_le _) ⟨_, rfl, fun i _ h0 => by omega⟩
  exact ⟨cw', by rw [r1, r2], r3⟩
end RBD
