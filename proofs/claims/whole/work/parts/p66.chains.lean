/-! ROBBERS: the reference's chains of states -/
abbrev T7 : Type := (Nat → Int32) × (Nat → Int32) × (Nat → Int32) × Int32 × (Nat → Int32) × (Nat → Int32) × (Nat → Int32)
def z0S : Nat → Nat := fun _ => 0
def ChF (f : Nat → Int32) : Int32 → List Nat → Prop
  | x, [] => x = -1
  | x, i :: r => x = nI i ∧ ChF f (f i) r
theorem ChF_congr {f f' : Nat → Int32} : ∀ {l : List Nat} {x : Int32}, (∀ i ∈ l, f' i = f i) → ChF f x l → ChF f' x l := by
  intro l
  induction l with
  | nil => intro x _ h; exact h
  | cons i r ih =>
    intro x h1 h2
    refine ⟨h2.1, ?_⟩
    rw [h1 i (by simp)]
    exact ih (fun j hj => h1 j (by simp [hj])) h2.2
def RG (n : Nat) (G : List (Nat → Nat)) (C : Nat → List Nat) (τ : T7) : Prop :=
  HT (G.map cdS) τ.1 τ.2.1 τ.2.2.1 τ.2.2.2.1 ∧ (∀ g ∈ G, SG n g) ∧ (∀ t, t < 13 → ChF τ.2.2.2.2.1 (τ.2.2.2.2.2.1 t) (C t)) ∧ (∀ i, i < G.length → i ∈ C (totS (G.getD i z0S) 8)) ∧ (∀ t i, t < 13 → i ∈ C t → i < G.length ∧ totS (G.getD i z0S) 8 = t)
def ExS (s : Nat) (G : List (Nat → Nat)) (C : Nat → List Nat) (τ : T7) (G' : List (Nat → Nat)) (C' : Nat → List Nat) (τ' : T7) : Prop :=
  (∃ H, G' = G ++ H) ∧ (∀ t, s ≤ t → C' t = C t) ∧ ∀ i, i < G.length → τ'.2.2.2.2.1 i = τ.2.2.2.2.1 i
theorem ExS.refl {s : Nat} {G : List (Nat → Nat)} {C : Nat → List Nat} {τ : T7} : ExS s G C τ G C τ := ⟨⟨[], by simp⟩, fun _ _ => rfl, fun _ _ => rfl⟩
theorem ExS.trans {s : Nat} {G G' G'' : List (Nat → Nat)} {C C' C'' : Nat → List Nat} {τ τ' τ'' : T7} (h1 : ExS s G C τ G' C' τ') (h2 : ExS s G' C' τ' G'' C'' τ'') : ExS s G C τ G'' C'' τ'' := by
  obtain ⟨⟨H, rfl⟩, a2, a3⟩ := h1
  obtain ⟨⟨K, rfl⟩, b2, b3⟩ := h2
  refine ⟨⟨H ++ K, by simp⟩, fun t ht => by rw [b2 t ht, a2 t ht], fun i hi => ?_⟩
  rw [b3 i (by rw [List.length_append]; omega), a3 i hi]
theorem ExS.mem {s : Nat} {G G' : List (Nat → Nat)} {C C' : Nat → List Nat} {τ τ' : T7} (h1 : ExS s G C τ G' C' τ') {g : Nat → Nat} (h : g ∈ G) : g ∈ G' := by
  obtain ⟨⟨H, rfl⟩, -, -⟩ := h1
  exact List.mem_append_left _ h
theorem gF_mem {G : List (Nat → Nat)} {i : Nat} (h : i < G.length) : G.getD i z0S ∈ G := by
  rw [List.getD_eq_getElem?_getD, List.getElem?_eq_getElem h]
  exact List.getElem_mem h
theorem mem_gF {G : List (Nat → Nat)} {q : Nat → Nat} (h : q ∈ G) : ∃ i, i < G.length ∧ G.getD i z0S = q := by
  obtain ⟨i, hi, e⟩ := List.getElem_of_mem h
  exact ⟨i, hi, by rw [List.getD_eq_getElem?_getD, List.getElem?_eq_getElem hi]; exact e⟩
theorem gF_app {G : List (Nat → Nat)} {H : List (Nat → Nat)} {i : Nat} (h : i < G.length) : (G ++ H).getD i z0S = G.getD i z0S := by
  rw [List.getD_eq_getElem?_getD, List.getD_eq_getElem?_getD, List.getElem?_append_left h]
theorem gF_new {G : List (Nat → Nat)} {a : Nat → Nat} : (G ++ [a]).getD G.length z0S = a := by
  rw [List.getD_eq_getElem?_getD, List.getElem?_append_right (Nat.le_refl _), Nat.sub_self]; rfl
theorem gF_cd {G : List (Nat → Nat)} {i : Nat} (h : i < G.length) : (G.map cdS).getD i 0 = cdS (G.getD i z0S) := by
  rw [List.getD_eq_getElem?_getD, List.getD_eq_getElem?_getD, List.getElem?_map, List.getElem?_eq_getElem h]
  rfl
section CHN
variable {n : Nat} {nx : Nat → Nat} {nextTo : Nat → Int32}
theorem RG.room {G : List (Nat → Nat)} {C : Nat → List Nat} {τ : T7} (h : RG n G C τ) : G.length < 131072 := by
  obtain ⟨⟨-, pl, h1, -⟩, h2, -⟩ := h
  have := states_few h1 (fun a ha => by
    rw [List.mem_map] at ha
    obtain ⟨g, g1, g2⟩ := ha
    exact ⟨g, (h2 g g1).2, g2.symm⟩)
  rw [List.length_map] at this
  omega
theorem comes_ok (hn : n ≤ 8) {G : List (Nat → Nat)} {C : Nat → List Nat} {τ : T7} (h : RG n G C τ) {g : Nat → Nat} (hg : SG n g) {s : Nat} (hs : totS g 8 < s) :
    ∃ G' C' τ', Mo_comes τ.1 τ.2.1 τ.2.2.1 τ.2.2.2.1 τ.2.2.2.2.1 τ.2.2.2.2.2.1 τ.2.2.2.2.2.2 (cdS g) = some τ' ∧ RG n G' C' τ' ∧ ExS s G C τ G' C' τ' ∧ g ∈ G' ∧ (G' = G ∨ G' = G ++ [g]) := by
  have hr := h.room
  obtain ⟨h1, h2, h3, h4, h5⟩ := id h
  obtain ⟨sf, sa, so, st, co, ca, cw⟩ := τ
  by_cases hm : g ∈ G
  · obtain ⟨i, i1, i2⟩ := mem_gF hm
    have hp := placeOf_old h1 (i := i) (by rw [List.length_map]; exact i1)
    rw [gF_cd i1, i2] at hp
    refine ⟨G, C, (sf, sa, so, st, co, ca, cw), ?_, h, ExS.refl, hm, .inl rfl⟩
    unfold Mo_comes
    rw [ob_eq hp]
    exact if_pos rfl
  · have hnL : ¬ cdS g ∈ G.map cdS := fun z => by
      rw [List.mem_map] at z
      obtain ⟨g', e1, e2⟩ := z
      exact hm (cdS_inj hn (h2 g' e1) hg e2 ▸ e1)
    obtain ⟨sf', sa', so', p1, p2, p3⟩ := placeOf_new h1 hnL (by rw [List.length_map]; exact hr)
    rw [List.length_map] at p1 p2
    have hst : st = nI G.length := by have := h1.1; rw [List.length_map] at this; exact this
    have ht12 := hg.2
    have hlt : ∀ t, t < 13 → ∀ i, i ∈ C t → i < G.length := fun t ht i hi => (h5 t i ht hi).1
    obtain ⟨C', cE, cO⟩ : ∃ C' : Nat → List Nat, C' (totS g 8) = G.length :: C (totS g 8) ∧ ∀ t, ¬ t = totS g 8 → C' t = C t := ⟨fun t => if t = totS g 8 then G.length :: C (totS g 8) else C t, if_pos rfl, fun t ht => if_neg ht⟩
    refine ⟨G ++ [g], C', (sf', sa', so', nI (G.length + 1), upd co G.length (ca (totS g 8)), upd ca (totS g 8) (nI G.length), upd cw G.length (vp_nar .boolean 0)), ?_, ⟨?_, ?_, ?_, ?_, ?_⟩, ⟨⟨[g], rfl⟩, ?_, ?_⟩, by simp, .inr rfl⟩
    · unfold Mo_comes
      rw [ob_eq p1]
      show (if nI (G.length + 1) = st then _ else _) = _
      rw [if_neg (fun z => by rw [hst] at z; have := (nI_inj (by omega) (by omega)).mp z; omega), gd_eq (ixN hr (by omega)), ob_eq (totalIn_ok hg), gd_eq (ixN (by omega) (by omega)), gd_eq (ixN hr (by omega)), ob_eq (totalIn_ok hg), gd_eq (ixN (by omega) (by omega)), nI_clamp (by omega), nI_clamp (by omega)]
    · rw [List.map_append]
      exact p2
    · intro g' hg'
      rcases List.mem_append.mp hg' with z | z
      · exact h2 g' z
      · have : g' = g := by simpa using z
        rw [this]; exact hg
    · intro t ht
      show ChF (upd co G.length (ca (totS g 8))) (upd ca (totS g 8) (nI G.length) t) (C' t)
      by_cases e : t = totS g 8
      · subst e
        rw [cE, upd_at]
        refine ⟨rfl, ?_⟩
        rw [upd_at]
        exact ChF_congr (fun i hi => upd_ne (by have := hlt _ ht i hi; omega)) (h3 _ ht)
      · rw [cO t e, upd_ne e]
        exact ChF_congr (fun i hi => upd_ne (by have := hlt _ ht i hi; omega)) (h3 _ ht)
    · intro i hi
      rw [List.length_append] at hi
      have hi : i < G.length + 1 := hi
      by_cases e : i = G.length
      · subst e; rw [gF_new, cE]; simp
      · rw [gF_app (by omega)]
        have h6 := h4 i (by omega)
        by_cases e2 : totS (G.getD i z0S) 8 = totS g 8
        · rw [e2, cE]; rw [e2] at h6; simp [h6]
        · rw [cO _ e2]; exact h6
    · intro t i ht hi
      rw [List.length_append]
      show i < G.length + 1 ∧ _
      by_cases e : t = totS g 8
      · subst e
        rw [cE] at hi
        rcases List.mem_cons.mp hi with z | z
        · rw [z, gF_new]; exact ⟨by omega, rfl⟩
        · have := h5 _ i ht z
          rw [gF_app this.1]; exact ⟨by omega, this.2⟩
      · rw [cO t e] at hi
        have := h5 _ i ht hi
        rw [gF_app this.1]; exact ⟨by omega, this.2⟩
    · intro t ht
      exact cO t (by omega)
    · intro i hi
      exact upd_ne (by omega)
/-- what a robber may leave -/
theorem leaves_ok (hn : n ≤ 8) {G : List (Nat → Nat)} {C : Nat → List Nat} {τ : T7} (h : RG n G C τ) {g : Nat → Nat} (hg : SG n g) {s : Nat} (hs : totS g 8 ≤ s) :
    ∃ G' C' τ', Mo_robberLeaves (nI n) τ.1 τ.2.1 τ.2.2.1 τ.2.2.2.1 τ.2.2.2.2.1 τ.2.2.2.2.2.1 τ.2.2.2.2.2.2 (cdS g) = some τ' ∧ RG n G' C' τ' ∧ ExS s G C τ G' C' τ' ∧ ∀ w, w < n → 0 < g w → lvS g w ∈ G' := by
  obtain ⟨r, r1, G', C', r2, r3, r4⟩ := lp_inv (f := Mo_robberLeaves_L2 (cdS g) (nI n)) (fun k s' => s'.1 = nI k ∧ ∃ G' C', RG n G' C' s'.2 ∧ ExS s G C τ G' C' s'.2 ∧ ∀ w, w < k → 0 < g w → lvS g w ∈ G') n
    (fun r => ∃ G' C', RG n G' C' r ∧ ExS s G C τ G' C' r ∧ ∀ w, w < n → 0 < g w → lvS g w ∈ G')
    (by
      rintro k ⟨s1, σ⟩ hk ⟨e1, G1, C1, e2, e3, e4⟩
      have e1 : s1 = nI k := e1
      subst e1
      have hgk := hg.dig k (by omega)
      left
      unfold Mo_robberLeaves_L2
      show ∃ s', (if nI k < nI n then _ else _) = _ ∧ _
      rw [if_pos ((nI_ltN (by omega) (by omega)).mpr hk), ob_eq (jarsIn_ok hg (show k < 8 by omega))]
      by_cases h0 : 0 < g k
      · obtain ⟨G2, C2, σ2, c1, c2, c3, c4, -⟩ := comes_ok hn e2 (lv_SG hn hg hk h0) (s := s) (by have := lv_tot (g := g) (show k < 8 by omega) h0; omega)
        refine ⟨(nI (k + 1), σ2), ?_, rfl, G2, C2, c2, e3.trans c3, fun w hw hw0 => ?_⟩
        · rw [if_neg (fun z => by have := (nI_leN (b := 0) (by omega) (by omega)).mp z; omega), ob_eq (one_ok k (by omega)), lv_cd (by omega) h0, ob_eq c1]
          unfold Mo_robberLeaves_L2_J28
          show some (Sum.inl (nI k + 1, σ2)) = _
          rw [show nI k + 1 = nI (k + 1) from nI_ad k 1]
        · by_cases e : w < k
          · exact c3.mem (e4 w e hw0)
          · rw [show w = k by omega]; exact c4
      · refine ⟨(nI (k + 1), σ), ?_, rfl, G1, C1, e2, e3, fun w hw hw0 => ?_⟩
        · rw [if_pos (show nI (g k) ≤ 0 by rw [show g k = 0 by omega]; decide)]
          unfold Mo_robberLeaves_L2_J28
          show some (Sum.inl (nI k + 1, σ)) = _
          rw [show nI k + 1 = nI (k + 1) from nI_ad k 1]
        · by_cases e : w < k
          · exact e4 w e hw0
          · exfalso; rw [show w = k by omega] at hw0; exact h0 hw0)
    (by
      rintro ⟨s1, σ⟩ ⟨e1, e2⟩
      have e1 : s1 = nI n := e1
      subst e1
      refine ⟨σ, ?_, e2⟩
      unfold Mo_robberLeaves_L2
      exact if_neg (fun z => by have := (nI_ltN (by omega) (by omega)).mp z; omega))
    0 ((0 : Int32), τ) (Nat.zero_le _) ⟨rfl, G, C, h, ExS.refl, fun w hw => by omega⟩
  refine ⟨G', C', r, ?_, r2, r3, r4⟩
  unfold Mo_robberLeaves
  rw [show ((0 : Int32), τ.1, τ.2.1, τ.2.2.1, τ.2.2.2.1, τ.2.2.2.2.1, τ.2.2.2.2.2.1, τ.2.2.2.2.2.2) = ((0 : Int32), τ) from rfl, ob_eq r1]
end CHN
