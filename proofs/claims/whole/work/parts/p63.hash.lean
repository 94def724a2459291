/-! A TABLE OF STATES: open addresses -/
theorem least {P : Nat → Prop} {n : Nat} (h : P n) : ∃ d, d ≤ n ∧ P d ∧ ∀ e, e < d → ¬ P e := by
  induction n using Nat.strongRecOn with
  | ind n ih =>
    rcases Classical.em (∃ e, e < n ∧ P e) with ⟨e, e1, e2⟩ | hn
    · obtain ⟨d, d1, d2, d3⟩ := ih e e1 e2
      exact ⟨d, by omega, d2, d3⟩
    · exact ⟨n, Nat.le_refl _, h, fun e he hp => hn ⟨e, he, hp⟩⟩
theorem hole {N m : Nat} (pl : Nat → Nat) (h : m < N) : ∃ p, p < N ∧ ∀ i, i < m → ¬ p = pl i := by
  rcases Classical.em (∃ p, p < N ∧ ∀ i, i < m → ¬ p = pl i) with h1 | h1
  · exact h1
  · exfalso
    have h2 : List.range N ⊆ (List.range m).map pl := fun p hp => by
      rw [List.mem_map]
      rcases Classical.em (∃ i, i < m ∧ p = pl i) with ⟨i, i1, i2⟩ | h3
      · exact ⟨i, List.mem_range.mpr i1, i2.symm⟩
      · exact absurd ⟨p, List.mem_range.mp hp, fun i hi e => h3 ⟨i, hi, e⟩⟩ h1
    have h3 := List.Nodup.length_le_of_subset List.nodup_range h2
    rw [List.length_map, List.length_range, List.length_range] at h3
    omega
theorem juS_lt (x : Int32) : ∃ h, h < 262144 ∧ juS x 14 = nI h := by
  refine ⟨(x.toUInt32 >>> 14).toNat, ?_, ?_⟩
  · rw [UInt32.toNat_shiftRight, show ((14 : UInt32).toNat % 32) = 14 from rfl, Nat.shiftRight_eq_div_pow]
    have := x.toUInt32.toNat_lt
    omega
  · unfold juS
    rw [show (Int32.toUInt32 14 &&& Int32.toUInt32 31) = (14 : UInt32) by decide]
    show (x.toUInt32 >>> 14).toInt32 = Int32.ofNat (x.toUInt32 >>> 14).toNat
    rw [← UInt32.toInt32_ofNat', UInt32.ofNat_toNat]
noncomputable def hsh (a : Int32) : Nat := Classical.choose (juS_lt (a * (-1640531527)))
theorem hsh_lt (a : Int32) : hsh a < 262144 := (Classical.choose_spec (juS_lt (a * (-1640531527)))).1
theorem hsh_eq (a : Int32) : juS (a * (-1640531527)) 14 = nI (hsh a) := (Classical.choose_spec (juS_lt (a * (-1640531527)))).2
def HTp (L : List Int32) (pl : Nat → Nat) (sf sa so : Nat → Int32) : Prop :=
  L.Nodup ∧ L.length ≤ 131072 ∧ (∀ i, i < L.length → sa i = L.getD i 0) ∧ (∀ i, i < L.length → pl i < 262144 ∧ so i = nI (pl i) ∧ sf (pl i) = nI (i + 1)) ∧
  (∀ p, p < 262144 → sf p = 0 ∨ ∃ i, i < L.length ∧ p = pl i) ∧
  (∀ i, i < L.length → ∃ d, d < 262144 ∧ pl i = (hsh (L.getD i 0) + d) % 262144 ∧ ∀ e, e < d → ¬ sf ((hsh (L.getD i 0) + e) % 262144) = 0)
/-- the table holds the states of L, in this order -/
def HT (L : List Int32) (sf sa so : Nat → Int32) (st : Int32) : Prop := st = nI L.length ∧ ∃ pl, HTp L pl sf sa so
theorem gD_inj {L : List Int32} (h : L.Nodup) {i j : Nat} (hi : i < L.length) (hj : j < L.length) (e : L.getD i 0 = L.getD j 0) : i = j := by
  rw [List.getD_eq_getElem?_getD, List.getElem?_eq_getElem hi, List.getD_eq_getElem?_getD, List.getElem?_eq_getElem hj] at e
  exact (List.getElem_inj h).mp e
theorem gD_mem {L : List Int32} {i : Nat} (h : i < L.length) : L.getD i 0 ∈ L := by
  rw [List.getD_eq_getElem?_getD, List.getElem?_eq_getElem h]
  exact List.getElem_mem h
theorem mem_gD {L : List Int32} {q : Int32} (h : q ∈ L) : ∃ i, i < L.length ∧ L.getD i 0 = q := by
  obtain ⟨i, hi, e⟩ := List.getElem_of_mem h
  exact ⟨i, hi, by rw [List.getD_eq_getElem?_getD, List.getElem?_eq_getElem hi]; exact e⟩
theorem gD_app {L : List Int32} {a : Int32} {i : Nat} (h : i < L.length) : (L ++ [a]).getD i 0 = L.getD i 0 := by
  rw [List.getD_eq_getElem?_getD, List.getD_eq_getElem?_getD, List.getElem?_append_left h]
theorem gD_new {L : List Int32} {a : Int32} : (L ++ [a]).getD L.length 0 = a := by
  rw [List.getD_eq_getElem?_getD, List.getElem?_append_right (Nat.le_refl _), Nat.sub_self]; rfl
section TAB
variable {L : List Int32} {pl : Nat → Nat} {sf sa so : Nat → Int32}
/-- the probing, up to the first place that is free or has it -/
theorem probe (h : HTp L pl sf sa so) (a : Int32) {d : Nat} (hn : ∀ e, e < d → ¬ sf ((hsh a + e) % 262144) = 0 ∧ ∀ i, i < L.length → (hsh a + e) % 262144 = pl i → ¬ L.getD i 0 = a)
    (hs : sf ((hsh a + d) % 262144) = 0 ∨ ∃ i, i < L.length ∧ (hsh a + d) % 262144 = pl i ∧ L.getD i 0 = a) :
    lp (Mo_placeOf_L9 a sf sa) (juS (a * (-1640531527)) 14) = some (nI ((hsh a + d) % 262144)) := by
  obtain ⟨h1, h2, h3, h4, h5, h6⟩ := h
  have hl := hsh_lt a
  rw [hsh_eq, show nI (hsh a) = nI ((hsh a + 0) % 262144) by rw [Nat.add_zero, Nat.mod_eq_of_lt hl]]
  refine lp_run (fun k => nI ((hsh a + k) % 262144)) d ?_ ?_
  · intro k hk
    obtain ⟨n1, n2⟩ := hn k hk
    have hp : (hsh a + k) % 262144 < 262144 := Nat.mod_lt _ (by omega)
    obtain ⟨i, i1, i2⟩ := (h5 _ hp).resolve_left n1
    have n3 := n2 i i1 i2
    obtain ⟨g1, g2, g3⟩ := h4 i i1
    unfold Mo_placeOf_L9
    rw [gd_eq (ixN hp (by omega)), nI_clamp (by omega), if_neg n1, gd_eq (ixN hp (by omega)), i2, g3, show nI (i + 1) - 1 = nI i from nI_subN (b := 1) (by omega), gd_eq (ixN (by omega) (by omega)), nI_clamp (by omega), h3 i i1, if_neg n3, ← i2]
    show some (Sum.inl ((nI ((hsh a + k) % 262144) + nI 1) % nI 262144)) = _
    rw [nI_ad, nI_modN (by omega) (by omega) (by omega)]
    show _ = some (Sum.inl (nI ((hsh a + (k + 1)) % 262144)))
    congr 3
    omega
  · have hp : (hsh a + d) % 262144 < 262144 := Nat.mod_lt _ (by omega)
    unfold Mo_placeOf_L9
    rw [gd_eq (ixN hp (by omega)), nI_clamp (by omega)]
    rcases hs with hs | ⟨i, i1, i2, i3⟩
    · rw [if_pos hs]
    · obtain ⟨g1, g2, g3⟩ := h4 i i1
      rw [i2, g3, show nI (i + 1) - 1 = nI i from nI_subN (b := 1) (by omega), nI_clamp (by omega), h3 i i1, if_pos i3]
      split
      · rfl
      · rw [gd_eq (ixN (by omega) (by omega)), gd_eq (ixN (by omega) (by omega))]
theorem placeOf_old {st : Int32} (h : HT L sf sa so st) {i : Nat} (hi : i < L.length) : Mo_placeOf sf sa so st (L.getD i 0) = some (nI i, sf, sa, so, st) := by
  obtain ⟨hst, pl, h⟩ := h
  obtain ⟨h1, h2, h3, h4, h5, h6⟩ := id h
  obtain ⟨d, d1, d2, d3⟩ := h6 i hi
  have hp := probe h (L.getD i 0) (d := d) (fun e he => ⟨d3 e he, fun j hj e1 e2 => by
    have := gD_inj h1 hj hi e2
    subst this
    rw [d2] at e1
    omega⟩) (.inr ⟨i, hi, d2.symm, rfl⟩)
  unfold Mo_placeOf
  rw [ob_eq hp, ← d2]
  obtain ⟨g1, g2, g3⟩ := h4 i hi
  unfold Mo_placeOf_J45
  rw [gd_eq (ixN g1 (by omega)), nI_clamp (by omega), g3, if_neg (nI_ne0 (by omega) (by omega)), gd_eq (ixN g1 (by omega)), show nI (i + 1) - 1 = nI i from nI_subN (b := 1) (by omega)]
theorem placeOf_new {st : Int32} (h : HT L sf sa so st) {a : Int32} (ha : ¬ a ∈ L) (hl : L.length < 131072) :
    ∃ sf' sa' so', Mo_placeOf sf sa so st a = some (nI L.length, sf', sa', so', nI (L.length + 1)) ∧ HT (L ++ [a]) sf' sa' so' (nI (L.length + 1)) ∧ (∀ i, i < L.length → sa' i = sa i) := by
  obtain ⟨hst, pl, h⟩ := h
  obtain ⟨h1, h2, h3, h4, h5, h6⟩ := id h
  obtain ⟨q, q1, q2⟩ := hole (N := 262144) pl (show L.length < 262144 by omega)
  have q3 : sf q = 0 := (h5 q q1).resolve_right (fun ⟨i, i1, i2⟩ => q2 i i1 i2)
  have hh := hsh_lt a
  obtain ⟨d, d1, d2, d3⟩ := least (P := fun d => sf ((hsh a + d) % 262144) = 0) (n := (q + 262144 - hsh a) % 262144) (by
    show sf _ = 0
    rw [show (hsh a + (q + 262144 - hsh a) % 262144) % 262144 = q by omega]
    exact q3)
  have hp := probe h a (d := d) (fun e he => ⟨d3 e he, fun j hj _ e2 => ha (e2 ▸ gD_mem hj)⟩) (.inl d2)
  have d4 : d < 262144 := by have : (q + 262144 - hsh a) % 262144 < 262144 := Nat.mod_lt _ (by omega)
                             omega
  generalize hP : (hsh a + d) % 262144 = P at *
  have hP1 : P < 262144 := by rw [← hP]; exact Nat.mod_lt _ (by omega)
  refine ⟨upd sf P (nI (L.length + 1)), upd sa L.length a, upd so L.length (nI P), ?_, ?_, fun i hi => upd_ne (by omega)⟩
  · unfold Mo_placeOf
    rw [ob_eq hp]
    unfold Mo_placeOf_J45
    rw [hst, gd_eq (ixN hP1 (by omega)), nI_clamp (by omega), if_pos d2, gd_eq (ixN (by omega) (by omega)), gd_eq (ixN (by omega) (by omega)), gd_eq (ixN hP1 (by omega)), nI_clamp (by omega), show nI L.length + 1 = nI (L.length + 1) from nI_ad _ 1, show nI (L.length + 1) - 1 = nI L.length from nI_subN (b := 1) (by omega)]
  · have hne : ∀ i, i < L.length → ¬ pl i = P := fun i hi e => by
      have := (h4 i hi).2.2
      rw [e, d2] at this
      exact nI_ne0 (by omega) (by omega) this.symm
    have hlen : (L ++ [a]).length = L.length + 1 := by simp
    obtain ⟨pm, pE, pO⟩ : ∃ pm : Nat → Nat, pm L.length = P ∧ ∀ i, ¬ i = L.length → pm i = pl i := ⟨fun i => if i = L.length then P else pl i, if_pos rfl, fun i hi => if_neg hi⟩
    refine ⟨by rw [hlen], pm, ?_, by rw [hlen]; omega, ?_, ?_, ?_, ?_⟩
    · rw [List.nodup_append]
      exact ⟨h1, by simp, fun b hb c hc => by
        have : c = a := by simpa using hc
        subst this
        exact fun e => ha (e ▸ hb)⟩
    · intro i hi
      rw [hlen] at hi
      by_cases e : i = L.length
      · subst e; rw [upd_at, gD_new]
      · rw [upd_ne e, gD_app (by omega), h3 i (by omega)]
    · intro i hi
      rw [hlen] at hi
      by_cases e : i = L.length
      · subst e; rw [pE, upd_at, upd_at]; exact ⟨hP1, rfl, rfl⟩
      · rw [pO i e, upd_ne e, upd_ne (hne i (by omega))]; exact h4 i (by omega)
    · intro p hp
      by_cases e : p = P
      · exact .inr ⟨L.length, by rw [hlen]; omega, by rw [pE, e]⟩
      · rw [upd_ne e]
        rcases h5 p hp with h7 | ⟨i, i1, i2⟩
        · exact .inl h7
        · exact .inr ⟨i, by rw [hlen]; omega, by rw [pO i (by omega)]; exact i2⟩
    · intro i hi
      rw [hlen] at hi
      have hz : ∀ p, ¬ sf p = 0 → ¬ upd sf P (nI (L.length + 1)) p = 0 := fun p hp => by
        by_cases e : p = P
        · rw [e, upd_at]; exact nI_ne0 (by omega) (by omega)
        · rw [upd_ne e]; exact hp
      by_cases e : i = L.length
      · subst e
        rw [pE, gD_new]
        exact ⟨d, d4, hP.symm, fun e he => hz _ (d3 e he)⟩
      · rw [pO i e, gD_app (by omega)]
        obtain ⟨d, d1, d2, d3⟩ := h6 i (by omega)
        exact ⟨d, d1, d2, fun e he => hz _ (d3 e he)⟩
/-- cleared -/
theorem clears_ok {st : Int32} (h : HT L sf sa so st) : ∃ sf', Mo_clearsStates sf so st = some (sf', 0) ∧ (∀ p, p < 262144 → sf' p = 0) := by
  obtain ⟨hst, pl, h1, h2, h3, h4, h5, h6⟩ := h
  obtain ⟨r, r1, r2⟩ := lp_inv (f := Mo_clearsStates_L2 so st) (fun k s => s.1 = nI k ∧ ∀ p, p < 262144 → s.2 p = 0 ∨ ∃ i, k ≤ i ∧ i < L.length ∧ p = pl i) L.length (fun r => ∀ p, p < 262144 → r p = 0)
    (by
      intro k s hk ⟨e1, e2⟩
      obtain ⟨g1, g2, g3⟩ := h4 k hk
      refine .inl ⟨(nI (k + 1), upd s.2 (pl k) 0), ?_, rfl, ?_⟩
      · unfold Mo_clearsStates_L2
        rw [e1, hst, if_pos ((nI_ltN (by omega) (by omega)).mpr hk), gd_eq (ixN (by omega) (by omega)), nI_clamp (by omega), g2, gd_eq (ixN g1 (by omega)), nI_clamp (by omega), show nI k + 1 = nI (k + 1) from nI_ad k 1]
      · intro p hp
        show upd s.2 (pl k) 0 p = 0 ∨ _
        by_cases e : p = pl k
        · left; rw [e, upd_at]
        · rw [upd_ne e]
          rcases e2 p hp with h7 | ⟨i, i1, i2, i3⟩
          · exact .inl h7
          · refine .inr ⟨i, ?_, i2, i3⟩
            rcases Nat.lt_or_ge k i with h8 | h8
            · exact h8
            · exfalso; have : i = k := by omega
              subst this; exact e i3)
    (by
      intro s ⟨e1, e2⟩
      refine ⟨s.2, ?_, fun p hp => (e2 p hp).resolve_right (fun ⟨i, i1, i2, _⟩ => by omega)⟩
      unfold Mo_clearsStates_L2
      rw [e1, hst, if_neg (fun z => by have := (nI_ltN (by omega) (by omega)).mp z; omega)])
    0 ((0 : Int32), sf) (Nat.zero_le _) ⟨rfl, fun p hp => by
      rcases h5 p hp with h7 | ⟨i, i1, i2⟩
      · exact .inl h7
      · exact .inr ⟨i, Nat.zero_le _, i1, i2⟩⟩
  refine ⟨r, ?_, r2⟩
  unfold Mo_clearsStates
  rw [ob_eq r1]
theorem HT.none (h : ∀ p, p < 262144 → sf p = 0) : HT [] sf sa so 0 := by
  refine ⟨rfl, fun _ => 0, by simp, by simp, fun i hi => by simp at hi, fun i hi => by simp at hi, fun p hp => .inl (h p hp), fun i hi => by simp at hi⟩
end TAB
