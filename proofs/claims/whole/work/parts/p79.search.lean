/-! THE CLASS'S SEARCH: lists, what is wanting, rows and their codes -/
theorem us32 : ∀ q : Nat, q < 32 → (((nI q).toUInt32 &&& Int32.toUInt32 31).toBitVec % 32).toNat = q := by decide +kernel
theorem ju_nI {N s : Nat} (hN : N < 2 ^ 32) (hs : s < 32) : juS (nI N) (nI s) = nI (N / 2 ^ s) := pk_ushrN hN (nI s) s (us32 s hs)
theorem nI_negle {a b : Nat} (h : a ≤ b) (hb : b < 2 ^ 31) : nI a - nI b ≤ 0 := by
  have e : nI a - nI b = -(nI (b - a)) := by rw [← nI_subN h, Int32.neg_sub]
  rw [e]
  apply Int32.le_iff_toInt_le.mpr
  rw [Int32.toInt_neg, nI_toInt (show b - a < 2 ^ 31 by omega)]
  have : (0 : Int32).toInt = 0 := by decide
  rw [this, Int.bmod_eq_of_le (by omega) (by omega)]
  omega
def NLr (NL : List (Nat × Nat)) (nearest ways : Nat → Int32) (reach : Int32) : Prop :=
  reach = nI NL.length ∧ ∀ i, i < NL.length → nearest i = nI (NL.getD i (0, 0)).1 ∧ ways i = nI (NL.getD i (0, 0)).2
theorem NLr.add {NL : List (Nat × Nat)} {nearest ways : Nat → Int32} {reach : Int32} (h : NLr NL nearest ways reach) (p : Nat × Nat) : NLr (NL ++ [p]) (upd nearest NL.length (nI p.1)) (upd ways NL.length (nI p.2)) (nI (NL.length + 1)) := by
  refine ⟨by rw [List.length_append]; rfl, fun i hi => ?_⟩
  rw [List.length_append] at hi
  have hi : i < NL.length + 1 := hi
  by_cases e : i = NL.length
  · subst e
    rw [upd_at, upd_at, List.getD_eq_getElem?_getD, List.getElem?_append_right (Nat.le_refl _), Nat.sub_self]
    exact ⟨rfl, rfl⟩
  · rw [upd_ne e, upd_ne e, List.getD_eq_getElem?_getD, List.getElem?_append_left (by omega), ← List.getD_eq_getElem?_getD]
    exact h.2 i (by omega)
section SRT
variable {n : Nat} {nx : Nat → Nat} {t : Nat}
theorem nlW_pre {c k : Nat} (h : c ≤ k) : nlW n nx t c <+: nlW n nx t k := by
  induction k with
  | zero => have : c = 0 := by omega
            subst this; exact List.prefix_refl _
  | succ k ih =>
    by_cases e : c = k + 1
    · subst e; exact List.prefix_refl _
    · exact (ih (by omega)).trans (List.prefix_append _ _)
theorem nlV_pre {w c k : Nat} (h : c ≤ k) : nlV n nx t w c <+: nlV n nx t w k := by
  induction k with
  | zero => have : c = 0 := by omega
            subst this; exact List.prefix_refl _
  | succ k ih =>
    by_cases e : c = k + 1
    · subst e; exact List.prefix_refl _
    · exact (ih (by omega)).trans (List.prefix_append _ _)
theorem dI_is (hG : GoodG n nx) (ht : t < n) {v w : Nat} (hv : v < n) (hw : w < 2 ^ 31) : dI n nx v t = nI w ↔ lev n nx t w v = true := by
  rw [dI_sym hG hv ht]
  have hn := hG.1
  rcases dI_cases ht hG hv with ⟨k, k1, k2, k3⟩ | ⟨k1, k2⟩
  · rw [k3]
    constructor
    · intro e
      rw [(nI_inj (by omega) hw).mp e] at k2
      exact k2
    · intro e
      rw [lev_uniq k2 e]
  · constructor
    · intro e
      rw [k2] at e
      have h1 : (nI w).toInt = (-2 : Int32).toInt := by rw [e]
      rw [nI_toInt hw] at h1
      have h2 : (-2 : Int32).toInt = -2 := by decide
      omega
    · intro e
      have := lev_ball e
      rw [k1 w] at this
      cases this
theorem sortByWay_ok (hG : GoodG n nx) (hn : n ≤ 8) (ht : t < n) {ways : Nat → Int32} (hr : RW n nx ways) (ne0 wa0 : Nat → Int32) (re0 : Int32) :
    ∃ ne wa, Search_sortByWay ne0 wa0 (nI n) re0 (nI t) (nI n) ways = some (ne, wa, nI (nlW n nx t (n - 1)).length) ∧ NLr (nlW n nx t (n - 1)) ne wa (nI (nlW n nx t (n - 1)).length) := by
  have inner : ∀ (w : Nat), w + 1 ≤ n - 1 → ∀ σ : (Nat → Int32) × (Nat → Int32) × Int32, NLr (nlW n nx t w) σ.1 σ.2.1 σ.2.2 → ∃ σ', lp (Search_sortByWay_L17 (nI (w + 1)) (nI n) (nI t) (nI n) ways) (0, σ) = some σ' ∧ NLr (nlW n nx t (w + 1)) σ'.1 σ'.2.1 σ'.2.2 := by
    intro w hw σ hσ
    refine lp_inv (f := Search_sortByWay_L17 (nI (w + 1)) (nI n) (nI t) (nI n) ways) (fun k s => s.1 = nI k ∧ NLr (nlW n nx t w ++ nlV n nx t (w + 1) k) s.2.1 s.2.2.1 s.2.2.2) n (fun r => NLr (nlW n nx t (w + 1)) r.1 r.2.1 r.2.2) ?_ ?_ 0 (0, σ) (Nat.zero_le _) ⟨rfl, by show NLr (nlW n nx t w ++ []) σ.1 σ.2.1 σ.2.2; rw [List.append_nil]; exact hσ⟩
    · rintro k ⟨s1, ne, wa, re⟩ hk ⟨e1, e2⟩
      have e1 : s1 = nI k := e1
      have e2 : NLr (nlW n nx t w ++ nlV n nx t (w + 1) k) ne wa re := e2
      subst e1
      left
      have hlen : (nlW n nx t w ++ nlV n nx t (w + 1) (k + 1)).length ≤ n := by
        have h1 : nlW n nx t w ++ nlV n nx t (w + 1) (k + 1) <+: nlW n nx t (w + 1) := by
          obtain ⟨x, hx⟩ := nlV_pre (n := n) (nx := nx) (t := t) (w := w + 1) (c := k + 1) (k := n) (by omega)
          exact ⟨x, by show _ = nlW n nx t w ++ nlV n nx t (w + 1) n; rw [← hx]; simp⟩
        exact Nat.le_trans h1.length_le (nlW_len _)
      have hst : Search_sortByWay_L17 (nI (w + 1)) (nI n) (nI t) (nI n) ways (nI k, ne, wa, re) = if dI n nx k t = nI (w + 1) then gd (ix re 8) (gd (ix re 8) (some (Sum.inl (nI k + 1, upd ne re.toNatClampNeg (nI k), upd wa re.toNatClampNeg (nI (w + 1)), re + 1)))) else some (Sum.inl (nI k + 1, ne, wa, re)) := by
        unfold Search_sortByWay_L17
        show (if nI k < nI n then ob (Land_way (nI n) ways (nI k) (nI t)) _ else _) = _
        rw [if_pos ((nI_ltN (by omega) (by omega)).mpr hk), ob_eq (way_in (by omega) hk ht), hr k t hk ht]
        rfl
      rw [hst]
      cases hl : lev n nx t (w + 1) k with
      | true =>
        have em : nlV n nx t (w + 1) (k + 1) = nlV n nx t (w + 1) k ++ [(k, w + 1)] := by
          show nlV n nx t (w + 1) k ++ (if lev n nx t (w + 1) k then _ else _) = _
          rw [hl]; rfl
        rw [em, ← List.append_assoc, List.length_append] at hlen
        have hlen : (nlW n nx t w ++ nlV n nx t (w + 1) k).length + 1 ≤ n := hlen
        have hre : re = nI (nlW n nx t w ++ nlV n nx t (w + 1) k).length := e2.1
        rw [if_pos ((dI_is hG ht hk (by omega)).mpr hl)]
        have hc : re.toNatClampNeg = (nlW n nx t w ++ nlV n nx t (w + 1) k).length := by rw [hre, nI_clamp (by omega)]
        refine ⟨(nI k + 1, upd ne re.toNatClampNeg (nI k), upd wa re.toNatClampNeg (nI (w + 1)), re + 1), ?_, nI_ad k 1, ?_⟩
        · rw [gd_eq (by rw [hre]; exact ixN (by omega) (by omega)), gd_eq (by rw [hre]; exact ixN (by omega) (by omega))]
        · show NLr (nlW n nx t w ++ nlV n nx t (w + 1) (k + 1)) (upd ne re.toNatClampNeg (nI k)) (upd wa re.toNatClampNeg (nI (w + 1))) (re + 1)
          rw [em, ← List.append_assoc, hc, hre, show (1 : Int32) = nI 1 from rfl, nI_ad]
          exact e2.add (k, w + 1)
      | false =>
        rw [if_neg (fun z => by have := (dI_is hG ht hk (by omega)).mp z; rw [hl] at this; cases this)]
        refine ⟨(nI k + 1, ne, wa, re), rfl, nI_ad k 1, ?_⟩
        show NLr (nlW n nx t w ++ (nlV n nx t (w + 1) k ++ if lev n nx t (w + 1) k then _ else _)) ne wa re
        rw [hl]
        simpa using e2
    · rintro ⟨s1, σ⟩ ⟨e1, e2⟩
      have e1 : s1 = nI n := e1
      subst e1
      refine ⟨σ, ?_, e2⟩
      unfold Search_sortByWay_L17
      exact if_neg (fun z => by have := (nI_ltN (by omega) (by omega)).mp z; omega)
  unfold Search_sortByWay
  obtain ⟨r, r1, r2⟩ := lp_inv (f := Search_sortByWay_L7 (nI n) (nI t) (nI n) ways) (fun k s => s.1 = nI (k + 1) ∧ NLr (nlW n nx t k) s.2.1 s.2.2.1 s.2.2.2) (n - 1) (fun r => NLr (nlW n nx t (n - 1)) r.1 r.2.1 r.2.2)
    (by
      rintro k ⟨s1, σ⟩ hk ⟨e1, e2⟩
      have e1 : s1 = nI (k + 1) := e1
      subst e1
      left
      obtain ⟨σ', q1, q2⟩ := inner k (by omega) σ e2
      refine ⟨(nI (k + 1) + 1, σ'), ?_, nI_ad (k + 1) 1, q2⟩
      unfold Search_sortByWay_L7
      show (if nI (k + 1) < nI n then ob (lp (Search_sortByWay_L17 (nI (k + 1)) (nI n) (nI t) (nI n) ways) (0, σ)) _ else _) = _
      rw [if_pos ((nI_ltN (by omega) (by omega)).mpr (by omega)), ob_eq q1])
    (by
      rintro ⟨s1, σ⟩ ⟨e1, e2⟩
      have e1 : s1 = nI (n - 1 + 1) := e1
      subst e1
      refine ⟨σ, ?_, e2⟩
      unfold Search_sortByWay_L7
      exact if_neg (fun z => by have := (nI_ltN (by omega) (by omega)).mp z; omega))
    0 (1, ne0, wa0, 0) (Nat.zero_le _) ⟨rfl, rfl, fun i hi => by have : i < 0 := hi; omega⟩
  obtain ⟨ne, wa, re⟩ := r
  have r2 : NLr (nlW n nx t (n - 1)) ne wa re := r2
  have hre := r2.1
  subst hre
  exact ⟨ne, wa, ob_eq r1, r2⟩
end SRT
/-- what is wanting -/
theorem drop_at {NL : List (Nat × Nat)} {k : Nat} (hk : k < NL.length) : NL.drop k = NL.getD k (0, 0) :: NL.drop (k + 1) := by
  rw [List.drop_eq_getElem_cons hk, List.getD_eq_getElem?_getD, List.getElem?_eq_getElem hk]
  rfl
theorem least_ok {n : Nat} (hn : n ≤ 8) {NL : List (Nat × Nat)} {ne wa row : Nat → Int32} {re : Int32} (h : NLr NL ne wa re) (hl : NL.length ≤ 8) (hp : ∀ p ∈ NL, p.1 < n ∧ 1 ≤ p.2 ∧ p.2 ≤ 7) {g : Nat → Nat} (hg : SG n g) (hrow : ∀ w, w < n → row w = nI (g w)) {t due : Nat} (ht : t < n) (hd : due ≤ 40) (hgt : g t ≤ due) :
    Search_leastMoves ne wa row re (nI t) (nI due) = some (nI (leftS NL t due g)) := by
  have hg16 : ∀ w, w < 8 → g w < 16 := hg.dig
  have hlk : nI due - row t = nI (due - g t) := by rw [hrow t ht, nI_subN hgt]
  have hshl : nI (due - g t) <<< ((7 : Int32) &&& 31) = nI ((due - g t) * 128) := by
    rw [show (7 : Int32) = nI 7 from rfl]
    exact pk_shlN (n := due - g t) (nI 7 &&& 31) 7 (sm32 7 (by omega)) (by omega)
  obtain ⟨⟨xn, xu⟩, r1, r2, r3, r4⟩ := lp_inv (f := Search_leastMoves_L25 (nI (due - g t)) ne wa row re)
    (fun k s => ∃ nd us, s.2.2 = nI k ∧ s.2.1 = nI us ∧ (0 < nd → s.1 = nI nd) ∧ (nd = 0 → s.1 ≤ 0) ∧ nd ≤ 5120 ∧ us ≤ 16 * k ∧ grS g (NL.drop k) nd us = grS g NL ((due - g t) * 128) 0) NL.length
    (fun r => r.2 = nI (grS g NL ((due - g t) * 128) 0).2 ∧ ((grS g NL ((due - g t) * 128) 0).1 = 0 → r.1 ≤ 0) ∧ (0 < (grS g NL ((due - g t) * 128) 0).1 → ¬ r.1 ≤ 0))
    (by
      rintro k ⟨s1, s2, s3⟩ hk ⟨nd, us, e1, e2, e3, e4, e5, e6, e7⟩
      have e1 : s3 = nI k := e1
      have e2 : s2 = nI us := e2
      have e3 : 0 < nd → s1 = nI nd := e3
      have e4 : nd = 0 → s1 ≤ 0 := e4
      subst e1; subst e2
      have hlt : nI k < re := by rw [h.1]; exact (nI_ltN (by omega) (by omega)).mpr hk
      by_cases hz : nd = 0
      · right
        subst hz
        rw [gr_zero] at e7
        refine ⟨(s1, nI us), ?_, ?_, ?_, ?_⟩
        · unfold Search_leastMoves_L25
          show (if nI k < re then (if s1 ≤ 0 then _ else _) else _) = _
          rw [if_pos hlt, if_pos (e4 rfl)]
        · rw [← e7]
        · exact fun _ => e4 rfl
        · rw [← e7]; exact fun z => absurd z (Nat.lt_irrefl 0)
      · left
        have es := e3 (by omega)
        subst es
        obtain ⟨n1, n2⟩ := h.2 k hk
        obtain ⟨p1, p2, p3⟩ := hp (NL.getD k (0, 0)) (by rw [List.getD_eq_getElem?_getD, List.getElem?_eq_getElem hk]; exact List.getElem_mem hk)
        rw [drop_at hk] at e7
        generalize NL.getD k (0, 0) = p at *
        have hP : 0 < 2 ^ (7 - p.2) ∧ 2 ^ (7 - p.2) ≤ 64 := ⟨Nat.pow_pos (by omega), Nat.pow_le_pow_right (n := 2) (j := 6) (by omega) (by omega)⟩
        have hgr : grS g (p :: NL.drop (k + 1)) nd us = grS g (NL.drop (k + 1)) (nd - min (g p.1) ((nd + 2 ^ (7 - p.2) - 1) / 2 ^ (7 - p.2)) * 2 ^ (7 - p.2)) (us + min (g p.1) ((nd + 2 ^ (7 - p.2) - 1) / 2 ^ (7 - p.2))) := if_neg hz
        rw [hgr] at e7
        have hgp := hg16 p.1 (by omega)
        have hm1 : min (g p.1) ((nd + 2 ^ (7 - p.2) - 1) / 2 ^ (7 - p.2)) ≤ 15 := Nat.le_trans (Nat.min_le_left _ _) (by omega)
        have hx1 : (nI nd + (1 : Int32) <<< (nI (7 - p.2) &&& 31)) - 1 = nI (nd + 2 ^ (7 - p.2) - 1) := by
          rw [shl_nI (by omega), nI_ad]
          exact nI_subN (b := 1) (by omega)
        have hx2 : nI (nd + 2 ^ (7 - p.2) - 1) >>> (nI (7 - p.2) &&& 31) = nI ((nd + 2 ^ (7 - p.2) - 1) / 2 ^ (7 - p.2)) := pk_shrN (by omega) _ _ (sm32 _ (by omega))
        have hq : (nd + 2 ^ (7 - p.2) - 1) / 2 ^ (7 - p.2) ≤ nd + 2 ^ (7 - p.2) - 1 := Nat.div_le_self _ _
        have hx3 : jmin (nI (g p.1)) (nI ((nd + 2 ^ (7 - p.2) - 1) / 2 ^ (7 - p.2))) = nI (min (g p.1) ((nd + 2 ^ (7 - p.2) - 1) / 2 ^ (7 - p.2))) := jmin_nI (by omega) (by omega)
        generalize min (g p.1) ((nd + 2 ^ (7 - p.2) - 1) / 2 ^ (7 - p.2)) = T at *
        have hTP : T * 2 ^ (7 - p.2) ≤ 15 * 64 := Nat.mul_le_mul hm1 hP.2
        have hx4 : nI T <<< (nI (7 - p.2) &&& 31) = nI (T * 2 ^ (7 - p.2)) := pk_shlN (n := T) _ _ (sm32 _ (by omega)) (by omega)
        refine ⟨(nI nd - nI (T * 2 ^ (7 - p.2)), nI us + nI T, nI k + 1), ?_, nd - T * 2 ^ (7 - p.2), us + T, nI_ad k 1, nI_ad us T, fun z => nI_subN (by omega), fun z => nI_negle (by omega) (by omega), by omega, by omega, e7⟩
        unfold Search_leastMoves_L25
        show (if nI k < re then (if nI nd ≤ 0 then _ else _) else _) = _
        rw [if_pos hlt, if_neg (fun z => by have := (nI_leN (b := 0) (by omega) (by omega)).mp z; omega), gd_eq (ixN (by omega) (by omega)), gd_eq (ixN (by omega) (by omega))]
        show gd (ix (ne (nI k).toNatClampNeg) 8) (some (Sum.inl (nI nd - ((jmin (row (ne (nI k).toNatClampNeg).toNatClampNeg) (((nI nd + ((1 : Int32) <<< ((7 - (wa (nI k).toNatClampNeg)) &&& 31))) - 1) >>> ((7 - (wa (nI k).toNatClampNeg)) &&& 31))) <<< ((7 - (wa (nI k).toNatClampNeg)) &&& 31)), nI us + (jmin (row (ne (nI k).toNatClampNeg).toNatClampNeg) (((nI nd + ((1 : Int32) <<< ((7 - (wa (nI k).toNatClampNeg)) &&& 31))) - 1) >>> ((7 - (wa (nI k).toNatClampNeg)) &&& 31))), nI k + 1))) = _
        rw [nI_clamp (show k < 2 ^ 31 by omega), n1, n2, gd_eq (ixN (by omega) (by omega)), nI_clamp (show p.1 < 2 ^ 31 by omega), hrow p.1 p1, show (7 : Int32) - nI p.2 = nI (7 - p.2) from nI_subN (a := 7) p3, hx1, hx2, hx3, hx4])
    (by
      rintro ⟨s1, s2, s3⟩ ⟨nd, us, e1, e2, e3, e4, e5, e6, e7⟩
      have e1 : s3 = nI NL.length := e1
      have e2 : s2 = nI us := e2
      have e3 : 0 < nd → s1 = nI nd := e3
      have e4 : nd = 0 → s1 ≤ 0 := e4
      subst e1; subst e2
      rw [List.drop_length] at e7
      have e7 : (nd, us) = grS g NL ((due - g t) * 128) 0 := e7
      rw [← e7]
      refine ⟨(s1, nI us), ?_, rfl, e4, fun z => ?_⟩
      · unfold Search_leastMoves_L25
        show (if nI NL.length < re then _ else _) = _
        rw [if_neg (fun z => by rw [h.1] at z; have := (nI_ltN (by omega) (by omega)).mp z; omega)]
      · have z : 0 < nd := z
        rw [e3 z]
        exact fun y => by have := (nI_leN (b := 0) (by omega) (by omega)).mp y; omega)
    0 (nI ((due - g t) * 128), 0, 0) (Nat.zero_le _) ⟨(due - g t) * 128, 0, rfl, rfl, fun _ => rfl, fun z => by rw [z]; decide, by omega, by omega, rfl⟩
  have r2 : xu = nI (grS g NL ((due - g t) * 128) 0).2 := r2
  have r3 : (grS g NL ((due - g t) * 128) 0).1 = 0 → xn ≤ 0 := r3
  have r4 : 0 < (grS g NL ((due - g t) * 128) 0).1 → ¬ xn ≤ 0 := r4
  unfold Search_leastMoves
  rw [gd_eq (ixN (by omega) (by omega)), nI_clamp (by omega), hlk, hshl, ob_eq r1]
  unfold Search_leastMoves_J101 leftS
  show (if xn ≤ 0 then some (xu - nI (due - g t)) else some 1000) = _
  obtain ⟨-, -, a3⟩ := gr_many (row := g) NL (nd := (due - g t) * 128) (us := 0) (fun p hp' => (hp p hp').2.1)
  by_cases hz : (grS g NL ((due - g t) * 128) 0).1 = 0
  · rw [if_pos (r3 hz), if_pos hz, r2, nI_subN (by have := a3 hz; omega)]
  · rw [if_neg (r4 (by omega)), if_neg hz]
    rfl
/-- rows and their codes -/
theorem packed_ok {n : Nat} (hn : n ≤ 8) {row : Nat → Int32} {g : Nat → Nat} (h : SG n g) (hj : ∀ w, w < n → row w = nI (g w)) : Search_packed row (nI n) = some (cdS g) := by
  have hz : ∀ k, n ≤ k → valS g k = valS g n := fun k hk => by
    induction k with
    | zero => rw [show n = 0 by omega]
    | succ k ih =>
      by_cases e : n = k + 1
      · rw [e]
      · show valS g k + g k * 16 ^ k = _
        rw [ih (by omega), h.1 k (by omega), Nat.zero_mul, Nat.add_zero]
  unfold Search_packed
  have : lp (Search_packed_L4 row (nI n)) (0, 0) = some (nI (valS g n)) := by
    refine lp_run (fun k => (nI (valS g k), nI k)) n ?_ ?_
    · intro k hk
      have hd : ∀ w, w < k → g w < 16 := fun w hw => h.dig w (by omega)
      have hl := valS_lt hd
      have h16 : (16 : Nat) ^ k = 2 ^ (4 * k) := by rw [Nat.pow_mul]
      have hgk := h.dig k (by omega)
      have h5 : valS g (k + 1) < 2 ^ 32 := by
        have h6 := valS_lt (g := g) (k := k + 1) (fun w hw => h.dig w (by omega))
        have h7 : (16 : Nat) ^ (k + 1) ≤ 16 ^ 8 := Nat.pow_le_pow_right (by omega) (by omega)
        have e : (16 : Nat) ^ 8 = 2 ^ 32 := by decide
        omega
      have h8 : valS g k + g k * 16 ^ k < 2 ^ 32 := h5
      unfold Search_packed_L4
      show (if nI k < nI n then _ else _) = _
      rw [if_pos ((nI_ltN (by omega) (by omega)).mpr hk)]
      show gd (ix (nI k) 8) (some (Sum.inl (nI (valS g k) ||| (row (nI k : Int32).toNatClampNeg <<< ((nI 4 * nI k) &&& 31)), nI k + 1))) = _
      rw [gd_eq (ixN (by omega) (by omega)), nI_clamp (by omega), hj k hk, nI_mulN, pk_shlN (n := g k) (nI (4 * k) &&& 31) (4 * k) (sm32 _ (by omega)) (by rw [← h16]; omega), or_nI (by omega) (by rw [← h16]; omega), show nI k + 1 = nI (k + 1) from nI_ad k 1]
      show some (Sum.inl (nI (valS g k ||| g k * 2 ^ (4 * k)), nI (k + 1))) = some (Sum.inl (nI (valS g k + g k * 16 ^ k), nI (k + 1)))
      rw [Nat.or_comm, Nat.mul_comm (g k) (2 ^ (4 * k)), ← Nat.two_pow_add_eq_or_of_lt (by rw [← h16]; exact hl), Nat.add_comm, h16, Nat.mul_comm (g k)]
    · unfold Search_packed_L4
      exact if_neg (fun z => by have := (nI_ltN (by omega) (by omega)).mp z; omega)
  rw [ob_eq this]
  unfold cdS
  rw [hz 8 hn]
theorem unpack_ok {n : Nat} (hn : n ≤ 8) (row0 : Nat → Int32) {g : Nat → Nat} (h : SG n g) : ∃ row, Search_unpack row0 (nI n) (cdS g) = some row ∧ ∀ w, w < n → row w = nI (g w) := by
  unfold Search_unpack
  obtain ⟨r, r1, r2⟩ := lp_inv (f := Search_unpack_L2 (cdS g) (nI n)) (fun k s => s.1 = nI k ∧ ∀ w, w < k → s.2 w = nI (g w)) n (fun r => ∀ w, w < n → r w = nI (g w))
    (by
      rintro k ⟨s1, row⟩ hk ⟨e1, e2⟩
      have e1 : s1 = nI k := e1
      subst e1
      left
      have h16 : (16 : Nat) ^ k = 2 ^ (4 * k) := by rw [Nat.pow_mul]
      have hv : juS (cdS g) (4 * nI k) &&& 15 = nI (g k) := by
        rw [show (4 : Int32) * nI k = nI (4 * k) from nI_mulN 4 k]
        unfold cdS
        rw [ju_nI h.val (by omega), show (15 : Int32) = nI 15 from rfl, and_nI (by have := h.val; have := Nat.div_le_self (valS g 8) (2 ^ (4 * k)); omega) (by omega), ← h16]
        congr 1
        rw [show (15 : Nat) = 2 ^ 4 - 1 from rfl, Nat.and_two_pow_sub_one_eq_mod]
        exact valS_dig h.dig (by omega)
      refine ⟨(nI k + 1, upd row k (nI (g k))), ?_, nI_ad k 1, fun w hw => ?_⟩
      · unfold Search_unpack_L2
        show (if nI k < nI n then gd (ix (nI k) 8) (some (Sum.inl (nI k + 1, upd row (nI k).toNatClampNeg (juS (cdS g) (4 * nI k) &&& 15)))) else _) = _
        rw [if_pos ((nI_ltN (by omega) (by omega)).mpr hk), gd_eq (ixN (by omega) (by omega)), nI_clamp (by omega), hv]
      · show upd row k (nI (g k)) w = _
        by_cases e : w = k
        · rw [e, upd_at]
        · rw [upd_ne e]; exact e2 w (by omega))
    (by
      rintro ⟨s1, row⟩ ⟨e1, e2⟩
      have e1 : s1 = nI n := e1
      subst e1
      refine ⟨row, ?_, e2⟩
      unfold Search_unpack_L2
      exact if_neg (fun z => by have := (nI_ltN (by omega) (by omega)).mp z; omega))
    0 (0, row0) (Nat.zero_le _) ⟨rfl, fun w hw => by omega⟩
  exact ⟨r, ob_eq r1, r2⟩
