/-! THE LAW'S CODE in both -/
def wdN (kd : Nat) : Nat := if kd ≤ 1 ∨ kd = 11 ∨ kd = 12 then 2 else 1
def sgnT (kd : Nat) : Int32 := if kd = 2 then 43 else if kd = 3 then 45 else if kd = 4 then 42 else if kd = 5 then 47 else if kd = 6 then 37 else if kd = 7 then 60 else if kd = 8 then 62 else if kd = 9 then 61 else 33
/-- an instruction, in both -/
def Ins (code said : Nat → Int32) (P : Nat → Nat) (b k : Nat) : Prop := ∃ kd ar, ar < 1048576 ∧ said k = nI (kd * 1048576 + ar) ∧ P (k + 1) = P k + wdN kd ∧
  ((kd = 0 ∧ code (P k) = 1 ∧ code (P k + 1) = nI ar) ∨ (kd = 1 ∧ ar < 9 ∧ code (P k) = 2 ∧ code (P k + 1) = nI ar) ∨ (2 ≤ kd ∧ kd ≤ 10 ∧ code (P k) = sgnT kd) ∨ ((kd = 11 ∨ kd = 12) ∧ code (P k) = (if kd = 11 then 38 else 124) ∧ code (P k + 1) = nI (P ar) ∧ k < ar ∧ ar ≤ b))
def Seg (code said : Nat → Int32) (P : Nat → Nat) (a b : Nat) : Prop := ∀ k, a ≤ k → k < b → Ins code said P b k
theorem wdN_pos (kd : Nat) : 1 ≤ wdN kd := by unfold wdN; split <;> omega
theorem ins_step {code said : Nat → Int32} {P : Nat → Nat} {b k : Nat} (h : Ins code said P b k) : P k < P (k + 1) := by
  obtain ⟨kd, ar, -, -, h3, -⟩ := h
  have := wdN_pos kd
  omega
theorem seg_nil (code said : Nat → Int32) (P : Nat → Nat) (a : Nat) : Seg code said P a a := fun k h1 h2 => by omega
theorem seg_up {code said : Nat → Int32} {P : Nat → Nat} {a b : Nat} (h : Seg code said P a b) : ∀ m k, a ≤ k → k + m = b → P k + m ≤ P b := by
  intro m
  induction m with
  | zero => intro k h1 h2; have : k = b := by omega
            subst this; omega
  | succ m ih =>
    intro k h1 h2
    have := ih (k + 1) (by omega) (by omega)
    have := ins_step (h k h1 (by omega))
    omega
theorem ins_mono {code said : Nat → Int32} {P : Nat → Nat} {b b' k : Nat} (hb : b ≤ b') (h : Ins code said P b k) : Ins code said P b' k := by
  obtain ⟨kd, ar, h1, h2, h3, h4⟩ := h
  refine ⟨kd, ar, h1, h2, h3, ?_⟩
  rcases h4 with h | h | h | ⟨g1, g2, g3, g4, g5⟩
  · exact Or.inl h
  · exact Or.inr (Or.inl h)
  · exact Or.inr (Or.inr (Or.inl h))
  · exact Or.inr (Or.inr (Or.inr ⟨g1, g2, g3, g4, by omega⟩))
/-- what is written behind leaves it as it was -/
theorem ins_keep {code said code' said' : Nat → Int32} {P P' : Nat → Nat} {b k : Nat} (hk : k < b) (h : Ins code said P b k) (hc : ∀ x, x < P (k + 1) → code' x = code x) (hs : said' k = said k) (hp : ∀ j, j ≤ b → P' j = P j) : Ins code' said' P' b k := by
  have hst := ins_step h
  obtain ⟨kd, ar, h1, h2, h3, h4⟩ := h
  have e0 : P' k = P k := hp k (by omega)
  have e1 : P' (k + 1) = P (k + 1) := hp (k + 1) (by omega)
  refine ⟨kd, ar, h1, by rw [hs]; exact h2, by rw [e0, e1]; exact h3, ?_⟩
  rw [e0, hc (P k) hst]
  rcases h4 with ⟨g1, g2, g3⟩ | ⟨g1, g2, g3, g4⟩ | h | ⟨g1, g2, g3, g4, g5⟩
  · exact Or.inl ⟨g1, g2, by rw [hc _ (by rw [h3, g1]; show P k + 1 < P k + 2; omega)]; exact g3⟩
  · exact Or.inr (Or.inl ⟨g1, g2, g3, by rw [hc _ (by rw [h3, g1]; show P k + 1 < P k + 2; omega)]; exact g4⟩)
  · exact Or.inr (Or.inr (Or.inl h))
  · refine Or.inr (Or.inr (Or.inr ⟨g1, g2, ?_, g4, g5⟩))
    rw [hc _ (by rw [h3]; rcases g1 with rfl | rfl <;> (show P k + 1 < P k + 2; omega)), hp ar g5]; exact g3
theorem seg_keep {code said code' said' : Nat → Int32} {P P' : Nat → Nat} {a b : Nat} (h : Seg code said P a b) (hc : ∀ x, x < P b → code' x = code x) (hs : ∀ k, k < b → said' k = said k) (hp : ∀ j, j ≤ b → P' j = P j) : Seg code' said' P' a b := fun k h1 h2 =>
  ins_keep h2 (h k h1 h2) (fun x hx => hc x (by have := seg_up h (b - (k + 1)) (k + 1) (by omega) (by omega); omega)) (hs k h2) hp
theorem seg_app {code said : Nat → Int32} {P : Nat → Nat} {a b c : Nat} (h1 : Seg code said P a b) (h2 : Seg code said P b c) (hbc : b ≤ c) : Seg code said P a c := fun k g1 g2 => by
  by_cases h : k < b
  · exact ins_mono hbc (h1 k g1 h)
  · exact h2 k (by omega) g2
/-- a place more -/
def ext (P : Nat → Nat) (c s : Nat) : Nat → Nat := fun k => if k ≤ c then P k else s
theorem ext_le {P : Nat → Nat} {c s k : Nat} (h : k ≤ c) : ext P c s k = P k := if_pos h
theorem ext_gt {P : Nat → Nat} {c s : Nat} : ext P c s (c + 1) = s := if_neg (by omega)
/-- both have written one instruction more -/
theorem seg_one {said code' : Nat → Int32} {P : Nat → Nat} {c kd ar : Nat} (ha : ar < 1048576) (hc : code' (P c) = (if kd = 0 then 1 else if kd = 1 then 2 else sgnT kd)) (hk : kd ≤ 10) (h9 : kd = 1 → ar < 9) (hc2 : kd ≤ 1 → code' (P c + 1) = nI ar) : Seg code' (upd said c (nI (kd * 1048576 + ar))) (ext P c (P c + wdN kd)) c (c + 1) := by
  intro k h1 h2
  have e : k = c := by omega
  subst e
  refine ⟨kd, ar, ha, upd_at _ _ _, by rw [ext_gt, ext_le (Nat.le_refl _)], ?_⟩
  rw [ext_le (Nat.le_refl _)]
  by_cases e0 : kd = 0
  · subst e0; exact Or.inl ⟨rfl, hc, hc2 (by omega)⟩
  · rw [if_neg e0] at hc
    by_cases e1 : kd = 1
    · subst e1; exact Or.inr (Or.inl ⟨rfl, h9 rfl, hc, hc2 (by omega)⟩)
    · rw [if_neg e1] at hc
      exact Or.inr (Or.inr (Or.inl ⟨by omega, hk, hc⟩))
theorem emit_eq {code : Nat → Int32} {s : Nat} (hs : s < 640) (x : Int32) : Law_emit code (nI s) x = some (nI s, upd code s x, nI (s + 1)) := by
  unfold Law_emit
  rw [if_pos (show nI s < 640 from (nI_ltN (b := 640) (by omega) (by decide)).mpr hs), gd_eq (ixN hs (by decide)), nI_clamp (by omega), show nI s + 1 = nI (s + 1) from nI_ad s 1]
theorem emit_any (code : Nat → Int32) {s : Nat} (hs : s ≤ 640) (x : Int32) : ∃ y code' s', Law_emit code (nI s) x = some (y, code', nI s') ∧ s' ≤ 640 := by
  by_cases h : s < 640
  · exact ⟨_, _, s + 1, emit_eq h x, by omega⟩
  · refine ⟨nI s, code, s, ?_, hs⟩
    unfold Law_emit
    exact if_neg (fun z => h ((nI_ltN (b := 640) (by omega) (by decide)).mp z))
theorem big (a : Nat) : (1048576 : Int32) * nI a = nI (a * 1048576) := (nI_mulN 1048576 a).trans (by rw [Nat.mul_comm])
theorem notes_eq {said : Nat → Int32} {c : Nat} (hc : c < 260) (a b : Nat) : Mo_notes (nI c) said (nI a) (nI b) = some (nI (c + 1), upd said c (nI (a * 1048576 + b))) := by
  unfold Mo_notes
  rw [gd_eq (ixN hc (by decide)), nI_clamp (by omega), show nI c + 1 = nI (c + 1) from nI_ad c 1, show (1048576 : Int32) * nI a = nI (a * 1048576) from (nI_mulN 1048576 a).trans (by rw [Nat.mul_comm]), nI_ad]
/-! WHAT WAITS -/
theorem waitTop_0 (waitsAt : Nat → Int32) : Mo_waitTop 0 waitsAt = some (-1) := if_pos rfl
theorem kd_div {kd ar : Nat} (hk : kd < 20) (ha : ar < 1048576) : nI (kd * 1048576 + ar) / 1048576 = nI kd := by
  have e : nI (kd * 1048576 + ar) / nI 1048576 = nI ((kd * 1048576 + ar) / 1048576) := pk_div (by omega) (by decide) (by decide)
  rw [show (kd * 1048576 + ar) / 1048576 = kd by omega] at e
  exact e
theorem waitTop_eq {waitsAt : Nat → Int32} {w kd ar : Nat} (hw : w < 260) (h : waitsAt w = nI (kd * 1048576 + ar)) (hk : kd < 20) (ha : ar < 1048576) : Mo_waitTop (nI (w + 1)) waitsAt = some (nI kd) := by
  unfold Mo_waitTop
  rw [if_neg (ne0N (by omega) (by omega)), show nI (w + 1) - 1 = nI w from nI_subN (b := 1) (by omega), gd_eq (ixN hw (by decide)), nI_clamp (by omega), h, kd_div hk ha]
/-- no sign waits at the top -/
def NoSign (waitsAt : Nat → Int32) (w : Nat) : Prop := w = 0 ∨ ∃ kd ar, ar < 1048576 ∧ 7 ≤ kd ∧ kd < 20 ∧ waitsAt (w - 1) = nI (kd * 1048576 + ar)
theorem noSign_top {waitsAt : Nat → Int32} {w : Nat} (hw : w ≤ 260) (h : NoSign waitsAt w) : ∃ x, Mo_waitTop (nI w) waitsAt = some x ∧ (x < 4 ∨ ¬ x ≤ 6) ∧ ¬ x = 2 ∧ ¬ x = 3 := by
  rcases h with rfl | ⟨kd, ar, ha, h7, h20, e⟩
  · exact ⟨-1, waitTop_0 _, Or.inl (by decide), by decide, by decide⟩
  · rcases Nat.eq_zero_or_pos w with rfl | h
    · exact ⟨-1, waitTop_0 _, Or.inl (by decide), by decide, by decide⟩
    · have := waitTop_eq (w := w - 1) (by omega) e h20 ha
      rw [show w - 1 + 1 = w by omega] at this
      refine ⟨nI kd, this, Or.inr (fun z => ?_), fun z => ?_, fun z => ?_⟩
      · have := (nI_leN (a := kd) (b := 6) (by omega) (by decide)).mp z; omega
      · have := (nI_inj (a := kd) (b := 2) (by omega) (by decide)).mp z; omega
      · have := (nI_inj (a := kd) (b := 3) (by omega) (by decide)).mp z; omega
def cnt (x : Nat) : Nat := if x = 0 then 0 else 1
theorem cnt_le (x : Nat) : cnt x ≤ 1 := by unfold cnt; split <;> omega
theorem cnt_0 : cnt 0 = 0 := rfl
theorem cnt_1 {x : Nat} (h : x ≠ 0) : cnt x = 1 := if_neg h
/-- a sum's signs that wait above w -/
def PS (waitsAt : Nat → Int32) (w a m : Nat) : Prop := (a = 0 ∨ a = 2 ∨ a = 3) ∧ (m = 0 ∨ m = 4 ∨ m = 5 ∨ m = 6) ∧ (a ≠ 0 → waitsAt w = nI (a * 1048576)) ∧ (m ≠ 0 → waitsAt (w + cnt a) = nI (m * 1048576))
def note (said : Nat → Int32) (c x : Nat) : Nat → Int32 := if x = 0 then said else upd said c (nI (x * 1048576 + 0))
theorem note_0 {said : Nat → Int32} {c : Nat} : note said c 0 = said := if_pos rfl
theorem note_lt {said : Nat → Int32} {c x k : Nat} (h : k < c) : note said c x k = said k := by
  unfold note
  split
  · rfl
  · exact upd_ne (by omega)
section CL
variable {waitsAt : Nat → Int32}
theorem top_sign {w x : Nat} (hw : w < 260) (hx : x < 20) (h : waitsAt w = nI (x * 1048576)) : Mo_waitTop (nI (w + 1)) waitsAt = some (nI x) := waitTop_eq (ar := 0) hw (by rw [Nat.add_zero]; exact h) hx (by decide)
/-- one sign written -/
theorem close_step {v1 : Int32} {c w x : Nat} {said : Nat → Int32} (hc : c < 260) (hw : w < 260) (h : waitsAt w = nI (x * 1048576)) (hx : (4 ≤ x ∧ x ≤ 6) ∨ ((x = 2 ∨ x = 3) ∧ ¬ v1 = 0)) : Mo_closesSums_L0 v1 waitsAt (nI c, nI (w + 1), said) = some (.inl (nI (c + 1), nI w, upd said c (nI (x * 1048576 + 0)))) := by
  have ht := top_sign hw (by omega) h
  have hJ : Mo_closesSums_L0_J37 v1 (nI c) (nI (w + 1)) said waitsAt = some (.inl (nI (c + 1), nI w, upd said c (nI (x * 1048576 + 0)))) := by
    unfold Mo_closesSums_L0_J37
    refine (ob_eq ht).trans ((ob_eq (notes_eq hc x 0)).trans ?_)
    rw [show nI (w + 1) - 1 = nI w from nI_subN (b := 1) (by omega)]
  unfold Mo_closesSums_L0
  refine (ob_eq ht).trans ?_
  rcases hx with ⟨h4, h6⟩ | ⟨h23, hv⟩
  · exact (if_neg (fun z => absurd ((nI_ltN (a := x) (b := 4) (by omega) (by decide)).mp z) (by omega))).trans ((ob_eq ht).trans ((if_pos ((nI_leN (a := x) (b := 6) (by omega) (by decide)).mpr h6)).trans hJ))
  · refine (if_pos ((nI_ltN (a := x) (b := 4) (by omega) (by decide)).mpr (by omega))).trans ?_
    unfold Mo_closesSums_L0_J17
    refine (if_neg hv).trans ((ob_eq ht).trans ?_)
    rcases h23 with rfl | rfl
    · exact (if_pos rfl).trans hJ
    · exact (if_neg (by decide)).trans ((ob_eq ht).trans ((if_pos rfl).trans hJ))
theorem close_end {v1 : Int32} {c : Int32} {w : Nat} {said : Nat → Int32} (hw : w ≤ 260) (h : (v1 = 0 ∧ ∃ x, Mo_waitTop (nI w) waitsAt = some x ∧ (x < 4 ∨ ¬ x ≤ 6)) ∨ NoSign waitsAt w) : Mo_closesSums_L0 v1 waitsAt (c, nI w, said) = some (.inr (c, nI w, said)) := by
  have key : ∀ x, Mo_waitTop (nI w) waitsAt = some x → (x < 4 ∨ ¬ x ≤ 6) → Mo_closesSums_L0_J17 v1 c (nI w) said waitsAt = some (.inr (c, nI w, said)) → Mo_closesSums_L0 v1 waitsAt (c, nI w, said) = some (.inr (c, nI w, said)) := by
    intro x hx h46 hJ
    unfold Mo_closesSums_L0
    refine (ob_eq hx).trans ?_
    by_cases h4 : x < 4
    · exact (if_pos h4).trans hJ
    · exact (if_neg h4).trans ((ob_eq hx).trans ((if_neg (h46.resolve_left h4)).trans hJ))
  rcases h with ⟨hv, x, hx, h46⟩ | h
  · refine key x hx h46 ?_
    unfold Mo_closesSums_L0_J17
    exact if_pos hv
  · obtain ⟨x, hx, h46, n2, n3⟩ := noSign_top hw h
    refine key x hx h46 ?_
    unfold Mo_closesSums_L0_J17
    by_cases hv : v1 = 0
    · exact if_pos hv
    · exact (if_neg hv).trans ((ob_eq hx).trans ((if_neg n2).trans ((ob_eq hx).trans (if_neg n3))))
theorem closes0 {w a m c : Nat} {said : Nat → Int32} (hp : PS waitsAt w a m) (hb : NoSign waitsAt w) (hw : w + 2 ≤ 260) (hc : c < 260) : Mo_closesSums (nI c) (nI (w + cnt a + cnt m)) said waitsAt 0 = some (nI (c + cnt m), nI (w + cnt a), note said c m) := by
  obtain ⟨p1, p2, p3, p4⟩ := hp
  have ha := cnt_le a
  have hend : Mo_closesSums_L0 0 waitsAt (nI (c + cnt m), nI (w + cnt a), note said c m) = some (.inr (nI (c + cnt m), nI (w + cnt a), note said c m)) := by
    refine close_end (by omega) ?_
    by_cases e : a = 0
    · rw [e, cnt_0, Nat.add_zero]; exact Or.inr hb
    · rw [cnt_1 e]
      exact Or.inl ⟨rfl, nI a, top_sign (by omega) (by omega) (p3 e), Or.inl ((nI_ltN (a := a) (b := 4) (by omega) (by decide)).mpr (by omega))⟩
  unfold Mo_closesSums
  by_cases e : m = 0
  · subst e
    rw [cnt_0, Nat.add_zero, note_0] at hend
    rw [cnt_0, Nat.add_zero, Nat.add_zero, note_0]
    exact (ob_eq (lp_inr hend)).trans rfl
  · have hs := close_step (v1 := 0) (said := said) hc (show w + cnt a < 260 by omega) (p4 e) (Or.inl (by omega))
    have e2 : note said c m = upd said c (nI (m * 1048576 + 0)) := if_neg e
    rw [cnt_1 e, e2] at hend ⊢
    exact (ob_eq (lp_inl hs (lp_inr hend))).trans rfl
theorem closes1 {w a m c : Nat} {said : Nat → Int32} (hp : PS waitsAt w a m) (hb : NoSign waitsAt w) (hw : w + 2 ≤ 260) (hc : c + 1 < 260) : Mo_closesSums (nI c) (nI (w + cnt a + cnt m)) said waitsAt 1 = some (nI (c + cnt m + cnt a), nI w, note (note said c m) (c + cnt m) a) := by
  obtain ⟨p1, p2, p3, p4⟩ := hp
  have ha := cnt_le a
  have hm := cnt_le m
  have hend : ∀ (x : Int32) (s : Nat → Int32), Mo_closesSums_L0 1 waitsAt (x, nI w, s) = some (.inr (x, nI w, s)) := fun x s => close_end (by omega) (Or.inr hb)
  have h2 : lp (Mo_closesSums_L0 1 waitsAt) (nI (c + cnt m), nI (w + cnt a), note said c m) = some (nI (c + cnt m + cnt a), nI w, note (note said c m) (c + cnt m) a) := by
    by_cases e : a = 0
    · subst e
      rw [cnt_0, Nat.add_zero, Nat.add_zero, note_0]
      exact lp_inr (hend _ _)
    · have hs := close_step (v1 := 1) (said := note said c m) (show c + cnt m < 260 by omega) (show w < 260 by omega) (p3 e) (Or.inr ⟨by omega, one_ne0⟩)
      have e2 : note (note said c m) (c + cnt m) a = upd (note said c m) (c + cnt m) (nI (a * 1048576 + 0)) := if_neg e
      rw [cnt_1 e, e2]
      exact lp_inl hs (lp_inr (hend _ _))
  unfold Mo_closesSums
  by_cases e : m = 0
  · subst e
    rw [cnt_0, Nat.add_zero, note_0] at h2
    rw [cnt_0, Nat.add_zero, Nat.add_zero, note_0]
    exact (ob_eq h2).trans rfl
  · have hs := close_step (v1 := 1) (said := said) (show c < 260 by omega) (show w + cnt a < 260 by omega) (p4 e) (Or.inl (by omega))
    have e2 : note said c m = upd said c (nI (m * 1048576 + 0)) := if_neg e
    rw [cnt_1 e, e2] at h2 ⊢
    exact (ob_eq (lp_inl hs h2)).trans rfl
/-- an open bracket of a sum, or none -/
theorem hasOpen_yes {v w x : Nat} (hw : w ≤ 260) (h1 : v ≤ x) (h2 : x < w) (h : waitsAt x = nI (14 * 1048576)) : Mo_hasOpenSum (nI w) waitsAt (nI v) = some 1 := by
  have hl : ∃ r, lp (Mo_hasOpenSum_L2 (nI w) waitsAt) (nI v) = some r ∧ r = .inl () := by
    refine lp_inv (f := Mo_hasOpenSum_L2 (nI w) waitsAt) (fun k s => s = nI (v + k)) (x - v) _ ?_ ?_ 0 _ (Nat.zero_le _) rfl
    · rintro k s hk rfl
      have hlt : nI (v + k) < nI w := (nI_ltN (by omega) (by omega)).mpr (by omega)
      by_cases h14 : waitsAt (v + k) / 1048576 = 14
      · refine Or.inr ⟨_, ?_, rfl⟩
        unfold Mo_hasOpenSum_L2
        refine (if_pos hlt).trans ((gd_eq (ixN (by omega) (by decide))).trans (if_pos ?_))
        rw [nI_clamp (by omega)]; exact h14
      · refine Or.inl ⟨_, ?_, rfl⟩
        unfold Mo_hasOpenSum_L2
        refine (if_pos hlt).trans ((gd_eq (ixN (by omega) (by decide))).trans ((if_neg ?_).trans ?_))
        · rw [nI_clamp (by omega)]; exact h14
        · rw [show nI (v + k) + 1 = nI (v + (k + 1)) from nI_ad (v + k) 1]
    · rintro s rfl
      have e : v + (x - v) = x := by omega
      rw [e]
      refine ⟨_, ?_, rfl⟩
      unfold Mo_hasOpenSum_L2
      refine (if_pos ((nI_ltN (by omega) (by omega)).mpr h2)).trans ((gd_eq (ixN (by omega) (by decide))).trans (if_pos ?_))
      rw [nI_clamp (by omega), h]
      have := kd_div (kd := 14) (ar := 0) (by decide) (by decide)
      rw [Nat.add_zero] at this
      exact this
  obtain ⟨r, g1, rfl⟩ := hl
  unfold Mo_hasOpenSum
  exact (ob_eq g1).trans rfl
theorem hasOpen_no {v w : Nat} (hw : w ≤ 260) (hv : v ≤ w) (h : ∀ x, v ≤ x → x < w → ∃ kd, kd < 14 ∧ waitsAt x = nI (kd * 1048576)) : Mo_hasOpenSum (nI w) waitsAt (nI v) = some 0 := by
  have hl : lp (Mo_hasOpenSum_L2 (nI w) waitsAt) (nI v) = some (.inr ()) := by
    refine lp_from (f := Mo_hasOpenSum_L2 (nI w) waitsAt) (fun k => nI k) hv (fun k h1 h2 => ?_) ?_
    · obtain ⟨kd, hk, e⟩ := h k h1 h2
      have hq : waitsAt k / 1048576 = nI kd := by
        have h3 := kd_div (kd := kd) (ar := 0) (by omega) (by decide)
        rw [Nat.add_zero, ← e] at h3
        exact h3
      have hne : ¬ waitsAt k / 1048576 = 14 := fun z => by
        rw [hq] at z
        have := (nI_inj (a := kd) (b := 14) (by omega) (by decide)).mp z
        omega
      have hx : ix (nI k) 260 = true := ixN (by omega) (by decide)
      have hcl : (nI k).toNatClampNeg = k := nI_clamp (by omega)
      show (if nI k < nI w then (gd (ix (nI k) 260) (if waitsAt (nI k).toNatClampNeg / 1048576 = 14 then some (Sum.inr (Sum.inl ())) else some (Sum.inl (nI k + 1)))) else some (Sum.inr (Sum.inr ()))) = some (Sum.inl (nI (k + 1)))
      rw [if_pos ((nI_ltN (by omega) (by omega)).mpr h2), gd_eq hx, hcl, if_neg hne, show nI k + 1 = nI (k + 1) from nI_ad k 1]
    · unfold Mo_hasOpenSum_L2
      exact if_neg (not_self (by omega))
  unfold Mo_hasOpenSum
  exact (ob_eq hl).trans rfl
end CL
/-! HOW DEEP THE STACK IS: 100 says that the truth of a test is at hand -/
def DI (said : Nat → Int32) (D : Nat → Nat) (b k : Nat) : Prop := ∃ kd ar, ar < 1048576 ∧ said k = nI (kd * 1048576 + ar) ∧
  ((kd ≤ 1 ∧ D k + 1 ≤ 20 ∧ D (k + 1) = D k + 1) ∨ (2 ≤ kd ∧ kd ≤ 6 ∧ 2 ≤ D k ∧ D k ≤ 20 ∧ D (k + 1) + 1 = D k) ∨ (7 ≤ kd ∧ kd ≤ 9 ∧ D k = 2 ∧ D (k + 1) = 100) ∨ (kd = 10 ∧ D k = 100 ∧ D (k + 1) = 100) ∨ ((kd = 11 ∨ kd = 12) ∧ D k = 100 ∧ D (k + 1) = 0 ∧ k < ar ∧ ar ≤ b ∧ D ar = 100))
def DepS (said : Nat → Int32) (a b d0 d1 : Nat) : Prop := ∃ D : Nat → Nat, D a = d0 ∧ D b = d1 ∧ ∀ k, a ≤ k → k < b → DI said D b k
theorem di_of {said said' : Nat → Int32} {D D' : Nat → Nat} {b b' k : Nat} (h : DI said D b k) (hs : said' k = said k) (hb : b ≤ b') (hk : k < b) (hD : ∀ j, j ≤ b → k ≤ j → D' j = D j) : DI said' D' b' k := by
  obtain ⟨kd, ar, h1, h2, h3⟩ := h
  have e0 := hD k (by omega) (Nat.le_refl _)
  have e1 := hD (k + 1) (by omega) (by omega)
  refine ⟨kd, ar, h1, by rw [hs]; exact h2, ?_⟩
  rw [e0, e1]
  rcases h3 with h | h | h | h | ⟨g1, g2, g3, g4, g5, g6⟩
  · exact Or.inl h
  · exact Or.inr (Or.inl h)
  · exact Or.inr (Or.inr (Or.inl h))
  · exact Or.inr (Or.inr (Or.inr (Or.inl h)))
  · exact Or.inr (Or.inr (Or.inr (Or.inr ⟨g1, g2, g3, g4, by omega, by rw [hD ar g5 (by omega)]; exact g6⟩)))
theorem dep_keep {said said' : Nat → Int32} {a b d0 d1 : Nat} (h : DepS said a b d0 d1) (hs : ∀ k, a ≤ k → k < b → said' k = said k) : DepS said' a b d0 d1 := by
  obtain ⟨D, h1, h2, h3⟩ := h
  exact ⟨D, h1, h2, fun k g1 g2 => di_of (h3 k g1 g2) (hs k g1 g2) (Nat.le_refl _) g2 (fun _ _ _ => rfl)⟩
theorem dep_nil (said : Nat → Int32) (a d : Nat) : DepS said a a d d := ⟨fun _ => d, rfl, rfl, fun k h1 h2 => by omega⟩
theorem dep_app {said : Nat → Int32} {a b c d0 d1 d2 : Nat} (hab : a ≤ b) (hbc : b ≤ c) (h1 : DepS said a b d0 d1) (h2 : DepS said b c d1 d2) : DepS said a c d0 d2 := by
  obtain ⟨D, p1, p2, p3⟩ := h1
  obtain ⟨D', q1, q2, q3⟩ := h2
  have hlo : ∀ j, j ≤ b → (fun k => if k < b then D k else D' k) j = D j := fun j hj => by
    show (if j < b then D j else D' j) = D j
    by_cases e : j < b
    · rw [if_pos e]
    · rw [if_neg e]
      have : j = b := by omega
      subst this; rw [q1, p2]
  have hhi : ∀ j, b ≤ j → (fun k => if k < b then D k else D' k) j = D' j := fun j hj => if_neg (by omega)
  refine ⟨fun k => if k < b then D k else D' k, (hlo a hab).trans p1, (hhi c hbc).trans q2, fun k g1 g2 => ?_⟩
  by_cases e : k < b
  · exact di_of (p3 k g1 e) rfl hbc e (fun j hj _ => hlo j hj)
  · exact di_of (q3 k (by omega) g2) rfl (Nat.le_refl _) g2 (fun j _ hj => hhi j (by omega))
theorem dep_one {said : Nat → Int32} {c kd ar d e : Nat} (ha : ar < 1048576) (hs : said c = nI (kd * 1048576 + ar)) (h : (kd ≤ 1 ∧ d + 1 ≤ 20 ∧ e = d + 1) ∨ (2 ≤ kd ∧ kd ≤ 6 ∧ 2 ≤ d ∧ d ≤ 20 ∧ e + 1 = d) ∨ (7 ≤ kd ∧ kd ≤ 9 ∧ d = 2 ∧ e = 100) ∨ (kd = 10 ∧ d = 100 ∧ e = 100)) : DepS said c (c + 1) d e := by
  refine ⟨fun k => if k ≤ c then d else e, if_pos (Nat.le_refl _), if_neg (by omega), fun k g1 g2 => ?_⟩
  have ek : k = c := by omega
  subst ek
  refine ⟨kd, ar, ha, hs, ?_⟩
  show (kd ≤ 1 ∧ (if k ≤ k then d else e) + 1 ≤ 20 ∧ (if k + 1 ≤ k then d else e) = (if k ≤ k then d else e) + 1) ∨ (2 ≤ kd ∧ kd ≤ 6 ∧ 2 ≤ (if k ≤ k then d else e) ∧ (if k ≤ k then d else e) ≤ 20 ∧ (if k + 1 ≤ k then d else e) + 1 = (if k ≤ k then d else e)) ∨ (7 ≤ kd ∧ kd ≤ 9 ∧ (if k ≤ k then d else e) = 2 ∧ (if k + 1 ≤ k then d else e) = 100) ∨ (kd = 10 ∧ (if k ≤ k then d else e) = 100 ∧ (if k + 1 ≤ k then d else e) = 100) ∨ _
  rw [if_pos (Nat.le_refl _), if_neg (show ¬ k + 1 ≤ k by omega)]
  rcases h with h | h | h | h
  · exact Or.inl h
  · exact Or.inr (Or.inl h)
  · exact Or.inr (Or.inr (Or.inl h))
  · exact Or.inr (Or.inr (Or.inr (Or.inl h)))
/-- a sign that waited is written -/
theorem dep_note {said : Nat → Int32} {c0 c d e z : Nat} (h0 : c0 ≤ c) (h : DepS said c0 c d (e + cnt z)) (hz : z = 0 ∨ (2 ≤ z ∧ z ≤ 6)) (h1 : 1 ≤ e) (h2 : e + 1 ≤ 20) : DepS (note said c z) c0 (c + cnt z) d e := by
  by_cases e0 : z = 0
  · rw [e0, cnt_0, Nat.add_zero] at h
    rw [e0, cnt_0, Nat.add_zero, note_0]; exact h
  · rw [cnt_1 e0] at h ⊢
    exact dep_app h0 (by omega) (dep_keep h (fun k _ hk => note_lt hk)) (dep_one (kd := z) (ar := 0) (by decide) (by unfold note; rw [if_neg e0, upd_at]) (Or.inr (Or.inl ⟨by omega, by omega, by omega, by omega, by omega⟩)))
