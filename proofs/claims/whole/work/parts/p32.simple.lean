/-! ROOM, QUEEN, SEED, KEEP, UNDO, FEED, CHECK -/
/-- the tapes -/
def RT (bytes : Nat → Int32) (len : Int32) (tape : Nat → Int32) (taped : Int32) : Prop := ∃ k, k ≤ 260 ∧ len = nI k ∧ taped = nI k ∧ ∀ j, j < k → bytes j = tape j &&& 255
/-- jars, room, queen, day, draws -/
def RJ (jars space : Nat → Int32) (throne day draw : Int32) (now : Nat → Int32) : Prop := (∀ w, w < 12 → now w = jars w) ∧ (∀ w, w < 12 → now (12 + w) = space w) ∧ now 24 = throne ∧ now 25 = day ∧ now 26 = draw
/-- bounds of these -/
def BJ (jars space : Nat → Int32) (throne day draw : Int32) : Prop := (∀ w, w < 12 → ∃ j, j ≤ 40 ∧ jars w = nI j) ∧ (∀ w, w < 12 → ∃ j, j ≤ 40 ∧ space w = nI j) ∧ (∃ t, t < 12 ∧ throne = nI t) ∧ (∃ d, d ≤ 9999 ∧ day = nI d) ∧ ∃ x, x ≤ 65535 ∧ draw = nI x
theorem room_ok {n : Nat} (hn : n ≤ 12) {jars space now : Nat → Int32} {throne day draw : Int32} (h : RJ jars space throne day draw now) (hb : BJ jars space throne day draw) (a1 a2 : Int32) :
    ∃ r space' now', Dj_room (nI n) space a1 a2 = some (r, space') ∧ Mo_room now (nI n) a1 a2 = some (r, now') ∧ RJ jars space' throne day draw now' ∧ BJ jars space' throne day draw := by
  unfold Dj_room Mo_room
  rcases well_cases a1 hn with ⟨w, hw, rfl, e1, e2⟩ | ⟨e1, e2, -⟩
  · rw [ob_eq e1, ob_eq e2, if_neg one_ne0, if_neg one_ne0]
    by_cases h1 : a2 < 0
    · rw [if_pos h1, ob_eq (Mo_in_no1 h1), if_pos rfl]
      exact ⟨_, _, _, rfl, rfl, h, hb⟩
    · rw [if_neg h1]
      by_cases h2 : a2 ≤ 40
      · obtain ⟨j, hj, rfl⟩ := nI_between (h := 40) (by decide) h1 h2
        rw [if_pos h2, ob_eq (Mo_in_yes h1 h2), if_neg one_ne0, gd_eq (ixN (by omega) (by decide)), show (12 : Int32) + nI w = nI (12 + w) from nI_ad 12 w, gd_eq (ixN (by omega) (by decide)), nI_clamp (by omega), nI_clamp (by omega)]
        refine ⟨_, _, _, rfl, rfl, ⟨fun v hv => ?_, fun v hv => ?_, ?_, ?_, ?_⟩, hb.1, fun v hv => ?_, hb.2.2⟩
        · rw [upd_ne (by omega)]; exact h.1 v hv
        · by_cases e : v = w
          · subst e; rw [upd_at, upd_at]
          · rw [upd_ne (by omega), upd_ne e]; exact h.2.1 v hv
        · rw [upd_ne (by omega)]; exact h.2.2.1
        · rw [upd_ne (by omega)]; exact h.2.2.2.1
        · rw [upd_ne (by omega)]; exact h.2.2.2.2
        · by_cases e : v = w
          · subst e; rw [upd_at]; exact ⟨j, hj, rfl⟩
          · rw [upd_ne e]; exact hb.2.1 v hv
      · rw [if_neg h2, ob_eq (Mo_in_no2 h2), if_pos rfl]
        exact ⟨_, _, _, rfl, rfl, h, hb⟩
  · rw [ob_eq e1, ob_eq e2, if_pos rfl, if_pos rfl]
    exact ⟨_, _, _, rfl, rfl, h, hb⟩
theorem queen_ok {n : Nat} (hn : n ≤ 12) {jars space now : Nat → Int32} {throne day draw : Int32} (h : RJ jars space throne day draw now) (hb : BJ jars space throne day draw) (ht : ∃ t, throne = nI t ∧ (t < n ∨ t = 0)) (a1 : Int32) :
    ∃ r throne' now', Dj_queen (nI n) throne a1 = some (r, throne') ∧ Mo_queen now (nI n) a1 = some (r, now') ∧ RJ jars space throne' day draw now' ∧ BJ jars space throne' day draw ∧ ∃ t, throne' = nI t ∧ (t < n ∨ t = 0) := by
  unfold Dj_queen Mo_queen
  rcases well_cases a1 hn with ⟨w, hw, rfl, e1, e2⟩ | ⟨e1, e2, -⟩
  · rw [ob_eq e1, ob_eq e2, if_neg one_ne0, if_neg one_ne0, gd_eq (show ix 24 27 = true from rfl)]
    refine ⟨_, _, _, rfl, rfl, ⟨fun v hv => ?_, fun v hv => ?_, ?_, ?_, ?_⟩, ⟨hb.1, hb.2.1, ⟨w, by omega, rfl⟩, hb.2.2.2⟩, w, rfl, Or.inl hw⟩
    · exact (upd_ne (show v ≠ 24 by omega)).trans (h.1 v hv)
    · exact (upd_ne (show 12 + v ≠ 24 by omega)).trans (h.2.1 v hv)
    · exact upd_at _ _ _
    · exact (upd_ne (show 25 ≠ 24 by omega)).trans (h.2.2.2.1)
    · exact (upd_ne (show 26 ≠ 24 by omega)).trans (h.2.2.2.2)
  · rw [ob_eq e1, ob_eq e2, if_pos rfl, if_pos rfl]
    exact ⟨_, _, _, rfl, rfl, h, hb, ht⟩
theorem seed_ok {jars space now : Nat → Int32} {throne day draw : Int32} (h : RJ jars space throne day draw now) (hb : BJ jars space throne day draw) (a1 : Int32) :
    ∃ r draw' now', Dj_seed draw a1 = some (r, draw') ∧ Mo_seed now a1 = some (r, now') ∧ RJ jars space throne day draw' now' ∧ BJ jars space throne day draw' := by
  unfold Dj_seed Mo_seed
  by_cases h1 : a1 < 0
  · rw [if_pos h1, ob_eq (Mo_in_no1 h1), if_pos rfl]
    exact ⟨_, _, _, rfl, rfl, h, hb⟩
  · rw [if_neg h1]
    by_cases h2 : a1 ≤ 65535
    · obtain ⟨j, hj, rfl⟩ := nI_between (h := 65535) (by decide) h1 h2
      rw [if_pos h2, ob_eq (Mo_in_yes h1 h2), if_neg one_ne0, gd_eq (show ix 26 27 = true from rfl)]
      refine ⟨_, _, _, rfl, rfl, ⟨fun v hv => ?_, fun v hv => ?_, ?_, ?_, ?_⟩, hb.1, hb.2.1, hb.2.2.1, hb.2.2.2.1, j, hj, rfl⟩
      · exact (upd_ne (show v ≠ 26 by omega)).trans (h.1 v hv)
      · exact (upd_ne (show 12 + v ≠ 26 by omega)).trans (h.2.1 v hv)
      · exact (upd_ne (show 24 ≠ 26 by omega)).trans (h.2.2.1)
      · exact (upd_ne (show 25 ≠ 26 by omega)).trans (h.2.2.2.1)
      · exact upd_at _ _ _
    · rw [if_neg h2, ob_eq (Mo_in_no2 h2), if_pos rfl]
      exact ⟨_, _, _, rfl, rfl, h, hb⟩
/-- the first k of f, then g -/
def upTo (f g : Nat → Int32) (k : Nat) : Nat → Int32 := fun j => if j < k then f j else g j
theorem upTo_succ (f g : Nat → Int32) (k : Nat) : upd (upTo f g k) k (f k) = upTo f g (k + 1) := by
  funext j
  unfold upd upTo
  by_cases h : j = k
  · subst h; simp
  · by_cases h2 : j < k
    · simp [h, h2, show j < k + 1 by omega]
    · simp [h, h2, show ¬ j < k + 1 by omega]
theorem upTo_zero (f g : Nat → Int32) : upTo f g 0 = g := by
  funext j; simp [upTo]
theorem Mo_copies_eq (f g : Nat → Int32) : Mo_copies f g = some (upTo f g 27) := by
  unfold Mo_copies
  refine (ob_eq (a := upTo f g 27) ?_).trans rfl
  have := lp_run (f := Mo_copies_L2 f) (fun k => (nI k, upTo f g k)) 27 (r := upTo f g 27) (fun k hk => ?_) rfl
  · rw [upTo_zero] at this; exact this
  · show (if nI k < nI 27 then _ else _) = _
    rw [if_pos ((nI_ltN (by omega) (by decide)).mpr hk), gd_eq (ixN hk (by decide)), gd_eq (ixN hk (by decide))]
    show some (Sum.inl (nI k + nI 1, upd (upTo f g k) (nI k).toNatClampNeg (f (nI k).toNatClampNeg))) = _
    rw [nI_clamp (by omega), nI_ad, upTo_succ]
theorem Camp_become_eq (j s : Nat → Int32) (t d w : Int32) (j2 s2 : Nat → Int32) (t2 d2 w2 : Int32) : ∃ j' s', Camp_become j s t d w j2 s2 t2 d2 w2 = some (j', s', t2, d2, w2) ∧ (∀ k, k < 12 → j' k = j2 k) ∧ ∀ k, k < 12 → s' k = s2 k := by
  refine ⟨_, _, rfl, fun k hk => ?_, fun k hk => ?_⟩
  · show (if 0 ≤ k ∧ k < 0 + 12 then j2 (0 + (k - 0)) else j k) = j2 k
    rw [if_pos (by omega)]; congr 1; omega
  · show (if 0 ≤ k ∧ k < 0 + 12 then s2 (0 + (k - 0)) else s k) = s2 k
    rw [if_pos (by omega)]; congr 1; omega
theorem keep_ok {jars space now jz sz kept : Nat → Int32} {throne day draw tz dz wz an ik : Int32} (h : RJ jars space throne day draw now) (hb : BJ jars space throne day draw) :
    ∃ r jz' sz' kept', Dj_keep jars space throne day draw jz sz tz dz wz an = some (r, jz', sz', throne, day, draw, 1) ∧ Mo_keep now kept ik = some (r, kept', 1) ∧ RJ jz' sz' throne day draw kept' ∧ BJ jz' sz' throne day draw := by
  obtain ⟨j', s', e1, e2, e3⟩ := Camp_become_eq jz sz tz dz wz jars space throne day draw
  refine ⟨day, j', s', upTo now kept 27, ?_, ?_, ⟨fun w hw => ?_, fun w hw => ?_, ?_, ?_, ?_⟩, fun w hw => ?_, fun w hw => ?_, hb.2.2⟩
  · unfold Dj_keep; rw [ob_eq e1]
  · unfold Mo_keep
    rw [ob_eq (Mo_copies_eq _ _), gd_eq (show ix 25 27 = true from rfl)]
    show some (now 25, _, _) = _
    rw [h.2.2.2.1]
  · rw [e2 w hw, ← h.1 w hw]; exact if_pos (by omega)
  · rw [e3 w hw, ← h.2.1 w hw]; exact if_pos (by omega)
  · exact (if_pos (by decide)).trans h.2.2.1
  · exact (if_pos (by decide)).trans h.2.2.2.1
  · exact (if_pos (by decide)).trans h.2.2.2.2
  · rw [e2 w hw]; exact hb.1 w hw
  · rw [e3 w hw]; exact hb.2.1 w hw
/-- nothing from a on -/
def cleared (f : Nat → Int32) (a k : Nat) : Nat → Int32 := fun j => if a ≤ j ∧ j < k then 0 else f j
theorem cleared_succ {f : Nat → Int32} {a k : Nat} (h : a ≤ k) : upd (cleared f a k) k 0 = cleared f a (k + 1) := by
  funext j
  unfold upd cleared
  by_cases e : j = k
  · subst e; simp [h]
  · by_cases h2 : a ≤ j ∧ j < k
    · simp [e, h2, show a ≤ j ∧ j < k + 1 by omega]
    · rw [if_neg e, if_neg h2, if_neg (by omega)]
theorem cleared_self (f : Nat → Int32) (a : Nat) : cleared f a a = f := by
  funext j; unfold cleared; rw [if_neg (by omega)]
theorem Dj_undo_loop (f : Nat → Int32) {n : Nat} (hn : n ≤ 12) : lp Dj_undo_L28 (nI n, f) = some (cleared f n 12) := by
  have := lp_from (f := Dj_undo_L28) (fun k => (nI k, cleared f n k)) hn (r := cleared f n 12) (fun k h1 hk => ?_) rfl
  · rw [cleared_self] at this; exact this
  · show (if nI k < nI 12 then _ else _) = _
    rw [if_pos ((nI_ltN (by omega) (by decide)).mpr hk), gd_eq (ixN hk (by decide))]
    show some (Sum.inl (nI k + nI 1, upd (cleared f n k) (nI k).toNatClampNeg 0)) = _
    rw [nI_clamp (by omega), nI_ad, cleared_succ h1]
theorem Mo_undo_loop (f : Nat → Int32) {n : Nat} (hn : n ≤ 12) : lp Mo_undo_L25 (nI n, f) = some (cleared f n 12) := by
  have := lp_from (f := Mo_undo_L25) (fun k => (nI k, cleared f n k)) hn (r := cleared f n 12) (fun k h1 hk => ?_) rfl
  · rw [cleared_self] at this; exact this
  · show (if nI k < nI 12 then (gd (ix (nI 0 + nI k) 27) (some (Sum.inl (nI k + nI 1, upd (cleared f n k) (nI 0 + nI k).toNatClampNeg 0)))) else _) = _
    rw [if_pos ((nI_ltN (by omega) (by decide)).mpr hk), nI_ad, Nat.zero_add, gd_eq (ixN (by omega) (by decide)), nI_clamp (by omega), nI_ad, cleared_succ h1]
theorem undo_ok {n : Nat} (hn : n ≤ 12) {jars space now jz sz kept : Nat → Int32} {throne day draw tz dz wz an ik : Int32} (h : RJ jars space throne day draw now) (hb : BJ jars space throne day draw) (hz : ∀ w, w < 12 → n ≤ w → jars w = 0) (ht : ∃ t, throne = nI t ∧ (t < n ∨ t = 0))
    (h2 : RJ jz sz tz dz wz kept) (hb2 : BJ jz sz tz dz wz) (ha : an = ik) (hi : ik = 0 ∨ ik = 1) :
    ∃ r jars' space' throne' day' draw' now', Dj_undo (nI n) jars space throne day draw jz sz tz dz wz an = some (r, jars', space', throne', day', draw') ∧ Mo_undo now kept (nI n) ik = some (r, now') ∧ RJ jars' space' throne' day' draw' now' ∧ BJ jars' space' throne' day' draw' ∧ (∀ w, w < 12 → n ≤ w → jars' w = 0) ∧ ∃ t, throne' = nI t ∧ (t < n ∨ t = 0) := by
  subst ha
  rcases hi with rfl | rfl
  · exact ⟨0, jars, space, throne, day, draw, now, rfl, rfl, h, hb, hz, ht⟩
  · obtain ⟨j', s', e1, e2, e3⟩ := Camp_become_eq jars space throne day draw jz sz tz dz wz
    have e5 : ∀ w, w < 12 → cleared (upTo kept now 27) n 12 w = cleared j' n 12 w := by
      intro w hw
      unfold cleared
      by_cases h3 : n ≤ w ∧ w < 12
      · rw [if_pos h3, if_pos h3]
      · rw [if_neg h3, if_neg h3, e2 w hw, ← h2.1 w hw]; exact if_pos (by omega)
    have e6 : ∀ k, 12 ≤ k → k < 27 → cleared (upTo kept now 27) n 12 k = kept k := by
      intro k h3 h4
      unfold cleared upTo
      rw [if_neg (by omega), if_pos h4]
    have hbj : ∀ w, w < 12 → ∃ j, j ≤ 40 ∧ cleared j' n 12 w = nI j := by
      intro w hw
      unfold cleared
      by_cases h3 : n ≤ w ∧ w < 12
      · rw [if_pos h3]; exact ⟨0, by omega, rfl⟩
      · rw [if_neg h3, e2 w hw]; exact hb2.1 w hw
    have hq : (cleared (upTo kept now 27) n 12) 24 = tz := (e6 24 (by omega) (by omega)).trans h2.2.2.1
    have hzz : ∀ w, w < 12 → n ≤ w → cleared j' n 12 w = 0 := fun w h3 h4 => if_pos ⟨h4, h3⟩
    rcases well_cases tz hn with ⟨w, hw, e, e7, e8⟩ | ⟨e7, e8, -⟩
    · refine ⟨1, cleared j' n 12, s', tz, dz, wz, cleared (upTo kept now 27) n 12, ?_, ?_, ⟨fun v hv => e5 v hv, fun v hv => ?_, hq, (e6 25 (by omega) (by omega)).trans h2.2.2.2.1, (e6 26 (by omega) (by omega)).trans h2.2.2.2.2⟩, ⟨hbj, fun v hv => ?_, hb2.2.2⟩, hzz, w, e, Or.inl hw⟩
      · unfold Dj_undo
        rw [if_neg one_ne0, ob_eq e1, ob_eq (Dj_undo_loop j' hn), ob_eq e7, if_neg one_ne0]
      · unfold Mo_undo
        rw [if_neg one_ne0, ob_eq (Mo_copies_eq _ _), ob_eq (Mo_undo_loop _ hn), gd_eq (show ix 24 27 = true from rfl)]
        show ob (Mo_isWell (nI n) ((cleared (upTo kept now 27) n 12) 24)) _ = _
        rw [hq, ob_eq e8, if_neg one_ne0]
      · rw [e6 (12 + v) (by omega) (by omega), e3 v hv]; exact h2.2.1 v hv
      · rw [e3 v hv]; exact hb2.2.1 v hv
    · refine ⟨1, cleared j' n 12, s', 0, dz, wz, upd (cleared (upTo kept now 27) n 12) 24 0, ?_, ?_, ⟨fun v hv => ?_, fun v hv => ?_, upd_at _ _ _, ?_, ?_⟩, ⟨hbj, fun v hv => ?_, ⟨0, by omega, rfl⟩, hb2.2.2.2⟩, hzz, 0, rfl, Or.inr rfl⟩
      · unfold Dj_undo
        rw [if_neg one_ne0, ob_eq e1, ob_eq (Dj_undo_loop j' hn), ob_eq e7, if_pos rfl]
      · unfold Mo_undo
        rw [if_neg one_ne0, ob_eq (Mo_copies_eq _ _), ob_eq (Mo_undo_loop _ hn), gd_eq (show ix 24 27 = true from rfl)]
        show ob (Mo_isWell (nI n) ((cleared (upTo kept now 27) n 12) 24)) _ = _
        rw [hq, ob_eq e8, if_pos rfl, gd_eq (show ix 24 27 = true from rfl)]
        rfl
      · rw [upd_ne (by omega)]; exact e5 v hv
      · rw [upd_ne (by omega), e6 (12 + v) (by omega) (by omega), e3 v hv]; exact h2.2.1 v hv
      · rw [upd_ne (by omega)]; exact (e6 25 (by omega) (by omega)).trans h2.2.2.2.1
      · rw [upd_ne (by omega)]; exact (e6 26 (by omega) (by omega)).trans h2.2.2.2.2
      · rw [e3 v hv]; exact hb2.2.1 v hv
