/-! THE RELATION between the states of both, and its rounds -/
def Rel (t : Nat) (X : XS) (M : MS) (c s : Nat) : Prop := ∃ (n : Nat) (nx : Nat → Nat),
  RL n nx (X_wells_xh X) (X_next_xh X) (X_ways_xh X) (M_wells_m M) (M_nextTo_m M) ∧
  RT (X_bytes_xt X) (X_length_xt X) (M_tape_m M) (M_taped_m M) ∧
  RJ (X_jars_xc X) (X_space_xc X) (X_throne_xc X) (X_day_xc X) (X_draw_xc X) (M_now_m M) ∧
  BJ (X_jars_xc X) (X_space_xc X) (X_throne_xc X) (X_day_xc X) (X_draw_xc X) ∧
  (∀ w, w < 12 → n ≤ w → (X_jars_xc X) w = 0) ∧
  (∃ t, (X_throne_xc X) = nI t ∧ (t < n ∨ t = 0)) ∧
  RA (X_rules_xa X) (X_kinds_xa X) (X_worths_xa X) (X_tests_xa X) (X_code_xa X) (M_clauses_m M) (M_codes_m M) (M_clauseOf_m M) (M_codeFrom_m M) (M_codeHalf_m M) (M_codeTo_m M) ∧
  (X_anyKept_x X) = (M_isKept_m M) ∧
  ((M_isKept_m M) = 0 ∨ (M_isKept_m M) = 1) ∧
  ((M_isKept_m M) = 1 → RJ (X_jars_xz X) (X_space_xz X) (X_throne_xz X) (X_day_xz X) (X_draw_xz X) (M_kept_m M)) ∧
  ((M_isKept_m M) = 1 → BJ (X_jars_xz X) (X_space_xz X) (X_throne_xz X) (X_day_xz X) (X_draw_xz X)) ∧
  MNs n nx (X_told_xn X) (X_layings_xn X) (X_rows_xn X) ∧
  SZ2 (X_nfound_xn X) (X_nmarks_xn X) ∧
  RBk (X_below_xqk X) ∧
  RBk (X_below_xwk X) ∧
  (X_nseen_xq X) ≤ 3937 ∧
  (X_nlayings_xq X) ≤ 43983 ∧
  (X_nstarts_xq X) = (X_nlayings_xq X) ∧
  MFs n nx (X_best_xw X) (X_jars_xw X) (X_layings_xw X) ∧
  (X_nreached_xw X) ≤ 43758 ∧
  (X_reached_xw X) 0 = 0 ∧
  (M_states_m M) = 0 ∧
  (∀ p, p < 262144 → (M_slotFor_m M) p = 0) ∧
  ((X_land_xg X) = .null ∨ (X_land_xg X) = .ref 20) ∧
  c ≤ 146 + 100 * t ∧
  s ≤ 1187040 + 91903 * t + 3 * (X_nfound_xn X)
theorem cell_step {c t kc : Nat} (hc : c ≤ 146 + 100 * t) (h : kc ≤ 100) : c + kc ≤ 146 + 100 * (t + 1) := by omega
theorem slot_step {s t ks nf : Nat} (hs : s ≤ 1187040 + 91903 * t + 3 * nf) (h : ks ≤ 91903) : s + ks ≤ 1187040 + 91903 * (t + 1) + 3 * nf := by omega
theorem slot_num {s t ks nf nf' : Nat} (hs : s ≤ 1187040 + 91903 * t + 3 * nf) (h : ks + 3 * nf ≤ 3 * nf') : s + ks ≤ 1187040 + 91903 * (t + 1) + 3 * nf' := by omega
theorem szz_le {nf nm : Nat} (h : SZ2 nf nm) : nf ≤ 65536 := by
  rcases h.1 with z | z
  · omega
  · exact z.1
theorem num_le {ks nf nf' nm' : Nat} (hz : SZ2 nf' nm') (h : ks + 3 * nf ≤ 3 * nf') : ks ≤ 200000 := by
  have := szz_le hz
  omega
theorem rt_eq {bytes tape : Nat → Int32} {len taped : Int32} (h : RT bytes len tape taped) : len = taped := by
  obtain ⟨k, -, e1, e2, -⟩ := h
  rw [e1, e2]
theorem ra_eq {rules : Int32} {kinds worths tests code : Nat → Int32} {clauses : Int32} {codes clauseOf from_ half to_ : Nat → Int32} (h : RA rules kinds worths tests code clauses codes clauseOf from_ half to_) : rules = clauses := by
  obtain ⟨n, s, c, e1, e2, -⟩ := h
  rw [e1, e2]
theorem undo_ok2 {n : Nat} (hn : n ≤ 12) {jars space now jz sz kept : Nat → Int32} {throne day draw tz dz wz an ik : Int32} (h : RJ jars space throne day draw now) (hb : BJ jars space throne day draw) (hz : ∀ w, w < 12 → n ≤ w → jars w = 0) (ht : ∃ t, throne = nI t ∧ (t < n ∨ t = 0))
    (h2 : ik = 1 → RJ jz sz tz dz wz kept) (hb2 : ik = 1 → BJ jz sz tz dz wz) (ha : an = ik) (hi : ik = 0 ∨ ik = 1) :
    ∃ r jars' space' throne' day' draw' now', Dj_undo (nI n) jars space throne day draw jz sz tz dz wz an = some (r, jars', space', throne', day', draw') ∧ Mo_undo now kept (nI n) ik = some (r, now') ∧ RJ jars' space' throne' day' draw' now' ∧ BJ jars' space' throne' day' draw' ∧ (∀ w, w < 12 → n ≤ w → jars' w = 0) ∧ ∃ t, throne' = nI t ∧ (t < n ∨ t = 0) := by
  rcases id hi with e | e
  · refine ⟨0, jars, space, throne, day, draw, now, ?_, ?_, h, hb, hz, ht⟩
    · unfold Dj_undo
      rw [if_pos (ha.trans e)]
    · unfold Mo_undo
      rw [if_pos e]
  · exact undo_ok hn h hb hz ht (h2 e) (hb2 e) ha hi
theorem bz_cases (x : Int32) : bz x = 0 ∨ bz x = 1 := by
  unfold bz
  by_cases h : x = 0
  · first | exact Or.inl (if_pos h) | (rw [if_pos h]; exact Or.inl rfl) | (simp [h])
  · first | exact Or.inr (if_neg h) | (rw [if_neg h]; exact Or.inr rfl) | (simp [h])
