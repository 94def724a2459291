/-! A WHOLE LAND at each depth (printed by wip/gen/whole.py) -/
theorem sm_inl {α β γ : Type} (a : α) (f : α → Option γ) (g : β → Option γ) : sm (.inl a) f g = f a := rfl
theorem sm_inr {α β γ : Type} (a : β) (f : α → Option γ) (g : β → Option γ) : sm (.inr a) f g = g a := rfl
theorem become_ok {n : Nat} {adj : Nat → Nat → Bool} (w0 : Int32) (nx0 : Nat → Int32) {next : Nat → Int32} (h : CM n adj next) : ∃ x, Land_become w0 nx0 (nI n) next = some (nI n, x) ∧ CM n adj x := by
  refine ⟨va_cpy next nx0 (0 : Int32).toNatClampNeg (0 : Int32).toNatClampNeg (12 : Int32).toNatClampNeg, ?_, fun w hw => ?_⟩
  · unfold Land_become
    exact gd_eq (show cpOk 0 0 12 12 12 = true from rfl)
  · show (if 0 ≤ w ∧ w < 0 + 12 then next (0 + (w - 0)) else nx0 w) = _
    rw [if_pos (by omega)]
    rw [show 0 + (w - 0) = w by omega]
    exact h w hw
section LV
variable {bytes tape : Nat → Int32} {E : Nat}
theorem part2_ok (hT : TX bytes tape E) (hE : E ≤ 260) {i : Nat} (hi : i < 300) (wp : Int32) (np : Nat → Int32) (f num : Int32) (many nx part new : Nat → Int32) :
    (∃ q F w' n', q < 400 ∧ LandReader_readPart2 bytes (nI E) (nI i) 0 wp np = some (0, nI q, F, w', n') ∧ ¬ F = 0 ∧ LoopBad tape E 2 i f num many nx part new F) ∨
    ∃ j m adj np', i + 2 ≤ j ∧ j ≤ E ∧ 1 ≤ m ∧ m ≤ 12 ∧ Sy adj ∧ CM m adj np' ∧ LandReader_readPart2 bytes (nI E) (nI i) 0 wp np = some (nI E, nI j, 0, nI m, np') ∧ PartTo tape E 2 i j m adj f num many nx part new := by
  have hp := peek_eq (bytes := bytes) hE (show i < 2 ^ 31 by omega)
  by_cases hc : ch bytes E i = 40
  · left
    refine ⟨i, flt 5 i, wp, np, by omega, ?_, flt_ne (by omega) (by omega), part_deep hT hi hc f num many nx part new⟩
    unfold LandReader_readPart2
    exact (ob_eq hp).trans ((if_pos hc).trans ((if_neg (show ¬ (2 : Int32) < 2 by decide)).trans ((ob_eq (fail0 _ _ _)).trans rfl)))
  · have hto : ∀ {x}, LandReader_readShape bytes (nI E) (nI i) 0 wp np (ch bytes E i) = some x → LandReader_readPart2 bytes (nI E) (nI i) 0 wp np = some x := by
      intro x hx
      unfold LandReader_readPart2
      exact (ob_eq hp).trans ((if_neg hc).trans ((ob_eq hx).trans rfl))
    rcases part_plain hT hE hi (d := 2) (by omega) hc wp np f num many nx part new with ⟨q, F, w', n', hq, h1, h2, h3⟩ | ⟨j, m, adj, np', h1, h2, h3, h4, h5, h6, h7, h8⟩
    · exact Or.inl ⟨q, F, w', n', hq, hto h1, h2, h3⟩
    · exact Or.inr ⟨j, m, adj, np', h1, h2, h3, h4, h5, h6, hto h7, h8⟩
theorem j111_2 (hT : TX bytes tape E) {j k : Nat} (hj : j < 1000) (w : Int32) (nn : Nat → Int32) (wp : Int32) (np : Nat → Int32) (wx : Int32) (xx : Nat → Int32) :
    LandReader_readWhole2_L2_J111 (nI k) bytes (nI E) (nI j) 0 w nn wp np wx xx = if ch bytes E j = 42 then some (.inl (nI (k + 1), nI E, nI (j + 1), 0, w, nn, wp, np, wx, xx)) else some (.inr (.inr (.inr (.inl (nI E, nI j, 0, w, nn, wp, np, wx, xx))))) := by
  unfold LandReader_readWhole2_L2_J111
  rw [ob_eq (peek_eq (bytes := bytes) hT.1 (show j < 2 ^ 31 by omega))]
  by_cases h : ch bytes E j = 42
  · rw [if_pos h, if_pos h, show nI (k + 1) = nI k + 1 from (nI_ad k 1).symm, show nI (j + 1) = nI j + 1 from (nI_ad j 1).symm]; rfl
  · rw [if_neg h, if_neg h]
def WP2 (tape bytes : Nat → Int32) (E i0 : Nat) (f num : Int32) (many nx part new : Nat → Int32) (r : (Int32 × Int32 × Int32 × Int32 × (Nat → Int32) × Int32 × (Nat → Int32) × Int32 × (Nat → Int32)) ⊕ (Int32 × Int32 × Int32 × Int32 × Int32 × (Nat → Int32) × Int32 × (Nat → Int32) × Int32 × (Nat → Int32)) ⊕ (Int32 × Int32 × Int32 × Int32 × (Nat → Int32) × Int32 × (Nat → Int32) × Int32 × (Nat → Int32)) ⊕ (Int32 × Int32 × Int32 × Int32 × (Nat → Int32) × Int32 × (Nat → Int32) × Int32 × (Nat → Int32))) : Prop :=
  (∃ (q : Nat) (F w : Int32) (nn : Nat → Int32) (tl : Int32 × (Nat → Int32) × Int32 × (Nat → Int32)), q < 400 ∧ r = .inl (0, nI q, F, w, nn, tl) ∧ ¬ F = 0 ∧ LoopBad tape E 2 i0 f num many nx part new F) ∨
  (∃ (i q : Nat) (w : Int32) (nn : Nat → Int32) (tl : Int32 × (Nat → Int32) × Int32 × (Nat → Int32)), q < 400 ∧ r = .inr (.inl (nI i, nI E, nI q, 0, w, nn, tl)) ∧ i ≤ E ∧ LoopBad tape E 2 i0 f num many nx part new (flt 6 i)) ∨
  ∃ (j n : Nat) (adj : Nat → Nat → Bool) (nn : Nat → Int32) (tl : Int32 × (Nat → Int32) × Int32 × (Nat → Int32)), r = .inr (.inr (.inl (nI E, nI j, 0, nI n, nn, tl))) ∧ i0 + 2 ≤ j ∧ j ≤ E ∧ 1 ≤ n ∧ n ≤ 12 ∧ Sy adj ∧ CM n adj nn ∧ ¬ ch bytes E j = 42 ∧ WholeTo tape E 2 i0 j n adj f num many nx part new
theorem whole2_loop (hT : TX bytes tape E) (hE : E ≤ 60) {i0 : Nat} (hi0 : i0 ≤ E) (w0 : Int32) (nn0 : Nat → Int32) (wp : Int32) (np : Nat → Int32) (wx : Int32) (xx : Nat → Int32) (f num : Int32) (many nx part new : Nat → Int32) (h0 : many 2 = 0) :
    ∃ r, lp (LandReader_readWhole2_L2 bytes) (0, nI E, nI i0, 0, w0, nn0, wp, np, wx, xx) = some r ∧ WP2 tape bytes E i0 f num many nx part new r := by
  refine lp_inv (f := LandReader_readWhole2_L2 bytes) (fun k s => ∃ (i : Nat) (w : Int32) (nn : Nat → Int32) (tl : Int32 × (Nat → Int32) × Int32 × (Nat → Int32)) (n : Nat) (adj : Nat → Nat → Bool) (num' : Int32) (many' nx' part' new' : Nat → Int32), s = (nI k, nI E, nI i, 0, w, nn, tl) ∧ 2 * k ≤ i ∧ i0 ≤ i ∧ i ≤ E ∧ (0 < k → w = nI n ∧ CM n adj nn) ∧ Before tape E 2 i0 f num many nx part new k i n adj num' many' nx' part' new') 60 _ ?_ ?_ 0 _ (Nat.zero_le _) ⟨i0, w0, nn0, (wp, np, wx, xx), 0, fun _ _ => false, num, many, nx, part, new, rfl, by omega, Nat.le_refl _, hi0, fun z => absurd z (Nat.lt_irrefl _), fun _ => h0, fun z => absurd z (Nat.lt_irrefl _), same_refl _ _ _ _, fun _ h => h⟩
  · rintro k s hk ⟨i, w, nn, ⟨wp, np, wx, xx⟩, n, adj, num', many', nx', part', new', rfl, hi2, hi0', hiE, hw, hB⟩
    have hk60 : nI k < 60 := (nI_ltN (b := 60) (by omega) (by decide)).mpr hk
    have bad : ∀ {F}, LoopBad tape E 2 i f num' many' nx' part' new' F → LoopBad tape E 2 i0 f num many nx part new F := fun ⟨r, a, b⟩ => ⟨r, hB.2.2.2 r a, b⟩
    rcases part2_ok hT (by omega) (i := i) (by omega) wp np f num' many' nx' part' new' with ⟨q, F, w', n', hq, g1, g2, g3⟩ | ⟨j, m, B, mm, hj1, hj2, hm1, hm, sB, cB, hpart, hpt⟩
    · refine Or.inr ⟨.inl (0, nI q, F, w, nn, w', n', wx, xx), ?_, Or.inl ⟨q, F, w, nn, _, hq, rfl, g2, bad g3⟩⟩
      unfold LandReader_readWhole2_L2
      exact (if_pos hk60).trans ((ob_eq g1).trans (if_neg g2))
    · have jlt : ch bytes E j = 42 → j + 1 ≤ E := fun h => by
        rcases ch_cases hT j with z | ⟨z, -⟩
        · rw [z] at h; exact absurd h (by decide)
        · exact z
      obtain ⟨t1, t2⟩ := joined_to hT (show 2 < 3 by omega) hB (show j < 300 by omega) hm1 hm sB hpt
      have hjj := j111_2 hT (j := j) (k := k) (by omega)
      by_cases hk0 : k = 0
      · obtain ⟨x2, bc1, bc2⟩ := become_ok (n := m) w nn cB
        have hq := t2 (Or.inl hk0)
        rw [if_pos hk0, if_pos hk0] at hq
        have hgo : LandReader_readWhole2_L2 bytes (nI k, nI E, nI i, 0, w, nn, wp, np, wx, xx) = LandReader_readWhole2_L2_J111 (nI k) bytes (nI E) (nI j) 0 (nI m) x2 (nI m) mm wx xx := by
          unfold LandReader_readWhole2_L2
          refine (if_pos hk60).trans ((ob_eq hpart).trans ?_)
          exact (if_pos (show (0 : Int32) = 0 from rfl)).trans ((if_pos (show nI k = 0 by rw [hk0]; rfl)).trans ((ob_eq bc1).trans rfl))
        rw [hjj] at hgo
        by_cases h42 : ch bytes E j = 42
        · obtain ⟨num2, many2, nx2, part2, new2, hB2⟩ := hq.2 h42
          rw [if_pos h42] at hgo
          exact Or.inl ⟨_, hgo, j + 1, nI m, x2, _, m, B, num2, many2, nx2, part2, new2, rfl, by omega, by omega, jlt h42, fun _ => ⟨rfl, bc2⟩, hB2⟩
        · rw [if_neg h42] at hgo
          exact Or.inr ⟨_, hgo, Or.inr (Or.inr ⟨j, m, B, x2, _, rfl, by omega, hj2, hm1, hm, sB, bc2, h42, hq.1 h42⟩)⟩
      · obtain ⟨ew, cA⟩ := hw (by omega)
        obtain ⟨hn1, hn2, sA, -⟩ := hB.2.1 (by omega)
        subst ew
        have hkz : ¬ nI k = 0 := ne0N (by omega) hk0
        have hnm2 : n * m ≤ 12 * 12 := Nat.mul_le_mul hn2 hm
        by_cases hnm : n * m ≤ 12
        · obtain ⟨x3, pc1, pc2⟩ := prod_cls hnm hn2 hm sA cA sB cB wx xx
          obtain ⟨x4, bc1, bc2⟩ := become_ok (n := n * m) (nI n) nn pc2
          have hq := t2 (Or.inr hnm)
          rw [if_neg hk0, if_neg hk0] at hq
          have hgo : LandReader_readWhole2_L2 bytes (nI k, nI E, nI i, 0, nI n, nn, wp, np, wx, xx) = LandReader_readWhole2_L2_J111 (nI k) bytes (nI E) (nI j) 0 (nI (n * m)) x4 (nI m) mm (nI (n * m)) x3 := by
            unfold LandReader_readWhole2_L2
            refine (if_pos hk60).trans ((ob_eq hpart).trans ?_)
            refine (if_pos (show (0 : Int32) = 0 from rfl)).trans ((if_neg hkz).trans ((if_pos (show nI n * nI m ≤ 12 from ?_)).trans ((ob_eq pc1).trans ((ob_eq bc1).trans rfl))))
            rw [nI_mulN]; exact (nI_leN (b := 12) (by omega) (by decide)).mpr hnm
          rw [hjj] at hgo
          by_cases h42 : ch bytes E j = 42
          · obtain ⟨num2, many2, nx2, part2, new2, hB2⟩ := hq.2 h42
            rw [if_pos h42] at hgo
            exact Or.inl ⟨_, hgo, j + 1, nI (n * m), x4, _, n * m, adjP m adj B, num2, many2, nx2, part2, new2, rfl, by omega, by omega, jlt h42, fun _ => ⟨rfl, bc2⟩, hB2⟩
          · rw [if_neg h42] at hgo
            exact Or.inr ⟨_, hgo, Or.inr (Or.inr ⟨j, n * m, adjP m adj B, x4, _, rfl, by omega, hj2, Nat.mul_pos (by omega) (by omega), hnm, adjP_sy sA sB, bc2, h42, hq.1 h42⟩)⟩
        · refine Or.inr ⟨.inr (.inl (nI i, nI E, nI j, 0, nI n, nn, nI m, mm, wx, xx)), ?_, Or.inr (Or.inl ⟨i, j, nI n, nn, _, by omega, rfl, hiE, t1 (by omega) hnm⟩)⟩
          unfold LandReader_readWhole2_L2
          refine (if_pos hk60).trans ((ob_eq hpart).trans ?_)
          refine (if_pos (show (0 : Int32) = 0 from rfl)).trans ((if_neg hkz).trans (if_neg (show ¬ nI n * nI m ≤ 12 from ?_)))
          rw [nI_mulN]; exact fun z => hnm ((nI_leN (b := 12) (by omega) (by decide)).mp z)
  · rintro s ⟨i, w, nn, tl, n, adj, num', many', nx', part', new', -, h2, h3, h4, -⟩
    omega
theorem whole2_ok (hT : TX bytes tape E) (hE : E ≤ 60) {i : Nat} (hi : i ≤ E) (w0 : Int32) (nn0 : Nat → Int32) (wp : Int32) (np : Nat → Int32) (wx : Int32) (xx : Nat → Int32) (f num : Int32) (many nx part new : Nat → Int32) (h0 : many 2 = 0) :
    (∃ (q : Nat) (F w' : Int32) (n' : Nat → Int32) (tl : Int32 × (Nat → Int32) × Int32 × (Nat → Int32)), q < 400 ∧ LandReader_readWhole2 bytes (nI E) (nI i) 0 w0 nn0 wp np wx xx = some (0, nI q, F, w', n', tl) ∧ ¬ F = 0 ∧ LoopBad tape E 2 i f num many nx part new F) ∨
    ∃ (j n : Nat) (adj : Nat → Nat → Bool) (nn : Nat → Int32) (tl : Int32 × (Nat → Int32) × Int32 × (Nat → Int32)), i + 2 ≤ j ∧ j ≤ E ∧ 1 ≤ n ∧ n ≤ 12 ∧ Sy adj ∧ CM n adj nn ∧ ¬ ch bytes E j = 42 ∧ LandReader_readWhole2 bytes (nI E) (nI i) 0 w0 nn0 wp np wx xx = some (nI E, nI j, 0, nI n, nn, tl) ∧ WholeTo tape E 2 i j n adj f num many nx part new := by
  obtain ⟨r, h1, h2⟩ := whole2_loop hT hE hi w0 nn0 wp np wx xx f num many nx part new h0
  rcases h2 with ⟨q, F, w, nn, tl, hq, rfl, h3, h4⟩ | ⟨q, p, w, nn, tl, hq, rfl, h3, h4⟩ | ⟨j, n, adj, nn, tl, rfl, h3, h4, h5, h6, h7, h8, h9, h10⟩
  · refine Or.inl ⟨q, F, w, nn, tl, hq, ?_, h3, h4⟩
    unfold LandReader_readWhole2
    exact (ob_eq h1).trans rfl
  · refine Or.inl ⟨p, flt 6 q, w, nn, tl, hq, ?_, flt_ne (by omega) (by omega), h4⟩
    unfold LandReader_readWhole2
    exact (ob_eq h1).trans rfl
  · refine Or.inr ⟨j, n, adj, nn, tl, h3, h4, h5, h6, h7, h8, h9, ?_, h10⟩
    unfold LandReader_readWhole2
    exact (ob_eq h1).trans rfl
theorem part1_ok (hT : TX bytes tape E) (hE : E ≤ 60) {i : Nat} (hi : i ≤ E) (w2 : Int32) (n2 : Nat → Int32) (wp : Int32) (np : Nat → Int32) (wx : Int32) (xx : Nat → Int32) (f num : Int32) (many nx part new : Nat → Int32) :
    (∃ (q : Nat) (F : Int32) (tl : Int32 × (Nat → Int32) × Int32 × (Nat → Int32) × Int32 × (Nat → Int32)), q < 400 ∧ (LandReader_readPart1 bytes (nI E) (nI i) 0 w2 n2 wp np wx xx = some (.inl (0, nI q, F, tl)) ∨ LandReader_readPart1 bytes (nI E) (nI i) 0 w2 n2 wp np wx xx = some (.inr (0, nI q, F, tl))) ∧ ¬ F = 0 ∧ LoopBad tape E 1 i f num many nx part new F) ∨
    ∃ (j m : Nat) (adj : Nat → Nat → Bool) (nn : Nat → Int32), i + 2 ≤ j ∧ j ≤ E ∧ 1 ≤ m ∧ m ≤ 12 ∧ Sy adj ∧ CM m adj nn ∧ ((∃ (tl : Int32 × (Nat → Int32) × Int32 × (Nat → Int32)), LandReader_readPart1 bytes (nI E) (nI i) 0 w2 n2 wp np wx xx = some (.inl (nI E, nI j, 0, nI m, nn, tl))) ∨ LandReader_readPart1 bytes (nI E) (nI i) 0 w2 n2 wp np wx xx = some (.inr (nI E, nI j, 0, w2, n2, nI m, nn, wx, xx))) ∧ PartTo tape E 1 i j m adj f num many nx part new := by
  have hp := peek_eq (bytes := bytes) (show E ≤ 260 by omega) (show i < 2 ^ 31 by omega)
  by_cases hc : ch bytes E i = 40
  · have hsk : Tape_skip (nI i) = some (nI (i + 1)) := by
      unfold Tape_skip; rw [show nI i + 1 = nI (i + 1) from nI_ad i 1]
    have hiE : i < E := by
      rcases ch_cases hT i with z | ⟨z, -⟩
      · rw [z] at hc; exact absurd hc (by decide)
      · exact z
    obtain ⟨q1, q2⟩ := part_in hT (by omega) (i := i) (d := 1) (by omega) (by omega) hc f num many nx part new
    rcases whole2_ok hT hE (i := i + 1) (by omega) w2 n2 wp np wx xx f num (upd many 2 0) nx (upd part 1 (nI i)) new (upd_at _ _ _) with ⟨q, F, w', n', tl, hq, h1, h2, h3⟩ | ⟨j, m, adj, nn, tl, h1, h2, h3, h4, h5, h6, h7, h8, h9⟩
    · -- a fault inside: the closing bracket keeps it
      left
      have htk : Tape_take bytes 0 (nI q) F 41 = some (0, 0, nI q, F) := by
        unfold Tape_take
        rw [ob_eq (peek_dead (show q < 2 ^ 31 by omega)), if_neg (by decide), ob_eq (failN h2 _ _)]
      refine ⟨q, F, (w', n', tl), hq, Or.inl ?_, h2, q1 F h3⟩
      unfold LandReader_readPart1
      refine (ob_eq hp).trans ((if_pos hc).trans ((if_pos (show (1 : Int32) < 2 by decide)).trans ((ob_eq hsk).trans ((ob_eq h1).trans ((ob_eq htk).trans rfl)))))
    · obtain ⟨q3, q4⟩ := q2 j m adj (by omega) h4 h9 h7
      have hpj := peek_eq (bytes := bytes) (show E ≤ 260 by omega) (show j < 2 ^ 31 by omega)
      have hto : ∀ {x : Int32 × Int32 × Int32 × Int32}, Tape_take bytes (nI E) (nI j) 0 41 = some x → LandReader_readPart1 bytes (nI E) (nI i) 0 w2 n2 wp np wx xx = some (.inl (x.2.1, x.2.2.1, x.2.2.2, nI m, nn, tl)) := by
        intro x hx
        unfold LandReader_readPart1
        exact (ob_eq hp).trans ((if_pos hc).trans ((if_pos (show (1 : Int32) < 2 by decide)).trans ((ob_eq hsk).trans ((ob_eq h8).trans ((ob_eq hx).trans rfl)))))
      by_cases h41 : ch bytes E j = 41
      · right
        have htk : Tape_take bytes (nI E) (nI j) 0 41 = some (1, nI E, nI (j + 1), 0) := by
          unfold Tape_take
          rw [ob_eq hpj, if_pos h41, show nI j + 1 = nI (j + 1) from nI_ad j 1]
        have hjE : j < E := by
          rcases ch_cases hT j with z | ⟨z, -⟩
          · rw [z] at h41; exact absurd h41 (by decide)
          · exact z
        exact ⟨j + 1, m, adj, nn, by omega, by omega, h3, h4, h5, h6, Or.inl ⟨tl, hto htk⟩, q4 h41⟩
      · left
        have htk : Tape_take bytes (nI E) (nI j) 0 41 = some (0, 0, nI j, flt 1 j) := by
          unfold Tape_take
          rw [ob_eq hpj, if_neg h41, ob_eq (fail0 _ _ _)]; rfl
        exact ⟨j, flt 1 j, (nI m, nn, tl), by omega, Or.inl (hto htk), flt_ne (by omega) (by omega), q3 h41⟩
  · have hto : ∀ {x : Int32 × Int32 × Int32 × Int32 × (Nat → Int32)}, LandReader_readShape bytes (nI E) (nI i) 0 wp np (ch bytes E i) = some x → LandReader_readPart1 bytes (nI E) (nI i) 0 w2 n2 wp np wx xx = some (.inr (x.1, x.2.1, x.2.2.1, w2, n2, x.2.2.2.1, x.2.2.2.2, wx, xx)) := by
      intro x hx
      unfold LandReader_readPart1
      exact (ob_eq hp).trans ((if_neg hc).trans ((ob_eq hx).trans rfl))
    rcases part_plain hT (by omega) (i := i) (by omega) (d := 1) (by omega) hc wp np f num many nx part new with ⟨q, F, w', n', hq, h1, h2, h3⟩ | ⟨j, m, adj, np', h1, h2, h3, h4, h5, h6, h7, h8⟩
    · exact Or.inl ⟨q, F, _, hq, Or.inr (hto h1), h2, h3⟩
    · exact Or.inr ⟨j, m, adj, np', h1, h2, h3, h4, h5, h6, Or.inr (hto h7), h8⟩
theorem j111_1 (hT : TX bytes tape E) {j k : Nat} (hj : j < 1000) (w : Int32) (nn : Nat → Int32) (w2 : Int32) (n2 : Nat → Int32) (wp : Int32) (np : Nat → Int32) (wx : Int32) (xx : Nat → Int32) :
    LandReader_readWhole1_L2_J111 (nI k) bytes (nI E) (nI j) 0 w nn w2 n2 wp np wx xx = if ch bytes E j = 42 then some (.inl (nI (k + 1), nI E, nI (j + 1), 0, w, nn, w2, n2, wp, np, wx, xx)) else some (.inr (.inr (.inr (.inl (nI E, nI j, 0, w, nn, w2, n2, wp, np, wx, xx))))) := by
  unfold LandReader_readWhole1_L2_J111
  rw [ob_eq (peek_eq (bytes := bytes) hT.1 (show j < 2 ^ 31 by omega))]
  by_cases h : ch bytes E j = 42
  · rw [if_pos h, if_pos h, show nI (k + 1) = nI k + 1 from (nI_ad k 1).symm, show nI (j + 1) = nI j + 1 from (nI_ad j 1).symm]; rfl
  · rw [if_neg h, if_neg h]
def WP1 (tape bytes : Nat → Int32) (E i0 : Nat) (f num : Int32) (many nx part new : Nat → Int32) (r : (Int32 × Int32 × Int32 × Int32 × (Nat → Int32) × Int32 × (Nat → Int32) × Int32 × (Nat → Int32) × Int32 × (Nat → Int32)) ⊕ (Int32 × Int32 × Int32 × Int32 × Int32 × (Nat → Int32) × Int32 × (Nat → Int32) × Int32 × (Nat → Int32) × Int32 × (Nat → Int32)) ⊕ (Int32 × Int32 × Int32 × Int32 × (Nat → Int32) × Int32 × (Nat → Int32) × Int32 × (Nat → Int32) × Int32 × (Nat → Int32)) ⊕ (Int32 × Int32 × Int32 × Int32 × (Nat → Int32) × Int32 × (Nat → Int32) × Int32 × (Nat → Int32) × Int32 × (Nat → Int32))) : Prop :=
  (∃ (q : Nat) (F w : Int32) (nn : Nat → Int32) (tl : Int32 × (Nat → Int32) × Int32 × (Nat → Int32) × Int32 × (Nat → Int32)), q < 400 ∧ r = .inl (0, nI q, F, w, nn, tl) ∧ ¬ F = 0 ∧ LoopBad tape E 1 i0 f num many nx part new F) ∨
  (∃ (i q : Nat) (w : Int32) (nn : Nat → Int32) (tl : Int32 × (Nat → Int32) × Int32 × (Nat → Int32) × Int32 × (Nat → Int32)), q < 400 ∧ r = .inr (.inl (nI i, nI E, nI q, 0, w, nn, tl)) ∧ i ≤ E ∧ LoopBad tape E 1 i0 f num many nx part new (flt 6 i)) ∨
  ∃ (j n : Nat) (adj : Nat → Nat → Bool) (nn : Nat → Int32) (tl : Int32 × (Nat → Int32) × Int32 × (Nat → Int32) × Int32 × (Nat → Int32)), r = .inr (.inr (.inl (nI E, nI j, 0, nI n, nn, tl))) ∧ i0 + 2 ≤ j ∧ j ≤ E ∧ 1 ≤ n ∧ n ≤ 12 ∧ Sy adj ∧ CM n adj nn ∧ ¬ ch bytes E j = 42 ∧ WholeTo tape E 1 i0 j n adj f num many nx part new
theorem whole1_loop (hT : TX bytes tape E) (hE : E ≤ 60) {i0 : Nat} (hi0 : i0 ≤ E) (w0 : Int32) (nn0 : Nat → Int32) (w2 : Int32) (n2 : Nat → Int32) (wp : Int32) (np : Nat → Int32) (wx : Int32) (xx : Nat → Int32) (f num : Int32) (many nx part new : Nat → Int32) (h0 : many 1 = 0) :
    ∃ r, lp (LandReader_readWhole1_L2 bytes) (0, nI E, nI i0, 0, w0, nn0, w2, n2, wp, np, wx, xx) = some r ∧ WP1 tape bytes E i0 f num many nx part new r := by
  refine lp_inv (f := LandReader_readWhole1_L2 bytes) (fun k s => ∃ (i : Nat) (w : Int32) (nn : Nat → Int32) (tl : Int32 × (Nat → Int32) × Int32 × (Nat → Int32) × Int32 × (Nat → Int32)) (n : Nat) (adj : Nat → Nat → Bool) (num' : Int32) (many' nx' part' new' : Nat → Int32), s = (nI k, nI E, nI i, 0, w, nn, tl) ∧ 2 * k ≤ i ∧ i0 ≤ i ∧ i ≤ E ∧ (0 < k → w = nI n ∧ CM n adj nn) ∧ Before tape E 1 i0 f num many nx part new k i n adj num' many' nx' part' new') 60 _ ?_ ?_ 0 _ (Nat.zero_le _) ⟨i0, w0, nn0, (w2, n2, wp, np, wx, xx), 0, fun _ _ => false, num, many, nx, part, new, rfl, by omega, Nat.le_refl _, hi0, fun z => absurd z (Nat.lt_irrefl _), fun _ => h0, fun z => absurd z (Nat.lt_irrefl _), same_refl _ _ _ _, fun _ h => h⟩
  · rintro k s hk ⟨i, w, nn, ⟨w2, n2, wp, np, wx, xx⟩, n, adj, num', many', nx', part', new', rfl, hi2, hi0', hiE, hw, hB⟩
    have hk60 : nI k < 60 := (nI_ltN (b := 60) (by omega) (by decide)).mpr hk
    have bad : ∀ {F}, LoopBad tape E 1 i f num' many' nx' part' new' F → LoopBad tape E 1 i0 f num many nx part new F := fun ⟨r, a, b⟩ => ⟨r, hB.2.2.2 r a, b⟩
    rcases part1_ok hT hE (i := i) (by omega) w2 n2 wp np wx xx f num' many' nx' part' new' with ⟨q, F, tl, hq, g1, g2, g3⟩ | ⟨j, m, B, mm, hj1, hj2, hm1, hm, sB, cB, hpart, hpt⟩
    · refine Or.inr ⟨.inl (0, nI q, F, w, nn, tl), ?_, Or.inl ⟨q, F, w, nn, _, hq, rfl, g2, bad g3⟩⟩
      unfold LandReader_readWhole1_L2
      rcases g1 with g1 | g1
      · exact (if_pos hk60).trans ((ob_eq g1).trans (if_neg g2))
      · exact (if_pos hk60).trans ((ob_eq g1).trans (if_neg g2))
    · have jlt : ch bytes E j = 42 → j + 1 ≤ E := fun h => by
        rcases ch_cases hT j with z | ⟨z, -⟩
        · rw [z] at h; exact absurd h (by decide)
        · exact z
      rcases hpart with ⟨⟨wp', np', wx', xx'⟩, hpart⟩ | hpart
      · obtain ⟨t1, t2⟩ := joined_to hT (show 1 < 3 by omega) hB (show j < 300 by omega) hm1 hm sB hpt
        have hjj := j111_1 hT (j := j) (k := k) (by omega)
        by_cases hk0 : k = 0
        · obtain ⟨x2, bc1, bc2⟩ := become_ok (n := m) w nn cB
          have hq := t2 (Or.inl hk0)
          rw [if_pos hk0, if_pos hk0] at hq
          have hgo : LandReader_readWhole1_L2 bytes (nI k, nI E, nI i, 0, w, nn, w2, n2, wp, np, wx, xx) = LandReader_readWhole1_L2_J111 (nI k) bytes (nI E) (nI j) 0 (nI m) x2 (nI m) mm wp' np' wx' xx' := by
            unfold LandReader_readWhole1_L2
            refine (if_pos hk60).trans ((ob_eq hpart).trans ((sm_inl _ _ _).trans ?_))
            exact (if_pos (show (0 : Int32) = 0 from rfl)).trans ((if_pos (show nI k = 0 by rw [hk0]; rfl)).trans ((ob_eq bc1).trans rfl))
          rw [hjj] at hgo
          by_cases h42 : ch bytes E j = 42
          · obtain ⟨num2, many2, nx2, part2, new2, hB2⟩ := hq.2 h42
            rw [if_pos h42] at hgo
            exact Or.inl ⟨_, hgo, j + 1, nI m, x2, _, m, B, num2, many2, nx2, part2, new2, rfl, by omega, by omega, jlt h42, fun _ => ⟨rfl, bc2⟩, hB2⟩
          · rw [if_neg h42] at hgo
            exact Or.inr ⟨_, hgo, Or.inr (Or.inr ⟨j, m, B, x2, _, rfl, by omega, hj2, hm1, hm, sB, bc2, h42, hq.1 h42⟩)⟩
        · obtain ⟨ew, cA⟩ := hw (by omega)
          obtain ⟨hn1, hn2, sA, -⟩ := hB.2.1 (by omega)
          subst ew
          have hkz : ¬ nI k = 0 := ne0N (by omega) hk0
          have hnm2 : n * m ≤ 12 * 12 := Nat.mul_le_mul hn2 hm
          by_cases hnm : n * m ≤ 12
          · obtain ⟨x3, pc1, pc2⟩ := prod_cls hnm hn2 hm sA cA sB cB wx' xx'
            obtain ⟨x4, bc1, bc2⟩ := become_ok (n := n * m) (nI n) nn pc2
            have hq := t2 (Or.inr hnm)
            rw [if_neg hk0, if_neg hk0] at hq
            have hgo : LandReader_readWhole1_L2 bytes (nI k, nI E, nI i, 0, nI n, nn, w2, n2, wp, np, wx, xx) = LandReader_readWhole1_L2_J111 (nI k) bytes (nI E) (nI j) 0 (nI (n * m)) x4 (nI m) mm wp' np' (nI (n * m)) x3 := by
              unfold LandReader_readWhole1_L2
              refine (if_pos hk60).trans ((ob_eq hpart).trans ((sm_inl _ _ _).trans ?_))
              refine (if_pos (show (0 : Int32) = 0 from rfl)).trans ((if_neg hkz).trans ((if_pos (show nI n * nI m ≤ 12 from ?_)).trans ((ob_eq pc1).trans ((ob_eq bc1).trans rfl))))
              rw [nI_mulN]; exact (nI_leN (b := 12) (by omega) (by decide)).mpr hnm
            rw [hjj] at hgo
            by_cases h42 : ch bytes E j = 42
            · obtain ⟨num2, many2, nx2, part2, new2, hB2⟩ := hq.2 h42
              rw [if_pos h42] at hgo
              exact Or.inl ⟨_, hgo, j + 1, nI (n * m), x4, _, n * m, adjP m adj B, num2, many2, nx2, part2, new2, rfl, by omega, by omega, jlt h42, fun _ => ⟨rfl, bc2⟩, hB2⟩
            · rw [if_neg h42] at hgo
              exact Or.inr ⟨_, hgo, Or.inr (Or.inr ⟨j, n * m, adjP m adj B, x4, _, rfl, by omega, hj2, Nat.mul_pos (by omega) (by omega), hnm, adjP_sy sA sB, bc2, h42, hq.1 h42⟩)⟩
          · refine Or.inr ⟨.inr (.inl (nI i, nI E, nI j, 0, nI n, nn, nI m, mm, wp', np', wx', xx')), ?_, Or.inr (Or.inl ⟨i, j, nI n, nn, _, by omega, rfl, hiE, t1 (by omega) hnm⟩)⟩
            unfold LandReader_readWhole1_L2
            refine (if_pos hk60).trans ((ob_eq hpart).trans ((sm_inl _ _ _).trans ?_))
            refine (if_pos (show (0 : Int32) = 0 from rfl)).trans ((if_neg hkz).trans (if_neg (show ¬ nI n * nI m ≤ 12 from ?_)))
            rw [nI_mulN]; exact fun z => hnm ((nI_leN (b := 12) (by omega) (by decide)).mp z)
      · obtain ⟨t1, t2⟩ := joined_to hT (show 1 < 3 by omega) hB (show j < 300 by omega) hm1 hm sB hpt
        have hjj := j111_1 hT (j := j) (k := k) (by omega)
        by_cases hk0 : k = 0
        · obtain ⟨x2, bc1, bc2⟩ := become_ok (n := m) w nn cB
          have hq := t2 (Or.inl hk0)
          rw [if_pos hk0, if_pos hk0] at hq
          have hgo : LandReader_readWhole1_L2 bytes (nI k, nI E, nI i, 0, w, nn, w2, n2, wp, np, wx, xx) = LandReader_readWhole1_L2_J111 (nI k) bytes (nI E) (nI j) 0 (nI m) x2 w2 n2 (nI m) mm wx xx := by
            unfold LandReader_readWhole1_L2
            refine (if_pos hk60).trans ((ob_eq hpart).trans ((sm_inr _ _ _).trans ?_))
            exact (if_pos (show (0 : Int32) = 0 from rfl)).trans ((if_pos (show nI k = 0 by rw [hk0]; rfl)).trans ((ob_eq bc1).trans rfl))
          rw [hjj] at hgo
          by_cases h42 : ch bytes E j = 42
          · obtain ⟨num2, many2, nx2, part2, new2, hB2⟩ := hq.2 h42
            rw [if_pos h42] at hgo
            exact Or.inl ⟨_, hgo, j + 1, nI m, x2, _, m, B, num2, many2, nx2, part2, new2, rfl, by omega, by omega, jlt h42, fun _ => ⟨rfl, bc2⟩, hB2⟩
          · rw [if_neg h42] at hgo
            exact Or.inr ⟨_, hgo, Or.inr (Or.inr ⟨j, m, B, x2, _, rfl, by omega, hj2, hm1, hm, sB, bc2, h42, hq.1 h42⟩)⟩
        · obtain ⟨ew, cA⟩ := hw (by omega)
          obtain ⟨hn1, hn2, sA, -⟩ := hB.2.1 (by omega)
          subst ew
          have hkz : ¬ nI k = 0 := ne0N (by omega) hk0
          have hnm2 : n * m ≤ 12 * 12 := Nat.mul_le_mul hn2 hm
          by_cases hnm : n * m ≤ 12
          · obtain ⟨x3, pc1, pc2⟩ := prod_cls hnm hn2 hm sA cA sB cB wx xx
            obtain ⟨x4, bc1, bc2⟩ := become_ok (n := n * m) (nI n) nn pc2
            have hq := t2 (Or.inr hnm)
            rw [if_neg hk0, if_neg hk0] at hq
            have hgo : LandReader_readWhole1_L2 bytes (nI k, nI E, nI i, 0, nI n, nn, w2, n2, wp, np, wx, xx) = LandReader_readWhole1_L2_J111 (nI k) bytes (nI E) (nI j) 0 (nI (n * m)) x4 w2 n2 (nI m) mm (nI (n * m)) x3 := by
              unfold LandReader_readWhole1_L2
              refine (if_pos hk60).trans ((ob_eq hpart).trans ((sm_inr _ _ _).trans ?_))
              refine (if_pos (show (0 : Int32) = 0 from rfl)).trans ((if_neg hkz).trans ((if_pos (show nI n * nI m ≤ 12 from ?_)).trans ((ob_eq pc1).trans ((ob_eq bc1).trans rfl))))
              rw [nI_mulN]; exact (nI_leN (b := 12) (by omega) (by decide)).mpr hnm
            rw [hjj] at hgo
            by_cases h42 : ch bytes E j = 42
            · obtain ⟨num2, many2, nx2, part2, new2, hB2⟩ := hq.2 h42
              rw [if_pos h42] at hgo
              exact Or.inl ⟨_, hgo, j + 1, nI (n * m), x4, _, n * m, adjP m adj B, num2, many2, nx2, part2, new2, rfl, by omega, by omega, jlt h42, fun _ => ⟨rfl, bc2⟩, hB2⟩
            · rw [if_neg h42] at hgo
              exact Or.inr ⟨_, hgo, Or.inr (Or.inr ⟨j, n * m, adjP m adj B, x4, _, rfl, by omega, hj2, Nat.mul_pos (by omega) (by omega), hnm, adjP_sy sA sB, bc2, h42, hq.1 h42⟩)⟩
          · refine Or.inr ⟨.inr (.inl (nI i, nI E, nI j, 0, nI n, nn, w2, n2, nI m, mm, wx, xx)), ?_, Or.inr (Or.inl ⟨i, j, nI n, nn, _, by omega, rfl, hiE, t1 (by omega) hnm⟩)⟩
            unfold LandReader_readWhole1_L2
            refine (if_pos hk60).trans ((ob_eq hpart).trans ((sm_inr _ _ _).trans ?_))
            refine (if_pos (show (0 : Int32) = 0 from rfl)).trans ((if_neg hkz).trans (if_neg (show ¬ nI n * nI m ≤ 12 from ?_)))
            rw [nI_mulN]; exact fun z => hnm ((nI_leN (b := 12) (by omega) (by decide)).mp z)
  · rintro s ⟨i, w, nn, tl, n, adj, num', many', nx', part', new', -, h2, h3, h4, -⟩
    omega
theorem whole1_ok (hT : TX bytes tape E) (hE : E ≤ 60) {i : Nat} (hi : i ≤ E) (w0 : Int32) (nn0 : Nat → Int32) (w2 : Int32) (n2 : Nat → Int32) (wp : Int32) (np : Nat → Int32) (wx : Int32) (xx : Nat → Int32) (f num : Int32) (many nx part new : Nat → Int32) (h0 : many 1 = 0) :
    (∃ (q : Nat) (F w' : Int32) (n' : Nat → Int32) (tl : Int32 × (Nat → Int32) × Int32 × (Nat → Int32) × Int32 × (Nat → Int32)), q < 400 ∧ LandReader_readWhole1 bytes (nI E) (nI i) 0 w0 nn0 w2 n2 wp np wx xx = some (0, nI q, F, w', n', tl) ∧ ¬ F = 0 ∧ LoopBad tape E 1 i f num many nx part new F) ∨
    ∃ (j n : Nat) (adj : Nat → Nat → Bool) (nn : Nat → Int32) (tl : Int32 × (Nat → Int32) × Int32 × (Nat → Int32) × Int32 × (Nat → Int32)), i + 2 ≤ j ∧ j ≤ E ∧ 1 ≤ n ∧ n ≤ 12 ∧ Sy adj ∧ CM n adj nn ∧ ¬ ch bytes E j = 42 ∧ LandReader_readWhole1 bytes (nI E) (nI i) 0 w0 nn0 w2 n2 wp np wx xx = some (nI E, nI j, 0, nI n, nn, tl) ∧ WholeTo tape E 1 i j n adj f num many nx part new := by
  obtain ⟨r, h1, h2⟩ := whole1_loop hT hE hi w0 nn0 w2 n2 wp np wx xx f num many nx part new h0
  rcases h2 with ⟨q, F, w, nn, tl, hq, rfl, h3, h4⟩ | ⟨q, p, w, nn, tl, hq, rfl, h3, h4⟩ | ⟨j, n, adj, nn, tl, rfl, h3, h4, h5, h6, h7, h8, h9, h10⟩
  · refine Or.inl ⟨q, F, w, nn, tl, hq, ?_, h3, h4⟩
    unfold LandReader_readWhole1
    exact (ob_eq h1).trans rfl
  · refine Or.inl ⟨p, flt 6 q, w, nn, tl, hq, ?_, flt_ne (by omega) (by omega), h4⟩
    unfold LandReader_readWhole1
    exact (ob_eq h1).trans rfl
  · refine Or.inr ⟨j, n, adj, nn, tl, h3, h4, h5, h6, h7, h8, h9, ?_, h10⟩
    unfold LandReader_readWhole1
    exact (ob_eq h1).trans rfl
theorem part0_ok (hT : TX bytes tape E) (hE : E ≤ 60) {i : Nat} (hi : i ≤ E) (w1 : Int32) (n1 : Nat → Int32) (w2 : Int32) (n2 : Nat → Int32) (wp : Int32) (np : Nat → Int32) (wx : Int32) (xx : Nat → Int32) (f num : Int32) (many nx part new : Nat → Int32) :
    (∃ (q : Nat) (F : Int32) (tl : Int32 × (Nat → Int32) × Int32 × (Nat → Int32) × Int32 × (Nat → Int32) × Int32 × (Nat → Int32)), q < 400 ∧ (LandReader_readPart0 bytes (nI E) (nI i) 0 w1 n1 w2 n2 wp np wx xx = some (.inl (0, nI q, F, tl)) ∨ LandReader_readPart0 bytes (nI E) (nI i) 0 w1 n1 w2 n2 wp np wx xx = some (.inr (0, nI q, F, tl))) ∧ ¬ F = 0 ∧ LoopBad tape E 0 i f num many nx part new F) ∨
    ∃ (j m : Nat) (adj : Nat → Nat → Bool) (nn : Nat → Int32), i + 2 ≤ j ∧ j ≤ E ∧ 1 ≤ m ∧ m ≤ 12 ∧ Sy adj ∧ CM m adj nn ∧ ((∃ (tl : Int32 × (Nat → Int32) × Int32 × (Nat → Int32) × Int32 × (Nat → Int32)), LandReader_readPart0 bytes (nI E) (nI i) 0 w1 n1 w2 n2 wp np wx xx = some (.inl (nI E, nI j, 0, nI m, nn, tl))) ∨ LandReader_readPart0 bytes (nI E) (nI i) 0 w1 n1 w2 n2 wp np wx xx = some (.inr (nI E, nI j, 0, w1, n1, w2, n2, nI m, nn, wx, xx))) ∧ PartTo tape E 0 i j m adj f num many nx part new := by
  have hp := peek_eq (bytes := bytes) (show E ≤ 260 by omega) (show i < 2 ^ 31 by omega)
  by_cases hc : ch bytes E i = 40
  · have hsk : Tape_skip (nI i) = some (nI (i + 1)) := by
      unfold Tape_skip; rw [show nI i + 1 = nI (i + 1) from nI_ad i 1]
    have hiE : i < E := by
      rcases ch_cases hT i with z | ⟨z, -⟩
      · rw [z] at hc; exact absurd hc (by decide)
      · exact z
    obtain ⟨q1, q2⟩ := part_in hT (by omega) (i := i) (d := 0) (by omega) (by omega) hc f num many nx part new
    rcases whole1_ok hT hE (i := i + 1) (by omega) w1 n1 w2 n2 wp np wx xx f num (upd many 1 0) nx (upd part 0 (nI i)) new (upd_at _ _ _) with ⟨q, F, w', n', tl, hq, h1, h2, h3⟩ | ⟨j, m, adj, nn, tl, h1, h2, h3, h4, h5, h6, h7, h8, h9⟩
    · -- a fault inside: the closing bracket keeps it
      left
      have htk : Tape_take bytes 0 (nI q) F 41 = some (0, 0, nI q, F) := by
        unfold Tape_take
        rw [ob_eq (peek_dead (show q < 2 ^ 31 by omega)), if_neg (by decide), ob_eq (failN h2 _ _)]
      refine ⟨q, F, (w', n', tl), hq, Or.inl ?_, h2, q1 F h3⟩
      unfold LandReader_readPart0
      refine (ob_eq hp).trans ((if_pos hc).trans ((if_pos (show (0 : Int32) < 2 by decide)).trans ((ob_eq hsk).trans ((ob_eq h1).trans ((ob_eq htk).trans rfl)))))
    · obtain ⟨q3, q4⟩ := q2 j m adj (by omega) h4 h9 h7
      have hpj := peek_eq (bytes := bytes) (show E ≤ 260 by omega) (show j < 2 ^ 31 by omega)
      have hto : ∀ {x : Int32 × Int32 × Int32 × Int32}, Tape_take bytes (nI E) (nI j) 0 41 = some x → LandReader_readPart0 bytes (nI E) (nI i) 0 w1 n1 w2 n2 wp np wx xx = some (.inl (x.2.1, x.2.2.1, x.2.2.2, nI m, nn, tl)) := by
        intro x hx
        unfold LandReader_readPart0
        exact (ob_eq hp).trans ((if_pos hc).trans ((if_pos (show (0 : Int32) < 2 by decide)).trans ((ob_eq hsk).trans ((ob_eq h8).trans ((ob_eq hx).trans rfl)))))
      by_cases h41 : ch bytes E j = 41
      · right
        have htk : Tape_take bytes (nI E) (nI j) 0 41 = some (1, nI E, nI (j + 1), 0) := by
          unfold Tape_take
          rw [ob_eq hpj, if_pos h41, show nI j + 1 = nI (j + 1) from nI_ad j 1]
        have hjE : j < E := by
          rcases ch_cases hT j with z | ⟨z, -⟩
          · rw [z] at h41; exact absurd h41 (by decide)
          · exact z
        exact ⟨j + 1, m, adj, nn, by omega, by omega, h3, h4, h5, h6, Or.inl ⟨tl, hto htk⟩, q4 h41⟩
      · left
        have htk : Tape_take bytes (nI E) (nI j) 0 41 = some (0, 0, nI j, flt 1 j) := by
          unfold Tape_take
          rw [ob_eq hpj, if_neg h41, ob_eq (fail0 _ _ _)]; rfl
        exact ⟨j, flt 1 j, (nI m, nn, tl), by omega, Or.inl (hto htk), flt_ne (by omega) (by omega), q3 h41⟩
  · have hto : ∀ {x : Int32 × Int32 × Int32 × Int32 × (Nat → Int32)}, LandReader_readShape bytes (nI E) (nI i) 0 wp np (ch bytes E i) = some x → LandReader_readPart0 bytes (nI E) (nI i) 0 w1 n1 w2 n2 wp np wx xx = some (.inr (x.1, x.2.1, x.2.2.1, w1, n1, w2, n2, x.2.2.2.1, x.2.2.2.2, wx, xx)) := by
      intro x hx
      unfold LandReader_readPart0
      exact (ob_eq hp).trans ((if_neg hc).trans ((ob_eq hx).trans rfl))
    rcases part_plain hT (by omega) (i := i) (by omega) (d := 0) (by omega) hc wp np f num many nx part new with ⟨q, F, w', n', hq, h1, h2, h3⟩ | ⟨j, m, adj, np', h1, h2, h3, h4, h5, h6, h7, h8⟩
    · exact Or.inl ⟨q, F, _, hq, Or.inr (hto h1), h2, h3⟩
    · exact Or.inr ⟨j, m, adj, np', h1, h2, h3, h4, h5, h6, Or.inr (hto h7), h8⟩
theorem j111_0 (hT : TX bytes tape E) {j k : Nat} (hj : j < 1000) (w : Int32) (nn : Nat → Int32) (w1 : Int32) (n1 : Nat → Int32) (w2 : Int32) (n2 : Nat → Int32) (wp : Int32) (np : Nat → Int32) (wx : Int32) (xx : Nat → Int32) :
    LandReader_readWhole0_L2_J111 (nI k) bytes (nI E) (nI j) 0 w nn w1 n1 w2 n2 wp np wx xx = if ch bytes E j = 42 then some (.inl (nI (k + 1), nI E, nI (j + 1), 0, w, nn, w1, n1, w2, n2, wp, np, wx, xx)) else some (.inr (.inr (.inr (.inl (nI E, nI j, 0, w, nn, w1, n1, w2, n2, wp, np, wx, xx))))) := by
  unfold LandReader_readWhole0_L2_J111
  rw [ob_eq (peek_eq (bytes := bytes) hT.1 (show j < 2 ^ 31 by omega))]
  by_cases h : ch bytes E j = 42
  · rw [if_pos h, if_pos h, show nI (k + 1) = nI k + 1 from (nI_ad k 1).symm, show nI (j + 1) = nI j + 1 from (nI_ad j 1).symm]; rfl
  · rw [if_neg h, if_neg h]
def WP0 (tape bytes : Nat → Int32) (E i0 : Nat) (f num : Int32) (many nx part new : Nat → Int32) (r : (Int32 × Int32 × Int32 × Int32 × (Nat → Int32) × Int32 × (Nat → Int32) × Int32 × (Nat → Int32) × Int32 × (Nat → Int32) × Int32 × (Nat → Int32)) ⊕ (Int32 × Int32 × Int32 × Int32 × Int32 × (Nat → Int32) × Int32 × (Nat → Int32) × Int32 × (Nat → Int32) × Int32 × (Nat → Int32) × Int32 × (Nat → Int32)) ⊕ (Int32 × Int32 × Int32 × Int32 × (Nat → Int32) × Int32 × (Nat → Int32) × Int32 × (Nat → Int32) × Int32 × (Nat → Int32) × Int32 × (Nat → Int32)) ⊕ (Int32 × Int32 × Int32 × Int32 × (Nat → Int32) × Int32 × (Nat → Int32) × Int32 × (Nat → Int32) × Int32 × (Nat → Int32) × Int32 × (Nat → Int32))) : Prop :=
  (∃ (q : Nat) (F w : Int32) (nn : Nat → Int32) (tl : Int32 × (Nat → Int32) × Int32 × (Nat → Int32) × Int32 × (Nat → Int32) × Int32 × (Nat → Int32)), q < 400 ∧ r = .inl (0, nI q, F, w, nn, tl) ∧ ¬ F = 0 ∧ LoopBad tape E 0 i0 f num many nx part new F) ∨
  (∃ (i q : Nat) (w : Int32) (nn : Nat → Int32) (tl : Int32 × (Nat → Int32) × Int32 × (Nat → Int32) × Int32 × (Nat → Int32) × Int32 × (Nat → Int32)), q < 400 ∧ r = .inr (.inl (nI i, nI E, nI q, 0, w, nn, tl)) ∧ i ≤ E ∧ LoopBad tape E 0 i0 f num many nx part new (flt 6 i)) ∨
  ∃ (j n : Nat) (adj : Nat → Nat → Bool) (nn : Nat → Int32) (tl : Int32 × (Nat → Int32) × Int32 × (Nat → Int32) × Int32 × (Nat → Int32) × Int32 × (Nat → Int32)), r = .inr (.inr (.inl (nI E, nI j, 0, nI n, nn, tl))) ∧ i0 + 2 ≤ j ∧ j ≤ E ∧ 1 ≤ n ∧ n ≤ 12 ∧ Sy adj ∧ CM n adj nn ∧ ¬ ch bytes E j = 42 ∧ WholeTo tape E 0 i0 j n adj f num many nx part new
theorem whole0_loop (hT : TX bytes tape E) (hE : E ≤ 60) {i0 : Nat} (hi0 : i0 ≤ E) (w0 : Int32) (nn0 : Nat → Int32) (w1 : Int32) (n1 : Nat → Int32) (w2 : Int32) (n2 : Nat → Int32) (wp : Int32) (np : Nat → Int32) (wx : Int32) (xx : Nat → Int32) (f num : Int32) (many nx part new : Nat → Int32) (h0 : many 0 = 0) :
    ∃ r, lp (LandReader_readWhole0_L2 bytes) (0, nI E, nI i0, 0, w0, nn0, w1, n1, w2, n2, wp, np, wx, xx) = some r ∧ WP0 tape bytes E i0 f num many nx part new r := by
  refine lp_inv (f := LandReader_readWhole0_L2 bytes) (fun k s => ∃ (i : Nat) (w : Int32) (nn : Nat → Int32) (tl : Int32 × (Nat → Int32) × Int32 × (Nat → Int32) × Int32 × (Nat → Int32) × Int32 × (Nat → Int32)) (n : Nat) (adj : Nat → Nat → Bool) (num' : Int32) (many' nx' part' new' : Nat → Int32), s = (nI k, nI E, nI i, 0, w, nn, tl) ∧ 2 * k ≤ i ∧ i0 ≤ i ∧ i ≤ E ∧ (0 < k → w = nI n ∧ CM n adj nn) ∧ Before tape E 0 i0 f num many nx part new k i n adj num' many' nx' part' new') 60 _ ?_ ?_ 0 _ (Nat.zero_le _) ⟨i0, w0, nn0, (w1, n1, w2, n2, wp, np, wx, xx), 0, fun _ _ => false, num, many, nx, part, new, rfl, by omega, Nat.le_refl _, hi0, fun z => absurd z (Nat.lt_irrefl _), fun _ => h0, fun z => absurd z (Nat.lt_irrefl _), same_refl _ _ _ _, fun _ h => h⟩
  · rintro k s hk ⟨i, w, nn, ⟨w1, n1, w2, n2, wp, np, wx, xx⟩, n, adj, num', many', nx', part', new', rfl, hi2, hi0', hiE, hw, hB⟩
    have hk60 : nI k < 60 := (nI_ltN (b := 60) (by omega) (by decide)).mpr hk
    have bad : ∀ {F}, LoopBad tape E 0 i f num' many' nx' part' new' F → LoopBad tape E 0 i0 f num many nx part new F := fun ⟨r, a, b⟩ => ⟨r, hB.2.2.2 r a, b⟩
    rcases part0_ok hT hE (i := i) (by omega) w1 n1 w2 n2 wp np wx xx f num' many' nx' part' new' with ⟨q, F, tl, hq, g1, g2, g3⟩ | ⟨j, m, B, mm, hj1, hj2, hm1, hm, sB, cB, hpart, hpt⟩
    · refine Or.inr ⟨.inl (0, nI q, F, w, nn, tl), ?_, Or.inl ⟨q, F, w, nn, _, hq, rfl, g2, bad g3⟩⟩
      unfold LandReader_readWhole0_L2
      rcases g1 with g1 | g1
      · exact (if_pos hk60).trans ((ob_eq g1).trans (if_neg g2))
      · exact (if_pos hk60).trans ((ob_eq g1).trans (if_neg g2))
    · have jlt : ch bytes E j = 42 → j + 1 ≤ E := fun h => by
        rcases ch_cases hT j with z | ⟨z, -⟩
        · rw [z] at h; exact absurd h (by decide)
        · exact z
      rcases hpart with ⟨⟨w2', n2', wp', np', wx', xx'⟩, hpart⟩ | hpart
      · obtain ⟨t1, t2⟩ := joined_to hT (show 0 < 3 by omega) hB (show j < 300 by omega) hm1 hm sB hpt
        have hjj := j111_0 hT (j := j) (k := k) (by omega)
        by_cases hk0 : k = 0
        · obtain ⟨x2, bc1, bc2⟩ := become_ok (n := m) w nn cB
          have hq := t2 (Or.inl hk0)
          rw [if_pos hk0, if_pos hk0] at hq
          have hgo : LandReader_readWhole0_L2 bytes (nI k, nI E, nI i, 0, w, nn, w1, n1, w2, n2, wp, np, wx, xx) = LandReader_readWhole0_L2_J111 (nI k) bytes (nI E) (nI j) 0 (nI m) x2 (nI m) mm w2' n2' wp' np' wx' xx' := by
            unfold LandReader_readWhole0_L2
            refine (if_pos hk60).trans ((ob_eq hpart).trans ((sm_inl _ _ _).trans ?_))
            exact (if_pos (show (0 : Int32) = 0 from rfl)).trans ((if_pos (show nI k = 0 by rw [hk0]; rfl)).trans ((ob_eq bc1).trans rfl))
          rw [hjj] at hgo
          by_cases h42 : ch bytes E j = 42
          · obtain ⟨num2, many2, nx2, part2, new2, hB2⟩ := hq.2 h42
            rw [if_pos h42] at hgo
            exact Or.inl ⟨_, hgo, j + 1, nI m, x2, _, m, B, num2, many2, nx2, part2, new2, rfl, by omega, by omega, jlt h42, fun _ => ⟨rfl, bc2⟩, hB2⟩
          · rw [if_neg h42] at hgo
            exact Or.inr ⟨_, hgo, Or.inr (Or.inr ⟨j, m, B, x2, _, rfl, by omega, hj2, hm1, hm, sB, bc2, h42, hq.1 h42⟩)⟩
        · obtain ⟨ew, cA⟩ := hw (by omega)
          obtain ⟨hn1, hn2, sA, -⟩ := hB.2.1 (by omega)
          subst ew
          have hkz : ¬ nI k = 0 := ne0N (by omega) hk0
          have hnm2 : n * m ≤ 12 * 12 := Nat.mul_le_mul hn2 hm
          by_cases hnm : n * m ≤ 12
          · obtain ⟨x3, pc1, pc2⟩ := prod_cls hnm hn2 hm sA cA sB cB wx' xx'
            obtain ⟨x4, bc1, bc2⟩ := become_ok (n := n * m) (nI n) nn pc2
            have hq := t2 (Or.inr hnm)
            rw [if_neg hk0, if_neg hk0] at hq
            have hgo : LandReader_readWhole0_L2 bytes (nI k, nI E, nI i, 0, nI n, nn, w1, n1, w2, n2, wp, np, wx, xx) = LandReader_readWhole0_L2_J111 (nI k) bytes (nI E) (nI j) 0 (nI (n * m)) x4 (nI m) mm w2' n2' wp' np' (nI (n * m)) x3 := by
              unfold LandReader_readWhole0_L2
              refine (if_pos hk60).trans ((ob_eq hpart).trans ((sm_inl _ _ _).trans ?_))
              refine (if_pos (show (0 : Int32) = 0 from rfl)).trans ((if_neg hkz).trans ((if_pos (show nI n * nI m ≤ 12 from ?_)).trans ((ob_eq pc1).trans ((ob_eq bc1).trans rfl))))
              rw [nI_mulN]; exact (nI_leN (b := 12) (by omega) (by decide)).mpr hnm
            rw [hjj] at hgo
            by_cases h42 : ch bytes E j = 42
            · obtain ⟨num2, many2, nx2, part2, new2, hB2⟩ := hq.2 h42
              rw [if_pos h42] at hgo
              exact Or.inl ⟨_, hgo, j + 1, nI (n * m), x4, _, n * m, adjP m adj B, num2, many2, nx2, part2, new2, rfl, by omega, by omega, jlt h42, fun _ => ⟨rfl, bc2⟩, hB2⟩
            · rw [if_neg h42] at hgo
              exact Or.inr ⟨_, hgo, Or.inr (Or.inr ⟨j, n * m, adjP m adj B, x4, _, rfl, by omega, hj2, Nat.mul_pos (by omega) (by omega), hnm, adjP_sy sA sB, bc2, h42, hq.1 h42⟩)⟩
          · refine Or.inr ⟨.inr (.inl (nI i, nI E, nI j, 0, nI n, nn, nI m, mm, w2', n2', wp', np', wx', xx')), ?_, Or.inr (Or.inl ⟨i, j, nI n, nn, _, by omega, rfl, hiE, t1 (by omega) hnm⟩)⟩
            unfold LandReader_readWhole0_L2
            refine (if_pos hk60).trans ((ob_eq hpart).trans ((sm_inl _ _ _).trans ?_))
            refine (if_pos (show (0 : Int32) = 0 from rfl)).trans ((if_neg hkz).trans (if_neg (show ¬ nI n * nI m ≤ 12 from ?_)))
            rw [nI_mulN]; exact fun z => hnm ((nI_leN (b := 12) (by omega) (by decide)).mp z)
      · obtain ⟨t1, t2⟩ := joined_to hT (show 0 < 3 by omega) hB (show j < 300 by omega) hm1 hm sB hpt
        have hjj := j111_0 hT (j := j) (k := k) (by omega)
        by_cases hk0 : k = 0
        · obtain ⟨x2, bc1, bc2⟩ := become_ok (n := m) w nn cB
          have hq := t2 (Or.inl hk0)
          rw [if_pos hk0, if_pos hk0] at hq
          have hgo : LandReader_readWhole0_L2 bytes (nI k, nI E, nI i, 0, w, nn, w1, n1, w2, n2, wp, np, wx, xx) = LandReader_readWhole0_L2_J111 (nI k) bytes (nI E) (nI j) 0 (nI m) x2 w1 n1 w2 n2 (nI m) mm wx xx := by
            unfold LandReader_readWhole0_L2
            refine (if_pos hk60).trans ((ob_eq hpart).trans ((sm_inr _ _ _).trans ?_))
            exact (if_pos (show (0 : Int32) = 0 from rfl)).trans ((if_pos (show nI k = 0 by rw [hk0]; rfl)).trans ((ob_eq bc1).trans rfl))
          rw [hjj] at hgo
          by_cases h42 : ch bytes E j = 42
          · obtain ⟨num2, many2, nx2, part2, new2, hB2⟩ := hq.2 h42
            rw [if_pos h42] at hgo
            exact Or.inl ⟨_, hgo, j + 1, nI m, x2, _, m, B, num2, many2, nx2, part2, new2, rfl, by omega, by omega, jlt h42, fun _ => ⟨rfl, bc2⟩, hB2⟩
          · rw [if_neg h42] at hgo
            exact Or.inr ⟨_, hgo, Or.inr (Or.inr ⟨j, m, B, x2, _, rfl, by omega, hj2, hm1, hm, sB, bc2, h42, hq.1 h42⟩)⟩
        · obtain ⟨ew, cA⟩ := hw (by omega)
          obtain ⟨hn1, hn2, sA, -⟩ := hB.2.1 (by omega)
          subst ew
          have hkz : ¬ nI k = 0 := ne0N (by omega) hk0
          have hnm2 : n * m ≤ 12 * 12 := Nat.mul_le_mul hn2 hm
          by_cases hnm : n * m ≤ 12
          · obtain ⟨x3, pc1, pc2⟩ := prod_cls hnm hn2 hm sA cA sB cB wx xx
            obtain ⟨x4, bc1, bc2⟩ := become_ok (n := n * m) (nI n) nn pc2
            have hq := t2 (Or.inr hnm)
            rw [if_neg hk0, if_neg hk0] at hq
            have hgo : LandReader_readWhole0_L2 bytes (nI k, nI E, nI i, 0, nI n, nn, w1, n1, w2, n2, wp, np, wx, xx) = LandReader_readWhole0_L2_J111 (nI k) bytes (nI E) (nI j) 0 (nI (n * m)) x4 w1 n1 w2 n2 (nI m) mm (nI (n * m)) x3 := by
              unfold LandReader_readWhole0_L2
              refine (if_pos hk60).trans ((ob_eq hpart).trans ((sm_inr _ _ _).trans ?_))
              refine (if_pos (show (0 : Int32) = 0 from rfl)).trans ((if_neg hkz).trans ((if_pos (show nI n * nI m ≤ 12 from ?_)).trans ((ob_eq pc1).trans ((ob_eq bc1).trans rfl))))
              rw [nI_mulN]; exact (nI_leN (b := 12) (by omega) (by decide)).mpr hnm
            rw [hjj] at hgo
            by_cases h42 : ch bytes E j = 42
            · obtain ⟨num2, many2, nx2, part2, new2, hB2⟩ := hq.2 h42
              rw [if_pos h42] at hgo
              exact Or.inl ⟨_, hgo, j + 1, nI (n * m), x4, _, n * m, adjP m adj B, num2, many2, nx2, part2, new2, rfl, by omega, by omega, jlt h42, fun _ => ⟨rfl, bc2⟩, hB2⟩
            · rw [if_neg h42] at hgo
              exact Or.inr ⟨_, hgo, Or.inr (Or.inr ⟨j, n * m, adjP m adj B, x4, _, rfl, by omega, hj2, Nat.mul_pos (by omega) (by omega), hnm, adjP_sy sA sB, bc2, h42, hq.1 h42⟩)⟩
          · refine Or.inr ⟨.inr (.inl (nI i, nI E, nI j, 0, nI n, nn, w1, n1, w2, n2, nI m, mm, wx, xx)), ?_, Or.inr (Or.inl ⟨i, j, nI n, nn, _, by omega, rfl, hiE, t1 (by omega) hnm⟩)⟩
            unfold LandReader_readWhole0_L2
            refine (if_pos hk60).trans ((ob_eq hpart).trans ((sm_inr _ _ _).trans ?_))
            refine (if_pos (show (0 : Int32) = 0 from rfl)).trans ((if_neg hkz).trans (if_neg (show ¬ nI n * nI m ≤ 12 from ?_)))
            rw [nI_mulN]; exact fun z => hnm ((nI_leN (b := 12) (by omega) (by decide)).mp z)
  · rintro s ⟨i, w, nn, tl, n, adj, num', many', nx', part', new', -, h2, h3, h4, -⟩
    omega
theorem whole0_ok (hT : TX bytes tape E) (hE : E ≤ 60) {i : Nat} (hi : i ≤ E) (w0 : Int32) (nn0 : Nat → Int32) (w1 : Int32) (n1 : Nat → Int32) (w2 : Int32) (n2 : Nat → Int32) (wp : Int32) (np : Nat → Int32) (wx : Int32) (xx : Nat → Int32) (f num : Int32) (many nx part new : Nat → Int32) (h0 : many 0 = 0) :
    (∃ (q : Nat) (F w' : Int32) (n' : Nat → Int32) (tl : Int32 × (Nat → Int32) × Int32 × (Nat → Int32) × Int32 × (Nat → Int32) × Int32 × (Nat → Int32)), q < 400 ∧ LandReader_readWhole0 bytes (nI E) (nI i) 0 w0 nn0 w1 n1 w2 n2 wp np wx xx = some (0, nI q, F, w', n', tl) ∧ ¬ F = 0 ∧ LoopBad tape E 0 i f num many nx part new F) ∨
    ∃ (j n : Nat) (adj : Nat → Nat → Bool) (nn : Nat → Int32) (tl : Int32 × (Nat → Int32) × Int32 × (Nat → Int32) × Int32 × (Nat → Int32) × Int32 × (Nat → Int32)), i + 2 ≤ j ∧ j ≤ E ∧ 1 ≤ n ∧ n ≤ 12 ∧ Sy adj ∧ CM n adj nn ∧ ¬ ch bytes E j = 42 ∧ LandReader_readWhole0 bytes (nI E) (nI i) 0 w0 nn0 w1 n1 w2 n2 wp np wx xx = some (nI E, nI j, 0, nI n, nn, tl) ∧ WholeTo tape E 0 i j n adj f num many nx part new := by
  obtain ⟨r, h1, h2⟩ := whole0_loop hT hE hi w0 nn0 w1 n1 w2 n2 wp np wx xx f num many nx part new h0
  rcases h2 with ⟨q, F, w, nn, tl, hq, rfl, h3, h4⟩ | ⟨q, p, w, nn, tl, hq, rfl, h3, h4⟩ | ⟨j, n, adj, nn, tl, rfl, h3, h4, h5, h6, h7, h8, h9, h10⟩
  · refine Or.inl ⟨q, F, w, nn, tl, hq, ?_, h3, h4⟩
    unfold LandReader_readWhole0
    exact (ob_eq h1).trans rfl
  · refine Or.inl ⟨p, flt 6 q, w, nn, tl, hq, ?_, flt_ne (by omega) (by omega), h4⟩
    unfold LandReader_readWhole0
    exact (ob_eq h1).trans rfl
  · refine Or.inr ⟨j, n, adj, nn, tl, h3, h4, h5, h6, h7, h8, h9, ?_, h10⟩
    unfold LandReader_readWhole0
    exact (ob_eq h1).trans rfl
end LV
