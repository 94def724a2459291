/-! AT ONCE; PAPERS -/
theorem Mo_max_jmax (x y : Int32) : Mo_max x y = some (jmax x y) := by
  unfold Mo_max jmax
  by_cases h : x < y
  · rw [if_pos h, if_pos (Int32.le_of_lt h)]
  · rw [if_neg h]
    by_cases h2 : x ≤ y
    · rw [if_pos h2]
      have : x = y := Int32.le_antisymm h2 (Int32.not_lt.mp h)
      rw [this]
    · rw [if_neg h2]
theorem Mo_min_jmin (x y : Int32) : Mo_min x y = some (jmin x y) := by
  unfold Mo_min jmin
  by_cases h : x < y
  · rw [if_pos h, if_neg (Int32.not_lt.mpr (Int32.le_of_lt h))]
  · rw [if_neg h]
    by_cases h2 : y < x
    · rw [if_pos h2]
    · rw [if_neg h2]
      have : x = y := Int32.le_antisymm (Int32.not_lt.mp h2) (Int32.not_lt.mp h)
      rw [this]
theorem not_self {n : Nat} (h : n < 2 ^ 31) : ¬ nI n < nI n := fun z => absurd ((nI_ltN h h).mp z) (by omega)
theorem atOnce_ok {n : Nat} {nx : Nat → Nat} (hg : GoodG n nx) {nextTo ways : Nat → Int32} (hx : ∀ w, w < 12 → nextTo w = nI (nx w)) (hw : RW n nx ways) (f0 l0 : Nat → Int32) :
    ∃ r f' l', Dj_atOnce (nI n) ways = some r ∧ Mo_atOnce nextTo (nI n) f0 l0 = some (r, f', l') := by
  have n12 := hg.1
  unfold Dj_atOnce Mo_atOnce
  by_cases h0 : nI n = 0
  · rw [if_pos h0, if_pos h0]; exact ⟨_, _, _, rfl, rfl⟩
  rw [if_neg h0, if_neg h0]
  obtain ⟨r, e1, w1⟩ := widest_ok hg hw
  obtain ⟨r', f', l', e2, w2, hw2⟩ := mostSteps_ok hg hx f0 l0
  have e3 := Wid_same w1 w2
  subst e3
  rw [ob_eq e1, ob_eq e2]
  rcases w1 with ⟨rfl, -⟩ | ⟨m, rfl, -, -, hm⟩
  · rw [if_pos (by decide)]
    exact ⟨_, f', l', rfl, if_pos rfl⟩
  · rw [if_neg (nI_pos (by omega))]
    have hne : ¬ nI m = -2 := nI_ne_m2 (by omega)
    obtain ⟨r, r', h1, h2, h3⟩ := lp_sim (f := Dj_atOnce_L30 (nI n) ways) (g := Mo_atOnce_L26 (nI n) f') (fun k s t => s = t ∧ s.2 = nI k) n (fun r r' => r = r')
      (by
        rintro p ⟨s1, s2⟩ t hp ⟨rfl, hs⟩
        have hs : s2 = nI p := hs
        subst hs
        left
        obtain ⟨x, x', g1, g2, g3⟩ := lp_sim (f := Dj_atOnce_L46 s1 (nI p) (nI n) ways) (g := Mo_atOnce_L39 s1 (nI p) (nI n) f') (fun k s t => s = t ∧ s.2 = nI k) n (fun r r' => r = r')
          (by
            rintro q ⟨u1, u2⟩ t hq ⟨rfl, hs⟩
            have hs : u2 = nI q := hs
            subst hs
            left
            have hqn := (nI_ltN (show q < 2 ^ 31 by omega) (show n < 2 ^ 31 by omega)).mpr hq
            refine ⟨(u1 + ((1 : Int32) <<< (dI n nx p q &&& 31)), nI (q + 1)), _, ?_, ?_, rfl, rfl⟩
            · unfold Dj_atOnce_L46
              show (if nI q < nI n then (ob (Land_way (nI n) ways (nI p) (nI q)) _) else _) = _
              rw [if_pos hqn, ob_eq (way_in n12 hp hq), hw p q hp hq]
              show some (Sum.inl (_, nI q + nI 1)) = _
              rw [nI_ad]
            · unfold Mo_atOnce_L39
              show (if nI q < nI n then (ob (Mo_far f' (nI p) (nI q)) _) else _) = _
              rw [if_pos hqn, ob_eq (far_in (by omega) (by omega)), hw2 p q hp hq]
              show some (Sum.inl (_, nI q + nI 1)) = _
              rw [nI_ad])
          (by
            rintro ⟨u1, u2⟩ t ⟨rfl, hs⟩
            have hs : u2 = nI n := hs
            subst hs
            exact ⟨u1, u1, if_neg (not_self (by omega)), if_neg (not_self (by omega)), rfl⟩)
          0 (0, 0) (0, 0) (by omega) ⟨rfl, rfl⟩
        subst g3
        have hpn := (nI_ltN (show p < 2 ^ 31 by omega) (show n < 2 ^ 31 by omega)).mpr hp
        refine ⟨(jmax s1 x, nI (p + 1)), _, ?_, ?_, rfl, rfl⟩
        · unfold Dj_atOnce_L30
          show (if nI p < nI n then (ob (lp (Dj_atOnce_L46 s1 (nI p) (nI n) ways) (0, 0)) _) else _) = _
          rw [if_pos hpn, ob_eq g1]
          show some (Sum.inl (_, nI p + nI 1)) = _
          rw [nI_ad]
        · unfold Mo_atOnce_L26
          show (if nI p < nI n then (ob (lp (Mo_atOnce_L39 s1 (nI p) (nI n) f') (0, 0)) _) else _) = _
          rw [if_pos hpn, ob_eq g2, ob_eq (Mo_max_jmax s1 x)]
          show some (Sum.inl (_, nI p + nI 1)) = _
          rw [nI_ad])
      (by
        rintro ⟨u1, u2⟩ t ⟨rfl, hs⟩
        have hs : u2 = nI n := hs
        subst hs
        exact ⟨u1, u1, if_neg (not_self (by omega)), if_neg (not_self (by omega)), rfl⟩)
      0 (0, 0) (0, 0) (by omega) ⟨rfl, rfl⟩
    subst h3
    refine ⟨r, f', l', (ob_eq h1).trans rfl, ?_⟩
    refine (if_neg hne).trans ?_
    exact (ob_eq h2).trans rfl
/-- weights and parents on paper j -/
theorem wOn {bytes tape : Nat → Int32} {k E n j w : Nat} (hk : k ≤ 260) (hb : ∀ i, i < k → bytes i = tape i &&& 255) (hE : E ≤ k) (h : 2 * (j * n + w) + 1 < E) :
    Dj_weightOnPaper bytes (nI E) (nI n) (nI j) (nI w) = some (bytes (2 * (j * n + w) + 1)) ∧ Mo_weightIn tape (nI (2 * (j * n))) (nI w) = some (bytes (2 * (j * n + w) + 1)) := by
  constructor
  · unfold Dj_weightOnPaper
    have e : (2 * ((nI j * nI n) + nI w)) + 1 = nI (2 * (j * n + w) + 1) := by
      rw [nI_mulN, nI_ad, show (2 : Int32) * nI (j * n + w) = nI (2 * (j * n + w)) from nI_mulN 2 _]
      exact nI_ad _ 1
    rw [e, ob_eq (byteAt_in h (by omega))]
  · unfold Mo_weightIn
    have e : (nI (2 * (j * n)) + 2 * nI w) + 1 = nI (2 * (j * n + w) + 1) := by
      rw [show (2 : Int32) * nI w = nI (2 * w) from nI_mulN 2 w, nI_ad, ← Nat.mul_add]
      exact nI_ad _ 1
    rw [e, ob_eq (octet_in (by omega)), hb _ (by omega)]
theorem pOn {bytes tape : Nat → Int32} {k E n j w : Nat} (hk : k ≤ 260) (hb : ∀ i, i < k → bytes i = tape i &&& 255) (hE : E ≤ k) (h : 2 * (j * n + w) < E) :
    Dj_parentOnPaper bytes (nI E) (nI n) (nI j) (nI w) = some (bytes (2 * (j * n + w))) ∧ Mo_octet tape (nI (2 * (j * n)) + 2 * nI w) = some (bytes (2 * (j * n + w))) := by
  constructor
  · unfold Dj_parentOnPaper
    have e : (2 * ((nI j * nI n) + nI w)) = nI (2 * (j * n + w)) := by
      rw [nI_mulN, nI_ad, show (2 : Int32) * nI (j * n + w) = nI (2 * (j * n + w)) from nI_mulN 2 _]
    rw [e, ob_eq (byteAt_in h (by omega))]
  · have e : (nI (2 * (j * n)) + 2 * nI w) = nI (2 * (j * n + w)) := by
      rw [show (2 : Int32) * nI w = nI (2 * w) from nI_mulN 2 w, nI_ad, ← Nat.mul_add]
    rw [e, octet_in (by omega), hb _ (by omega)]
theorem wrong_ok {n : Nat} {nx : Nat → Nat} (hg : GoodG n nx) {next nextTo : Nat → Int32} (hx : ∀ w, w < 12 → nextTo w = nI (nx w)) (hx2 : ∀ w, w < 12 → next w = nI (nx w)) {bytes tape : Nat → Int32} {k E j : Nat} (hk : k ≤ 260) (hb : ∀ i, i < k → bytes i = tape i &&& 255) (hE : E ≤ k) (h : 2 * (j * n + n) ≤ E) (a : Int32) :
    ∃ r, Dj_wrongOnPaper bytes (nI E) (nI n) next (nI j) a = some r ∧ Mo_wrongIn nextTo (nI n) tape (nI (2 * (j * n))) a = some r ∧ (r = -1 ∨ ∃ w, w < n ∧ r = nI w) := by
  have n12 := hg.1
  have h2n : (2 : Nat) ^ n ≤ 2 ^ 12 := Nat.pow_le_pow_right (by decide) n12
  unfold Dj_wrongOnPaper Mo_wrongIn
  obtain ⟨r, r', h1, h2, h3, h4⟩ := lp_sim (f := Dj_wrongOnPaper_L2 (nI j) a bytes (nI E) (nI n) next) (g := Mo_wrongIn_L2 (nI (2 * (j * n))) a nextTo (nI n) tape) (fun i s t => s = nI i ∧ t = nI i) n
    (fun r r' => r = r' ∧ ((∃ w, w < n ∧ r = .inl (nI w)) ∨ (∃ w, w < n ∧ r = .inr (.inl (nI w))) ∨ r = .inr (.inr ())))
    (by
      rintro w s t hw ⟨rfl, rfl⟩
      obtain ⟨a1, a2⟩ := wOn (n := n) (j := j) (w := w) hk hb hE (by omega)
      obtain ⟨b1, b2⟩ := pOn (n := n) (j := j) (w := w) hk hb hE (by omega)
      have hwn := (nI_ltN (show w < 2 ^ 31 by omega) (show n < 2 ^ 31 by omega)).mpr hw
      have hgo : Dj_wrongOnPaper_L2_J91 (nI j) a (nI w) bytes (nI E) (nI n) next = some (.inl (nI (w + 1))) := by
        unfold Dj_wrongOnPaper_L2_J91
        show some (Sum.inl (nI w + nI 1)) = _
        rw [nI_ad]
      have hgo2 : Mo_wrongIn_L2_J89 (nI (2 * (j * n))) a (nI w) nextTo (nI n) tape = some (.inl (nI (w + 1))) := by
        unfold Mo_wrongIn_L2_J89
        show some (Sum.inl (nI w + nI 1)) = _
        rw [nI_ad]
      unfold Dj_wrongOnPaper_L2 Mo_wrongIn_L2
      rw [if_pos hwn, if_pos hwn, ob_eq a1]
      by_cases c1 : nI w = a
      · rw [if_pos c1, if_pos c1, hgo, hgo2]
        exact Or.inl ⟨_, _, rfl, rfl, rfl, rfl⟩
      rw [if_neg c1, if_neg c1, ob_eq a2]
      by_cases c2 : bytes (2 * (j * n + w) + 1) = 0
      · rw [if_pos c2, if_pos c2, hgo, hgo2]
        exact Or.inl ⟨_, _, rfl, rfl, rfl, rfl⟩
      rw [if_neg c2, if_neg c2, ob_eq b1, ob_eq b2]
      rcases well_cases (bytes (2 * (j * n + w))) n12 with ⟨v, hv, ev, e1, e2⟩ | ⟨e1, e2, -⟩
      · rw [ob_eq e1, ob_eq e2, if_neg one_ne0, if_neg one_ne0, ev, ob_eq (areNext_in hg hx2 hw hv), gd_eq (ixN (by omega) (by decide)), nI_clamp (by omega), hx w (by omega), ob_eq (Mo_has_eq (Nat.lt_of_lt_of_le (hg.2.1 w) (Nat.le_trans h2n (by decide))) (by omega))]
        cases hbit : (nx w).testBit v with
        | false =>
          rw [if_neg (show ¬ (false = true) by decide), if_pos rfl, if_pos rfl]
          exact Or.inr ⟨_, _, rfl, rfl, rfl, Or.inl ⟨w, hw, rfl⟩⟩
        | true =>
          rw [if_pos (show true = true from rfl), if_neg one_ne0, if_neg one_ne0]
          by_cases c3 : nI v = a
          · rw [if_pos c3, if_pos c3, hgo, hgo2]
            exact Or.inl ⟨_, _, rfl, rfl, rfl, rfl⟩
          rw [if_neg c3, if_neg c3]
          obtain ⟨a3, a4⟩ := wOn (n := n) (j := j) (w := v) hk hb hE (by omega)
          rw [ob_eq a3, ob_eq a2, ob_eq a4]
          by_cases c4 : 2 * bytes (2 * (j * n + w) + 1) ≤ bytes (2 * (j * n + v) + 1)
          · rw [if_pos c4, if_pos c4, hgo, hgo2]
            exact Or.inl ⟨_, _, rfl, rfl, rfl, rfl⟩
          · rw [if_neg c4, if_neg c4]
            exact Or.inr ⟨_, _, rfl, rfl, rfl, Or.inr (Or.inl ⟨w, hw, rfl⟩)⟩
      · rw [ob_eq e1, ob_eq e2, if_pos rfl, if_pos rfl]
        exact Or.inr ⟨_, _, rfl, rfl, rfl, Or.inl ⟨w, hw, rfl⟩⟩)
    (by
      rintro s t ⟨rfl, rfl⟩
      exact ⟨_, _, if_neg (not_self (by omega)), if_neg (not_self (by omega)), rfl, Or.inr (Or.inr rfl)⟩)
    0 0 0 (by omega) ⟨rfl, rfl⟩
  subst h3
  rcases h4 with ⟨w, hw, rfl⟩ | ⟨w, hw, rfl⟩ | rfl
  · exact ⟨nI w, (ob_eq h1).trans rfl, (ob_eq h2).trans rfl, Or.inr ⟨w, hw, rfl⟩⟩
  · exact ⟨nI w, (ob_eq h1).trans rfl, (ob_eq h2).trans rfl, Or.inr ⟨w, hw, rfl⟩⟩
  · exact ⟨-1, (ob_eq h1).trans rfl, (ob_eq h2).trans rfl, Or.inl rfl⟩
theorem RT_zero (bytes tape : Nat → Int32) : RT bytes 0 tape 0 := ⟨0, by omega, rfl, rfl, fun j hj => by omega⟩
theorem paper_ok {n : Nat} {nx : Nat → Nat} (hg : GoodG n nx) {next nextTo : Nat → Int32} (hx : ∀ w, w < 12 → nextTo w = nI (nx w)) (hx2 : ∀ w, w < 12 → next w = nI (nx w)) {bytes tape : Nat → Int32} {len taped : Int32} (en at_ fa : Int32) (h : RT bytes len tape taped) (a1 : Int32) :
    ∃ r l' e' p' f' m', Dj_paper bytes len en at_ fa (nI n) next a1 = some (r, l', e', p', f') ∧ Mo_paper nextTo (nI n) tape taped a1 = some (r, m') ∧ RT bytes l' tape m' := by
  have n12 := hg.1
  obtain ⟨k, hk, rfl, rfl, hb⟩ := h
  have hR : RT bytes (nI k) tape (nI k) := ⟨k, hk, rfl, rfl, hb⟩
  unfold Dj_paper Mo_paper
  rcases well_cases a1 n12 with ⟨p, hp, rfl, e1, e2⟩ | ⟨e1, e2, -⟩
  · rw [ob_eq e1, ob_eq e2, if_neg one_ne0, if_neg one_ne0]
    have e3 : (2 : Int32) * nI n = nI (2 * n) := nI_mulN 2 n
    by_cases c : 2 * n ≤ k
    · have hc : (2 : Int32) * nI n ≤ nI k := by rw [e3]; exact (nI_leN (by omega) (by omega)).mpr c
      rw [if_pos hc, if_pos hc]
      obtain ⟨r, w1, w2, w3⟩ := wrong_ok hg hx hx2 (k := k) (E := 2 * n) (j := 0) hk hb c (by omega) (nI p)
      have w2' : Mo_wrongIn nextTo (nI n) tape 0 (nI p) = some r := by
        rw [Nat.zero_mul] at w2; exact w2
      have eb : Tape_begin (nI k) en at_ fa (2 * nI n) = some (0, nI (2 * n), 0, 0) := by
        rw [e3]; rfl
      rw [ob_eq eb, ob_eq w2']
      rcases w3 with rfl | ⟨w, hw, rfl⟩
      · obtain ⟨r, r', h1, h2, h3⟩ := lp_sim (f := Dj_paper_L64 (nI p) bytes (nI (2 * n)) (nI n)) (g := Mo_paper_L50 (nI p) (nI n) tape) (fun i s t => s = t ∧ s.2 = nI i) n (fun r r' => r = r')
          (by
            rintro w ⟨s1, s2⟩ t hw ⟨rfl, hs⟩
            have hs : s2 = nI w := hs
            subst hs
            left
            obtain ⟨a1, a2⟩ := wOn (n := n) (j := 0) (w := w) hk hb c (by omega)
            have hwn := (nI_ltN (show w < 2 ^ 31 by omega) (show n < 2 ^ 31 by omega)).mpr hw
            have z : (s1 + 0 : Int32) = s1 := Int32.add_zero s1
            by_cases c1 : nI w = nI p
            · refine ⟨(s1, nI (w + 1)), _, ?_, ?_, rfl, rfl⟩
              · unfold Dj_paper_L64 Dj_paper_L64_J95
                refine (if_pos hwn).trans ((if_pos c1).trans ?_)
                show some (Sum.inl (s1 + 0, nI w + nI 1)) = _
                rw [z, nI_ad]
              · unfold Mo_paper_L50 Mo_paper_L50_J75
                refine (if_pos hwn).trans ((if_pos c1).trans ?_)
                show some (Sum.inl (s1, nI w + nI 1)) = _
                rw [nI_ad]
            · refine ⟨(s1 + bytes (2 * (0 * n + w) + 1), nI (w + 1)), _, ?_, ?_, rfl, rfl⟩
              · unfold Dj_paper_L64 Dj_paper_L64_J95
                refine (if_pos hwn).trans ((if_neg c1).trans ((ob_eq a1).trans ?_))
                show some (Sum.inl (_, nI w + nI 1)) = _
                rw [nI_ad]
              · unfold Mo_paper_L50 Mo_paper_L50_J75
                have a2' : Mo_weightIn tape 0 (nI w) = some (bytes (2 * (0 * n + w) + 1)) := by
                  rw [← a2, Nat.zero_mul]; rfl
                refine (if_pos hwn).trans ((if_neg c1).trans ((ob_eq a2').trans ?_))
                show some (Sum.inl (_, nI w + nI 1)) = _
                rw [nI_ad])
          (by
            rintro ⟨u1, u2⟩ t ⟨rfl, hs⟩
            have hs : u2 = nI n := hs
            subst hs
            exact ⟨u1, u1, if_neg (not_self (by omega)), if_neg (not_self (by omega)), rfl⟩)
          0 (0, 0) (0, 0) (by omega) ⟨rfl, rfl⟩
        subst h3
        refine ⟨r, 0, nI (2 * n), 0, 0, 0, ?_, ?_, RT_zero _ _⟩
        · refine (ob_eq w1).trans ((if_pos (by decide)).trans ((ob_eq h1).trans rfl))
        · exact (if_pos rfl).trans ((ob_eq h2).trans rfl)
      · refine ⟨(-2) - nI w, 0, nI (2 * n), 0, 0, 0, ?_, ?_, RT_zero _ _⟩
        · exact (ob_eq w1).trans ((if_neg (nI_pos (by omega))).trans rfl)
        · exact (if_neg (fun e => nI_pos (show w < 2 ^ 31 by omega) (by rw [e]; decide))).trans rfl
    · have hc : ¬ (2 : Int32) * nI n ≤ nI k := by rw [e3]; exact fun z => c ((nI_leN (by omega) (by omega)).mp z)
      rw [if_neg hc, if_neg hc]
      exact ⟨_, _, _, _, _, _, rfl, rfl, hR⟩
  · rw [ob_eq e1, ob_eq e2, if_pos rfl, if_pos rfl]
    exact ⟨_, _, _, _, _, _, rfl, rfl, hR⟩
/-- what a byte weighs -/
theorem byte_le (x : Int32) : ∃ b, b ≤ 255 ∧ x &&& 255 = nI b := by
  refine ⟨(x &&& 255).toBitVec.toNat, ?_, ?_⟩
  · show (x.toBitVec &&& (255 : Int32).toBitVec).toNat ≤ 255
    rw [BitVec.toNat_and]
    exact Nat.and_le_right
  · apply Int32.toBitVec.inj
    apply BitVec.eq_of_toNat_eq
    rw [pk_tn (BitVec.isLt _)]
theorem wsum_ok {n m w : Nat} (hm : m ≤ 4) (hw : w < n) {bytes tape : Nat → Int32} {k E : Nat} (hk : k ≤ 260) (hb : ∀ i, i < k → bytes i = tape i &&& 255) (hE : E ≤ k) (h : 2 * (m * n) ≤ E) (v1 v3 v4 : Int32) (hn : n ≤ 12) :
    ∃ S, S ≤ 1020 ∧ Dj_weightOnPapers bytes (nI E) (nI n) (nI m) (nI w) = some (nI S) ∧ lp (Mo_joined_L120 v1 (nI m) v3 v4 (nI w) (nI n) tape) (0, 0) = some (nI S) := by
  unfold Dj_weightOnPapers
  obtain ⟨r, r', h1, h2, h3⟩ := lp_sim (f := Dj_weightOnPapers_L5 (nI m) (nI w) bytes (nI E) (nI n)) (g := Mo_joined_L120 v1 (nI m) v3 v4 (nI w) (nI n) tape) (fun i s t => ∃ S, S ≤ 255 * i ∧ s = (nI S, nI i) ∧ t = (nI S, nI i)) m (fun r r' => ∃ S, S ≤ 255 * m ∧ r = nI S ∧ r' = nI S)
    (by
      rintro j s t hj ⟨S, hS, rfl, rfl⟩
      left
      have hmul : j * n + n ≤ m * n := by
        have := Nat.mul_le_mul_right n (show j + 1 ≤ m by omega)
        rw [Nat.succ_mul] at this; exact this
      obtain ⟨a1, a2⟩ := wOn (n := n) (j := j) (w := w) hk hb hE (by omega)
      obtain ⟨b, hb1, hb2⟩ := byte_le (tape (2 * (j * n + w) + 1))
      rw [← hb _ (by omega)] at hb2
      rw [hb2] at a1 a2
      have hjm := (nI_ltN (show j < 2 ^ 31 by omega) (show m < 2 ^ 31 by omega)).mpr hj
      refine ⟨(nI (S + b), nI (j + 1)), _, ?_, ?_, S + b, by omega, rfl, rfl⟩
      · unfold Dj_weightOnPapers_L5
        refine (if_pos hjm).trans ((ob_eq a1).trans ?_)
        show some (Sum.inl (nI S + nI b, nI j + nI 1)) = _
        rw [nI_ad, nI_ad]
      · unfold Mo_joined_L120
        have e : (2 * nI n) * nI j = nI (2 * (j * n)) := by
          rw [show (2 : Int32) * nI n = nI (2 * n) from nI_mulN 2 n, nI_mulN, Nat.mul_assoc, Nat.mul_comm n j]
        refine (if_pos hjm).trans ?_
        show ob (Mo_weightIn tape ((2 * nI n) * nI j) (nI w)) _ = _
        rw [e]
        refine (ob_eq a2).trans ?_
        show some (Sum.inl (nI S + nI b, nI j + nI 1)) = _
        rw [nI_ad, nI_ad])
    (by
      rintro s t ⟨S, hS, rfl, rfl⟩
      exact ⟨nI S, nI S, if_neg (not_self (by omega)), if_neg (not_self (by omega)), S, hS, rfl, rfl⟩)
    0 (0, 0) (0, 0) (by omega) ⟨0, by omega, rfl, rfl⟩
  obtain ⟨S, hS, rfl, rfl⟩ := h3
  exact ⟨S, by omega, (ob_eq h1).trans rfl, h2⟩
theorem jmin_nI {a b : Nat} (ha : a < 2 ^ 31) (hb : b < 2 ^ 31) : jmin (nI a) (nI b) = nI (min a b) := by
  unfold jmin
  by_cases h : b < a
  · rw [if_pos ((nI_ltN hb ha).mpr h), Nat.min_eq_right (by omega)]
  · rw [if_neg (fun z => h ((nI_ltN hb ha).mp z)), Nat.min_eq_left (by omega)]
theorem joined_ok {n : Nat} {nx : Nat → Nat} (hg : GoodG n nx) {next nextTo : Nat → Int32} (hx : ∀ w, w < 12 → nextTo w = nI (nx w)) (hx2 : ∀ w, w < 12 → next w = nI (nx w)) {bytes tape : Nat → Int32} {len taped : Int32} (en at_ fa : Int32) (h : RT bytes len tape taped) (a1 a2 : Int32) :
    ∃ r l' e' p' f' m', Dj_joined bytes len en at_ fa (nI n) next a1 a2 = some (r, l', e', p', f') ∧ Mo_joined nextTo (nI n) tape taped a1 a2 = some (r, m') ∧ RT bytes l' tape m' := by
  have n12 := hg.1
  obtain ⟨k, hk, rfl, rfl, hb⟩ := h
  have hR : RT bytes (nI k) tape (nI k) := ⟨k, hk, rfl, rfl, hb⟩
  unfold Dj_joined Mo_joined
  rcases well_cases a1 n12 with ⟨p, hp, rfl, e1, e2⟩ | ⟨e1, e2, -⟩
  case inr =>
    rw [ob_eq e1, ob_eq e2, if_pos rfl, if_pos rfl]
    exact ⟨_, _, _, _, _, _, rfl, rfl, hR⟩
  rw [ob_eq e1, ob_eq e2, if_neg one_ne0, if_neg one_ne0]
  by_cases l1 : a2 < 1
  · rw [if_pos l1, ob_eq (Mo_in_no1 l1), if_pos rfl]
    exact ⟨_, _, _, _, _, _, rfl, rfl, hR⟩
  rw [if_neg l1]
  by_cases l4 : a2 ≤ 4
  case neg =>
    rw [if_neg l4, ob_eq (Mo_in_no2 l4), if_pos rfl]
    exact ⟨_, _, _, _, _, _, rfl, rfl, hR⟩
  rw [if_pos l4, ob_eq (Mo_in_yes l1 l4), if_neg one_ne0]
  obtain ⟨m, hm, rfl⟩ := nI_between (h := 4) (by decide) (fun z => l1 (Int32.lt_trans z (by decide))) l4
  have hm1 : 1 ≤ m := by
    rcases Nat.eq_zero_or_pos m with rfl | h
    · exact absurd (by decide) l1
    · exact h
  have e3 : (nI m * 2) * nI n = nI (2 * (m * n)) := by
    rw [show nI m * 2 = nI (m * 2) from nI_mulN m 2, nI_mulN, Nat.mul_comm m 2, Nat.mul_assoc]
  have e4 : (2 * nI n) * nI m = nI (2 * (m * n)) := by
    rw [show (2 : Int32) * nI n = nI (2 * n) from nI_mulN 2 n, nI_mulN, Nat.mul_assoc, Nat.mul_comm n m]
  have hmn : m * n ≤ 48 := by
    have := Nat.mul_le_mul hm n12; omega
  rw [e3, e4]
  by_cases c : 2 * (m * n) ≤ k
  case neg =>
    have hc : ¬ nI (2 * (m * n)) ≤ nI k := fun z => c ((nI_leN (by omega) (by omega)).mp z)
    rw [if_neg hc, if_neg hc]
    exact ⟨_, _, _, _, _, _, rfl, rfl, hR⟩
  have hc : nI (2 * (m * n)) ≤ nI k := (nI_leN (by omega) (by omega)).mpr c
  rw [if_pos hc, if_pos hc]
  have eb : Tape_begin (nI k) en at_ fa (nI (2 * (m * n))) = some (0, nI (2 * (m * n)), 0, 0) := rfl
  rw [ob_eq eb]
  obtain ⟨r, r', h1, h2, h3⟩ := lp_sim (f := Dj_joined_L64 (nI p) (nI m) bytes (nI (2 * (m * n))) (nI n) next) (g := Mo_joined_L41 (nI p) (nI m) nextTo (nI n) tape) (fun i s t => s = nI i ∧ t = nI i) m
    (fun r r' => (r = .inr () ∧ r' = .inr ()) ∨ ∃ j x, r = .inl x ∧ r' = .inl (nI j) ∧ Mo_wrongIn nextTo (nI n) tape ((2 * nI n) * nI j) (nI p) = some x)
    (by
      rintro j s t hj ⟨rfl, rfl⟩
      have hmul : j * n + n ≤ m * n := by
        have := Nat.mul_le_mul_right n (show j + 1 ≤ m by omega)
        rw [Nat.succ_mul] at this; exact this
      obtain ⟨r, w1, w2, w3⟩ := wrong_ok hg hx hx2 (k := k) (E := 2 * (m * n)) (j := j) hk hb c (by omega) (nI p)
      have e : (2 * nI n) * nI j = nI (2 * (j * n)) := by
        rw [show (2 : Int32) * nI n = nI (2 * n) from nI_mulN 2 n, nI_mulN, Nat.mul_assoc, Nat.mul_comm n j]
      rw [← e] at w2
      have hjm := (nI_ltN (show j < 2 ^ 31 by omega) (show m < 2 ^ 31 by omega)).mpr hj
      rcases w3 with rfl | ⟨w, hw, rfl⟩
      · left
        refine ⟨nI (j + 1), nI (j + 1), ?_, ?_, rfl, rfl⟩
        · unfold Dj_joined_L64
          refine (if_pos hjm).trans ((ob_eq w1).trans ((if_pos (by decide)).trans ?_))
          show some (Sum.inl (nI j + nI 1)) = _
          rw [nI_ad]
        · unfold Mo_joined_L41
          refine (if_pos hjm).trans ((ob_eq w2).trans ((if_pos rfl).trans ?_))
          show some (Sum.inl (nI j + nI 1)) = _
          rw [nI_ad]
      · right
        refine ⟨.inl (nI w), .inl (nI j), ?_, ?_, Or.inr ⟨j, nI w, rfl, rfl, w2⟩⟩
        · unfold Dj_joined_L64
          exact (if_pos hjm).trans ((ob_eq w1).trans (if_neg (nI_pos (by omega))))
        · unfold Mo_joined_L41
          exact (if_pos hjm).trans ((ob_eq w2).trans (if_neg (fun e => nI_pos (show w < 2 ^ 31 by omega) (by rw [e]; decide)))))
    (by
      rintro s t ⟨rfl, rfl⟩
      exact ⟨.inr (), .inr (), if_neg (not_self (by omega)), if_neg (not_self (by omega)), Or.inl ⟨rfl, rfl⟩⟩)
    0 0 0 (by omega) ⟨rfl, rfl⟩
  rcases h3 with ⟨rfl, rfl⟩ | ⟨j, x, rfl, rfl, w⟩
  case inr =>
    refine ⟨(-2) - x, 0, nI (2 * (m * n)), 0, 0, 0, (ob_eq h1).trans rfl, (ob_eq h2).trans ?_, RT_zero _ _⟩
    exact (ob_eq w).trans rfl
  obtain ⟨r, r', g1, g2, g3⟩ := lp_sim (f := Dj_joined_L103 (nI p) (nI m) bytes (nI (2 * (m * n))) (nI n)) (g := Mo_joined_L96 (nI p) (nI m) (nI n) tape)
    (fun i s t => ∃ S, S ≤ 1020 * i ∧ ((S = 0 ∧ s = (nI S, 2147483647, nI i) ∧ t = (nI S, 1000000, nI i)) ∨ ∃ b, b ≤ 1020 ∧ s = (nI S, nI b, nI i) ∧ t = (nI S, nI b, nI i))) n
    (fun r r' => ∃ S, S ≤ 1020 * n ∧ ((S = 0 ∧ r = (nI S, 2147483647) ∧ r' = (nI S, 1000000)) ∨ ∃ b, b ≤ 1020 ∧ r = (nI S, nI b) ∧ r' = (nI S, nI b)))
    (by
      rintro w s t hw ⟨S, hS, hst⟩
      left
      have hwn := (nI_ltN (show w < 2 ^ 31 by omega) (show n < 2 ^ 31 by omega)).mpr hw
      by_cases c1 : nI w = nI p
      · rcases hst with ⟨h0, rfl, rfl⟩ | ⟨b, hb', rfl, rfl⟩
        · refine ⟨(nI S, 2147483647, nI (w + 1)), (nI S, 1000000, nI (w + 1)), ?_, ?_, S, by omega, Or.inl ⟨h0, rfl, rfl⟩⟩
          · unfold Dj_joined_L103 Dj_joined_L103_J144
            refine (if_pos hwn).trans ((if_pos c1).trans ?_)
            show some (Sum.inl (_, _, nI w + nI 1)) = _
            rw [nI_ad]
          · unfold Mo_joined_L96 Mo_joined_L96_J166
            refine (if_pos hwn).trans ((if_pos c1).trans ?_)
            show some (Sum.inl (_, _, nI w + nI 1)) = _
            rw [nI_ad]
        · refine ⟨(nI S, nI b, nI (w + 1)), (nI S, nI b, nI (w + 1)), ?_, ?_, S, by omega, Or.inr ⟨b, hb', rfl, rfl⟩⟩
          · unfold Dj_joined_L103 Dj_joined_L103_J144
            refine (if_pos hwn).trans ((if_pos c1).trans ?_)
            show some (Sum.inl (_, _, nI w + nI 1)) = _
            rw [nI_ad]
          · unfold Mo_joined_L96 Mo_joined_L96_J166
            refine (if_pos hwn).trans ((if_pos c1).trans ?_)
            show some (Sum.inl (_, _, nI w + nI 1)) = _
            rw [nI_ad]
      · have key : ∀ (mc mr : Int32) (b' : Nat), s = (nI S, mc, nI w) → t = (nI S, mr, nI w) → (∀ T, T ≤ 1020 → jmin mc (nI T) = nI (min b' T) ∧ jmin mr (nI T) = nI (min b' T)) → ∃ s' t', Dj_joined_L103 (nI p) (nI m) bytes (nI (2 * (m * n))) (nI n) s = some (.inl s') ∧ Mo_joined_L96 (nI p) (nI m) (nI n) tape t = some (.inl t') ∧ ∃ S, S ≤ 1020 * (w + 1) ∧ ((S = 0 ∧ s' = (nI S, 2147483647, nI (w + 1)) ∧ t' = (nI S, 1000000, nI (w + 1))) ∨ ∃ b, b ≤ 1020 ∧ s' = (nI S, nI b, nI (w + 1)) ∧ t' = (nI S, nI b, nI (w + 1))) := by
          rintro mc mr b' rfl rfl hmin
          obtain ⟨T, hT, w1, w2⟩ := wsum_ok (n := n) (m := m) (w := w) hm hw (k := k) (E := 2 * (m * n)) hk hb c (Nat.le_refl _) (nI p) (nI S) mr n12
          obtain ⟨m1, m2⟩ := hmin T hT
          refine ⟨(nI (S + T), nI (min b' T), nI (w + 1)), (nI (S + T), nI (min b' T), nI (w + 1)), ?_, ?_, S + T, by omega, Or.inr ⟨min b' T, by omega, rfl, rfl⟩⟩
          · unfold Dj_joined_L103 Dj_joined_L103_J144
            refine (if_pos hwn).trans ((if_neg c1).trans ((ob_eq w1).trans ?_))
            show some (Sum.inl (nI S + nI T, jmin mc (nI T), nI w + nI 1)) = _
            rw [nI_ad, nI_ad, m1]
          · unfold Mo_joined_L96 Mo_joined_L96_J166
            refine (if_pos hwn).trans ((if_neg c1).trans ((ob_eq w2).trans ((ob_eq (Mo_min_jmin mr (nI T))).trans ?_)))
            show some (Sum.inl (nI S + nI T, jmin mr (nI T), nI w + nI 1)) = _
            rw [nI_ad, nI_ad, m2]
        rcases hst with ⟨h0, rfl, rfl⟩ | ⟨b, hb', rfl, rfl⟩
        · refine key 2147483647 1000000 1000000 rfl rfl (fun T hT => ?_)
          constructor
          · rw [show (2147483647 : Int32) = nI 2147483647 from rfl, jmin_nI (by decide) (by omega)]; congr 1; omega
          · rw [show (1000000 : Int32) = nI 1000000 from rfl, jmin_nI (by decide) (by omega)]
        · exact key (nI b) (nI b) b rfl rfl (fun T hT => ⟨jmin_nI (by omega) (by omega), jmin_nI (by omega) (by omega)⟩))
    (by
      rintro s t ⟨S, hS, hst⟩
      rcases hst with ⟨h0, rfl, rfl⟩ | ⟨b, hb', rfl, rfl⟩
      · exact ⟨_, _, if_neg (not_self (by omega)), if_neg (not_self (by omega)), S, hS, Or.inl ⟨h0, rfl, rfl⟩⟩
      · exact ⟨_, _, if_neg (not_self (by omega)), if_neg (not_self (by omega)), S, hS, Or.inr ⟨b, hb', rfl, rfl⟩⟩)
    0 (0, 2147483647, 0) (0, 1000000, 0) (by omega) ⟨0, by omega, Or.inl ⟨rfl, rfl, rfl⟩⟩
  obtain ⟨S, hS, hst⟩ := g3
  rcases hst with ⟨rfl, rfl, rfl⟩ | ⟨b, hb', rfl, rfl⟩
  · refine ⟨1, 0, nI (2 * (m * n)), 0, 0, 0, (ob_eq h1).trans ?_, (ob_eq h2).trans ?_, RT_zero _ _⟩
    · exact (ob_eq g1).trans rfl
    · exact (ob_eq g2).trans rfl
  · by_cases hz : b = 0
    · subst hz
      refine ⟨-100, 0, nI (2 * (m * n)), 0, 0, 0, (ob_eq h1).trans ?_, (ob_eq h2).trans ?_, RT_zero _ _⟩
      · exact (ob_eq g1).trans rfl
      · exact (ob_eq g2).trans rfl
    · have hne : ¬ nI b = 0 := nI_ne0 (by omega) (by omega)
      have hle : ¬ nI b ≤ 0 := fun z => hz (by have := (nI_leN (b := 0) (show b < 2 ^ 31 by omega) (by decide)).mp z; omega)
      have hnz : nz (nI b) = true := by
        unfold nz
        simpa using hne
      refine ⟨nI S / nI b + 1, 0, nI (2 * (m * n)), 0, 0, 0, (ob_eq h1).trans ?_, (ob_eq h2).trans ?_, RT_zero _ _⟩
      · exact (ob_eq g1).trans ((if_neg hle).trans (gd_eq hnz))
      · exact (ob_eq g2).trans ((if_neg hne).trans (gd_eq hnz))
