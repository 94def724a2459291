/-! FEED, CHECK: the tapes -/
theorem nar_byte (x : Int32) : vp_nar .byte x = jB x := rfl
theorem jB_bits (x : Int32) (i : Nat) (hi : i < 8) : (jB x).toBitVec.getLsbD i = x.toBitVec.getLsbD i := by
  show ((x.toBitVec.signExtend 8).signExtend 32).getLsbD i = _
  rw [BitVec.getLsbD_signExtend, BitVec.getLsbD_signExtend]
  simp [show i < 32 by omega, hi]
theorem low8 {x y : Int32} (h : ∀ i, i < 8 → x.toBitVec.getLsbD i = y.toBitVec.getLsbD i) : x &&& 255 = y &&& 255 := by
  apply Int32.toBitVec.inj
  apply BitVec.eq_of_getLsbD_eq
  intro i hi
  show (x.toBitVec &&& (255 : Int32).toBitVec).getLsbD i = (y.toBitVec &&& (255 : Int32).toBitVec).getLsbD i
  rw [BitVec.getLsbD_and, BitVec.getLsbD_and]
  by_cases h8 : i < 8
  · rw [h i h8]
  · have : ((255 : Int32).toBitVec).getLsbD i = false := by
      have hc : i = 8 ∨ i = 9 ∨ i = 10 ∨ i = 11 ∨ i = 12 ∨ i = 13 ∨ i = 14 ∨ i = 15 ∨ i = 16 ∨ i = 17 ∨ i = 18 ∨ i = 19 ∨ i = 20 ∨ i = 21 ∨ i = 22 ∨ i = 23 ∨ i = 24 ∨ i = 25 ∨ i = 26 ∨ i = 27 ∨ i = 28 ∨ i = 29 ∨ i = 30 ∨ i = 31 := by omega
      rcases hc with rfl | rfl | rfl | rfl | rfl | rfl | rfl | rfl | rfl | rfl | rfl | rfl | rfl | rfl | rfl | rfl | rfl | rfl | rfl | rfl | rfl | rfl | rfl | rfl <;> rfl
    rw [this, Bool.and_false, Bool.and_false]
theorem sar_bits (v : Int32) (s : Nat) (hs : s ≤ 24) (i : Nat) (hi : i < 8) : (v >>> (nI s &&& 31)).toBitVec.getLsbD i = v.toBitVec.getLsbD (s + i) := by
  have e : (nI s &&& 31).toBitVec.smod 32#32 = BitVec.ofNat 32 s := by
    have : ∀ s, s < 25 → (nI s &&& 31).toBitVec.smod 32#32 = BitVec.ofNat 32 s := by decide +kernel
    exact this s (by omega)
  show (v.toBitVec.sshiftRight' ((nI s &&& 31).toBitVec.smod 32#32)).getLsbD i = _
  rw [e]
  show (v.toBitVec.sshiftRight (BitVec.ofNat 32 s).toNat).getLsbD i = _
  rw [BitVec.getLsbD_sshiftRight]
  have e2 : (BitVec.ofNat 32 s).toNat = s := by simp; omega
  rw [e2]
  simp [show i < 32 by omega, show s + i < 32 by omega]
theorem shr_bits (v : Int32) (s : Nat) (hs : s ≤ 24) (i : Nat) (hi : i < 8) : (juS v (nI s)).toBitVec.getLsbD i = v.toBitVec.getLsbD (s + i) := by
  have e : ((nI s).toUInt32 &&& Int32.toUInt32 31) = UInt32.ofNat s := by
    have : ∀ s, s < 25 → ((nI s).toUInt32 &&& Int32.toUInt32 31) = UInt32.ofNat s := by decide +kernel
    exact this s (by omega)
  unfold juS
  rw [e]
  show (v.toUInt32.toBitVec >>> ((UInt32.ofNat s).toBitVec % 32#32)).getLsbD i = _
  have e2 : ((UInt32.ofNat s).toBitVec % 32#32).toNat = s := by
    have : ∀ s, s < 25 → ((UInt32.ofNat s).toBitVec % 32#32).toNat = s := by decide +kernel
    exact this s (by omega)
  rw [BitVec.ushiftRight_eq', e2, BitVec.getLsbD_ushiftRight]
  rfl
theorem oct_eq (v : Int32) {s : Nat} (hs : s ≤ 24) : vp_nar .byte (jB (v >>> (nI s &&& 31))) &&& 255 = juS v (nI s) &&& 255 := by
  rw [nar_byte]
  refine low8 (fun i hi => ?_)
  rw [jB_bits _ i hi, jB_bits _ i hi, sar_bits v s hs i hi, shr_bits v s hs i hi]
theorem and255_idem (x : Int32) : (x &&& 255) &&& 255 = x &&& 255 := by
  rw [Int32.and_assoc]; rfl
theorem app_step (a : Int32) {c : Int32} (hc : ¬ c < 0) (f : Nat → Int32) {q : Nat} (hq : q < 260) : Tape_append_L3 a (c, f, nI q) = some (.inl (c + (-8), upd f q (juS a c &&& 255), nI (q + 1))) := by
  unfold Tape_append_L3 Tape_append_L3_J45
  show (if c < 0 then _ else (if nI q < nI 260 then _ else _)) = _
  rw [if_neg hc, if_pos ((nI_ltN (by omega) (by decide)).mpr hq), gd_eq (ixN hq (by decide))]
  show some (Sum.inl (c + (-8), upd f (nI q).toNatClampNeg (juS a c &&& 255), nI q + nI 1)) = _
  rw [nI_clamp (by omega), nI_ad]
theorem typ_step (a : Int32) {c : Int32} (hc : ¬ c < 0) (f : Nat → Int32) {q : Nat} (hq : q < 260) : Mo_types_L2 a (c, f, nI q) = some (.inl (c + (-1), upd f q (vp_nar .byte (jB (a >>> ((8 * c) &&& 31)))), nI (q + 1))) := by
  unfold Mo_types_L2
  show (if c < 0 then _ else _) = _
  rw [if_neg hc, gd_eq (ixN hq (by decide))]
  show some (Sum.inl (c + (-1), upd f (nI q).toNatClampNeg _, nI q + nI 1)) = _
  rw [nI_clamp (by omega), nI_ad]
/-- four bytes behind k -/
theorem append_ok {bytes tape : Nat → Int32} {k : Nat} (hk : k + 4 ≤ 260) (h : ∀ j, j < k → bytes j = tape j &&& 255) (a : Int32) :
    ∃ b' t', Tape_append bytes (nI k) a = some (b', nI (k + 4)) ∧ Mo_types tape (nI k) a = some (t', nI (k + 4)) ∧ ∀ j, j < k + 4 → b' j = t' j &&& 255 := by
  refine ⟨upd (upd (upd (upd bytes k (juS a (nI 24) &&& 255)) (k + 1) (juS a (nI 16) &&& 255)) (k + 2) (juS a (nI 8) &&& 255)) (k + 3) (juS a (nI 0) &&& 255),
    upd (upd (upd (upd tape k (vp_nar .byte (jB (a >>> (nI 24 &&& 31))))) (k + 1) (vp_nar .byte (jB (a >>> (nI 16 &&& 31))))) (k + 2) (vp_nar .byte (jB (a >>> (nI 8 &&& 31))))) (k + 3) (vp_nar .byte (jB (a >>> (nI 0 &&& 31)))), ?_, ?_, ?_⟩
  · unfold Tape_append
    refine (ob_eq (lp_inl (app_step a (c := 24) (by decide) bytes (q := k) (by omega)) (lp_inl (app_step a (c := 16) (by decide) _ (q := k + 1) (by omega)) (lp_inl (app_step a (c := 8) (by decide) _ (q := k + 2) (by omega)) (lp_inl (app_step a (c := 0) (by decide) _ (q := k + 3) (by omega)) (lp_inr rfl)))))).trans ?_
    rfl
  · unfold Mo_types
    refine (ob_eq (lp_inl (typ_step a (c := 3) (by decide) tape (q := k) (by omega)) (lp_inl (typ_step a (c := 2) (by decide) _ (q := k + 1) (by omega)) (lp_inl (typ_step a (c := 1) (by decide) _ (q := k + 2) (by omega)) (lp_inl (typ_step a (c := 0) (by decide) _ (q := k + 3) (by omega)) (lp_inr rfl)))))).trans ?_
    rfl
  · intro j hj
    by_cases e3 : j = k + 3
    · subst e3; rw [upd_at, upd_at, oct_eq a (by omega)]
    · rw [upd_ne e3, upd_ne e3]
      by_cases e2 : j = k + 2
      · subst e2; rw [upd_at, upd_at, oct_eq a (by omega)]
      · rw [upd_ne e2, upd_ne e2]
        by_cases e1 : j = k + 1
        · subst e1; rw [upd_at, upd_at, oct_eq a (by omega)]
        · rw [upd_ne e1, upd_ne e1]
          by_cases e0 : j = k
          · subst e0; rw [upd_at, upd_at, oct_eq a (by omega)]
          · rw [upd_ne e0, upd_ne e0]; exact h j (by omega)
theorem feed_ok {bytes tape : Nat → Int32} {len taped : Int32} (h : RT bytes len tape taped) (a b c d e : Int32) :
    ∃ r b' l' t' m', Dj_feed bytes len a b c d e = some (r, b', l') ∧ Mo_feed tape taped a b c d e = some (r, t', m') ∧ RT b' l' t' m' := by
  obtain ⟨k, hk, rfl, rfl, hb⟩ := h
  unfold Dj_feed Mo_feed
  by_cases h1 : k + 20 ≤ 260
  · have hc : nI k + 20 ≤ 260 := by
      rw [show nI k + 20 = nI (k + 20) from nI_ad k 20]
      exact (nI_leN (b := 260) (by omega) (by decide)).mpr h1
    rw [if_pos hc, if_pos hc]
    obtain ⟨b1, t1, p1, q1, r1⟩ := append_ok (k := k) (by omega) hb a
    obtain ⟨b2, t2, p2, q2, r2⟩ := append_ok (k := k + 4) (by omega) r1 b
    obtain ⟨b3, t3, p3, q3, r3⟩ := append_ok (k := k + 4 + 4) (by omega) r2 c
    obtain ⟨b4, t4, p4, q4, r4⟩ := append_ok (k := k + 4 + 4 + 4) (by omega) r3 d
    obtain ⟨b5, t5, p5, q5, r5⟩ := append_ok (k := k + 4 + 4 + 4 + 4) (by omega) r4 e
    rw [ob_eq p1, ob_eq q1]
    simp only []
    rw [ob_eq p2, ob_eq q2]
    simp only []
    rw [ob_eq p3, ob_eq q3]
    simp only []
    rw [ob_eq p4, ob_eq q4]
    simp only []
    rw [ob_eq p5, ob_eq q5]
    exact ⟨_, _, _, _, _, rfl, rfl, _, by omega, rfl, rfl, r5⟩
  · have hc : ¬ nI k + 20 ≤ 260 := by
      rw [show nI k + 20 = nI (k + 20) from nI_ad k 20]
      exact fun z => h1 ((nI_leN (b := 260) (by omega) (by decide)).mp z)
    rw [if_neg hc, if_neg hc]
    exact ⟨_, _, _, _, _, rfl, rfl, k, hk, rfl, rfl, hb⟩
theorem holds_yes {a l h len : Int32} (h1 : ¬ a < l) (h2 : a ≤ h) (h3 : a ≤ len) : Tape_holds len a l h = some 1 := by
  unfold Tape_holds; rw [if_neg h1, if_pos h2, if_pos h3]
theorem holds_no1 {a l h len : Int32} (h1 : a < l) : Tape_holds len a l h = some 0 := by
  unfold Tape_holds Tape_holds_J22; rw [if_pos h1]
theorem holds_no2 {a l h len : Int32} (h1 : ¬ a ≤ h) : Tape_holds len a l h = some 0 := by
  unfold Tape_holds Tape_holds_J22
  by_cases h2 : a < l
  · rw [if_pos h2]
  · rw [if_neg h2, if_neg h1]
theorem holds_no3 {a l h len : Int32} (h1 : ¬ a ≤ len) : Tape_holds len a l h = some 0 := by
  unfold Tape_holds Tape_holds_J22
  by_cases h2 : a < l
  · rw [if_pos h2]
  · rw [if_neg h2]
    by_cases h3 : a ≤ h
    · rw [if_pos h3, if_neg h1]
    · rw [if_neg h3]
theorem byteAt_in {bytes : Nat → Int32} {k e : Nat} (h : k < e) (he : e ≤ 260) : Tape_byteAt bytes (nI e) (nI k) = some (bytes k) := by
  unfold Tape_byteAt
  show (if nI k < 0 then _ else (if nI k < nI e then (if nI k < nI 260 then _ else _) else _)) = _
  rw [if_neg (nI_pos (by omega)), if_pos ((nI_ltN (by omega) (by omega)).mpr h), if_pos ((nI_ltN (by omega) (by decide)).mpr (by omega)), gd_eq (ixN (by omega) (by decide)), nI_clamp (by omega)]
theorem octet_in {tape : Nat → Int32} {k : Nat} (h : k < 260) : Mo_octet tape (nI k) = some (tape k &&& 255) := by
  unfold Mo_octet
  rw [gd_eq (ixN h (by decide)), nI_clamp (by omega)]
theorem check_ok {n : Nat} (hn : n ≤ 12) {bytes tape jars space now : Nat → Int32} {len taped en at_ fa throne day draw : Int32} (h : RT bytes len tape taped) (hj : RJ jars space throne day draw now) (a1 : Int32) :
    ∃ r l' e' p' f' m', Dj_check bytes len en at_ fa (nI n) jars a1 = some (r, l', e', p', f') ∧ Mo_check now (nI n) tape taped a1 = some (r, m') ∧ RT bytes l' tape m' := by
  obtain ⟨k, hk, rfl, rfl, hb⟩ := h
  unfold Dj_check Mo_check Mo_check_J18
  have hR : RT bytes (nI k) tape (nI k) := ⟨k, hk, rfl, rfl, hb⟩
  by_cases h1 : a1 < 0
  · rw [ob_eq (holds_no1 h1), ob_eq (Mo_in_no1 h1), if_pos rfl, if_pos rfl]
    exact ⟨_, _, _, _, _, _, rfl, rfl, hR⟩
  by_cases h2 : a1 ≤ 12
  · obtain ⟨m, hm, rfl⟩ := nI_between (h := 12) (by decide) h1 h2
    rw [ob_eq (Mo_in_yes h1 h2), if_neg one_ne0]
    by_cases h3 : m ≤ k
    · have h4 := (nI_leN (show m < 2 ^ 31 by omega) (show k < 2 ^ 31 by omega)).mpr h3
      rw [ob_eq (holds_yes h1 h2 h4), if_neg one_ne0, if_pos h4]
      unfold Tape_begin
      show ∃ r l' e' p' f' m', (ob (lp (Dj_check_L27 (nI m) bytes (nI m) (nI n) jars) 0) _) = _ ∧ _
      obtain ⟨r, r', q1, q2, q3⟩ := lp_sim (f := Dj_check_L27 (nI m) bytes (nI m) (nI n) jars) (g := Mo_check_L28 (nI m) now (nI n) tape) (fun i s t => s = nI i ∧ t = nI i) m (fun r r' => r = r')
        (by
          rintro i s t hi ⟨rfl, rfl⟩
          have h5 : nI i < nI m := (nI_ltN (by omega) (by omega)).mpr hi
          have key : ∀ x : Int32, (Dj_check_L27 (nI m) bytes (nI m) (nI n) jars (nI i) = Dj_check_L27_J58 (nI m) (nI i) x bytes (nI m) (nI n) jars) → (Mo_check_L28 (nI m) now (nI n) tape (nI i) = Mo_check_L28_J60 (nI m) (nI i) x (bytes i) now (nI n) tape) → (∃ s' t', Dj_check_L27 (nI m) bytes (nI m) (nI n) jars (nI i) = some (.inl s') ∧ Mo_check_L28 (nI m) now (nI n) tape (nI i) = some (.inl t') ∧ s' = nI (i + 1) ∧ t' = nI (i + 1)) ∨ ∃ r r', Dj_check_L27 (nI m) bytes (nI m) (nI n) jars (nI i) = some (.inr r) ∧ Mo_check_L28 (nI m) now (nI n) tape (nI i) = some (.inr r') ∧ r = r' := by
            intro x g1 g2
            rw [g1, g2]
            unfold Dj_check_L27_J58 Mo_check_L28_J60
            rw [ob_eq (byteAt_in hi (by omega))]
            by_cases e : bytes i = x
            · left
              exact ⟨_, _, if_pos e, if_pos e, nI_ad i 1, nI_ad i 1⟩
            · right
              exact ⟨_, _, if_neg e, if_neg e, rfl⟩
          have ho : Mo_octet tape (nI i) = some (bytes i) := by rw [octet_in (by omega), hb i (by omega)]
          by_cases h6 : i < n
          · refine key (jars i) ?_ ?_
            · unfold Dj_check_L27
              rw [if_pos h5, if_pos ((nI_ltN (by omega) (by omega)).mpr h6), gd_eq (ixN (by omega) (by decide)), nI_clamp (by omega)]
            · unfold Mo_check_L28
              rw [if_pos h5, ob_eq ho, ob_eq (isWell_yes h6 hn), if_neg one_ne0, show (0 : Int32) + nI i = nI (0 + i) from nI_ad 0 i, Nat.zero_add, gd_eq (ixN (by omega) (by decide)), nI_clamp (by omega), hj.1 i (by omega)]
          · refine key 255 ?_ ?_
            · unfold Dj_check_L27
              rw [if_pos h5, if_neg (fun z => h6 ((nI_ltN (by omega) (by omega)).mp z))]
            · unfold Mo_check_L28
              rw [if_pos h5, ob_eq ho, ob_eq (isWell_no hn (fun w hw e => h6 (by have := (nI_inj (by omega) (by omega)).mp e; omega))), if_pos rfl])
        (by
          rintro s t ⟨rfl, rfl⟩
          have h5 : ¬ nI m < nI m := fun z => absurd ((nI_ltN (by omega) (by omega)).mp z) (by omega)
          exact ⟨.inr (), .inr (), if_neg h5, if_neg h5, rfl⟩) 0 0 0 (by omega) ⟨rfl, rfl⟩
      subst q3
      rw [ob_eq q1, ob_eq q2]
      have hR0 : RT bytes 0 tape 0 := ⟨0, by omega, rfl, rfl, fun j hj => by omega⟩
      rcases r with r | r
      · exact ⟨_, _, _, _, _, _, rfl, rfl, hR0⟩
      · exact ⟨_, _, _, _, _, _, rfl, rfl, hR0⟩
    · have h4 : ¬ nI m ≤ nI k := fun z => h3 ((nI_leN (by omega) (by omega)).mp z)
      rw [ob_eq (holds_no3 h4), if_pos rfl, if_neg h4]
      exact ⟨_, _, _, _, _, _, rfl, rfl, hR⟩
  · rw [ob_eq (holds_no2 h2), ob_eq (Mo_in_no2 h2), if_pos rfl, if_pos rfl]
    exact ⟨_, _, _, _, _, _, rfl, rfl, hR⟩
