/-! LEDGERS: both answer alike -/
section LDO
variable {bytes tape : Nat → Int32} {E : Nat} {n : Nat} {nx : Nat → Nat} {next nextTo : Nat → Int32}
theorem readLine_dead {needs changes : Nat → Int32} {lost F k : Int32} (hF : ¬ F = 0) (hn : n ≤ 12) {q : Nat} (hq : q < 1000) : Ledger_readLine needs changes lost bytes 0 (nI q) F (nI n) next k = some (needs, changes, lost, 0, nI q, F) := by
  have hl : Tape_letter bytes 0 (nI q) F = some (-1, 0, nI q, F) := by
    unfold Tape_letter Tape_letter_J18
    rw [ob_eq (peek_dead (show q < 2 ^ 31 by omega)), if_pos (show (-1 - 97 : Int32) < 0 by decide), ob_eq (failN hF _ _)]
  unfold Ledger_readLine Ledger_readLine_J20 Ledger_readLine_J35
  rw [ob_eq (peek_dead (show q < 2 ^ 31 by omega)), if_neg (show ¬ (-1 : Int32) = 63 by decide), if_pos rfl, ob_eq hl]
  dsimp only
  rw [if_pos rfl, if_pos (show (-1 : Int32) < 0 by decide)]
  unfold Ledger_readLine_J63
  rw [if_pos rfl, if_pos (m1_lt hn), if_pos (show (-1 : Int32) < 0 by decide)]
abbrev LdC7 := (Nat → Int32) × (Nat → Int32) × Int32 × Int32 × Int32 × Int32
abbrev LdR7 := Int32 × Int32 × Int32 × (Nat → Int32) × (Nat → Int32) × Int32 × Int32
theorem llines_ok (hT : TX bytes tape E) (hE : E ≤ 60) (hG : GoodG n nx) (hx : ∀ w, w < 12 → next w = nI (nx w)) (hx2 : ∀ w, w < 12 → nextTo w = nI (nx w)) (f v2 : Int32) : ∀ d i, E - i < d → i ≤ E → ∀ (k L : Nat) (ln : LnF) (A : Nat → Nat) (needs changes gF gT : Nat → Int32), rlS n nx ln k L A needs changes → reS n nx ln k gF gT →
    ∃ (rc : LdC7) (x rr : LdR7), lp (Ledger_read_L23 bytes (nI n) next) (nI k, needs, changes, nI L, nI E, nI i, 0) = some (.inl rc) ∧ Mo_readsMove nextTo (nI n) tape (nI i) (nI E) f gF gT (nI k) (nI L) = some x ∧ (x.1 = 0 ∨ x.1 = 1) ∧ lp (Mo_ledger_L49 v2 nextTo (nI n) tape (nI E)) x = some rr ∧
      ((¬ rc.2.2.2.2.2 = 0 ∧ rr.1 = 0 ∧ rr.2.2.1 = rc.2.2.2.2.2) ∨ (rc.2.2.2.2.2 = 0 ∧ rr.1 = 1 ∧ ∃ N L' ln' A', rlS n nx ln' N L' A' rc.1 rc.2.1 ∧ rc.2.2.1 = nI L' ∧ reS n nx ln' N rr.2.2.2.1 rr.2.2.2.2.1 ∧ rr.2.2.2.2.2.1 = nI N)) := by
  have n12 := hG.1
  intro d
  induction d with
  | zero => intro i h; omega
  | succ d ih =>
    intro i hd hi k L ln A needs changes gF gT hr hre
    have hk10 := hr.1.2.1
    have hk60 : nI k ≤ 60 := (nI_leN (b := 60) (by omega) (by decide)).mpr (by omega)
    rcases lline_ok hT hE hG hx hx2 hi hr hre f with ⟨q, F, needs', changes', lost', p', gF', gT', gm, lm, q1, q2, q3, q4⟩ | ⟨i', L', ln', A', needs', changes', gF', gT', hk, q1, q2, q3, q4, q5, q6⟩
    · refine ⟨_, _, (0, p', F, gF', gT', gm, lm), lp_inr (r := Sum.inl (needs', changes', lost', 0, nI q, F)) ?_, q4, Or.inl rfl, lp_inr ?_, Or.inl ⟨q3, rfl, rfl⟩⟩
      · unfold Ledger_read_L23
        dsimp only
        rw [if_pos hk60, ob_eq q2]
        dsimp only
        rw [if_neg q3]
      · unfold Mo_ledger_L49
        exact if_pos rfl
    · have e1 : nI i' + 1 = nI (i' + 1) := nI_ad i' 1
      have ek : nI k + 1 = nI (k + 1) := nI_ad k 1
      by_cases hiE : i' < E
      · have hiE' : nI i' < nI E := (nI_ltN (by omega) (by omega)).mpr hiE
        have hat : Tape_atEnd (nI E) (nI i') = some 0 := if_pos hiE'
        by_cases h59 : ch bytes E i' = 59
        · have htk : Tape_take bytes (nI E) (nI i') 0 59 = some (1, nI E, nI (i' + 1), 0) := by
            unfold Tape_take
            rw [ob_eq (peek_eq (bytes := bytes) hT.1 (show i' < 2 ^ 31 by omega)), if_pos h59, e1]
          have hts : Mo_takes tape (nI i') (nI E) f 59 = some (1, nI (i' + 1), f) := by
            unfold Mo_takes
            rw [ob_eq (here_eq hT (show i' < 2 ^ 31 by omega)), if_pos h59, e1]
          obtain ⟨rc, x, rr, c1, c2, c3, c4, c5⟩ := ih (i' + 1) (by omega) (by omega) (k + 1) L' ln' A' needs' changes' gF' gT' q5 q6
          refine ⟨rc, _, rr, lp_inl ?_ c1, q4, Or.inr rfl, lp_inl ?_ c4, c5⟩
          · unfold Ledger_read_L23
            dsimp only
            rw [if_pos hk60, ob_eq q3]
            dsimp only
            rw [if_pos rfl, ob_eq hat, if_pos rfl, ob_eq htk, ek]
          · unfold Mo_ledger_L49 Mo_ledger_L49_J84 Mo_ledger_L49_J85
            dsimp only
            rw [if_neg one_ne0, if_pos hiE', ob_eq hts]
            dsimp only
            rw [if_neg one_ne0, ob_eq c2]
            obtain ⟨x1, x2⟩ := x
            rcases c3 with z | z
            · have z : x1 = 0 := z
              subst z
              exact if_pos rfl
            · have z : x1 = 1 := z
              subst z
              exact if_neg one_ne0
        · have hF : ¬ flt 1 i' = 0 := flt_ne (by omega) (by omega)
          have htk : Tape_take bytes (nI E) (nI i') 0 59 = some (0, 0, nI i', flt 1 i') := by
            unfold Tape_take
            rw [ob_eq (peek_eq (bytes := bytes) hT.1 (show i' < 2 ^ 31 by omega)), if_neg h59, ob_eq (fail0 _ _ _)]; rfl
          have hts : Mo_takes tape (nI i') (nI E) f 59 = some (0, nI i', flt 1 i') := by
            unfold Mo_takes
            rw [ob_eq (here_eq hT (show i' < 2 ^ 31 by omega)), if_neg h59]; rfl
          refine ⟨_, _, (0, nI i', flt 1 i', gF', gT', nI (k + 1), nI L'), lp_inl (s' := (nI (k + 1), needs', changes', nI L', 0, nI i', flt 1 i')) ?_ (lp_inr (r := Sum.inl (needs', changes', nI L', 0, nI i', flt 1 i')) ?_), q4, Or.inr rfl, lp_inl (s' := (0, nI i', flt 1 i', gF', gT', nI (k + 1), nI L')) ?_ (lp_inr ?_), Or.inl ⟨hF, rfl, rfl⟩⟩
          · unfold Ledger_read_L23
            dsimp only
            rw [if_pos hk60, ob_eq q3]
            dsimp only
            rw [if_pos rfl, ob_eq hat, if_pos rfl, ob_eq htk, ek]
          · unfold Ledger_read_L23
            dsimp only
            rw [if_pos (show nI (k + 1) ≤ 60 from (nI_leN (b := 60) (by omega) (by decide)).mpr (by omega)), ob_eq (readLine_dead hF n12 (by omega))]
            dsimp only
            rw [if_neg hF]
          · unfold Mo_ledger_L49 Mo_ledger_L49_J84 Mo_ledger_L49_J85
            dsimp only
            rw [if_neg one_ne0, if_pos hiE', ob_eq hts]
            dsimp only
            rw [if_pos rfl]
          · unfold Mo_ledger_L49
            exact if_pos rfl
      · have hiE' : ¬ nI i' < nI E := fun z => hiE ((nI_ltN (by omega) (by omega)).mp z)
        have hat : Tape_atEnd (nI E) (nI i') = some 1 := if_neg hiE'
        refine ⟨_, _, (1, nI i', f, gF', gT', nI (k + 1), nI L'), lp_inr (r := Sum.inl (needs', changes', nI L', nI E, nI i', 0)) ?_, q4, Or.inr rfl, lp_inr ?_, Or.inr ⟨rfl, rfl, k + 1, L', ln', A', q5, rfl, q6, rfl⟩⟩
        · unfold Ledger_read_L23
          dsimp only
          rw [if_pos hk60, ob_eq q3]
          dsimp only
          rw [if_pos rfl, ob_eq hat, if_neg one_ne0]
        · unfold Mo_ledger_L49
          dsimp only
          rw [if_neg one_ne0, if_neg hiE']
/-- the answers -/
theorem lanswer {xs : List Int} (hx : oiB xs) (hl : xs.length < 2 ^ 31) {w' l' m' wr lr mr : Int32} (h : acI xs 0 2147483647 0 w' l' m') (h' : acR xs wr lr mr) : w' = wr ∧ ((w' = 0 ∧ lr = -2 ∧ mr = -2) ∨ (¬ w' = 0 ∧ l' = lr ∧ m' = mr)) := by
  obtain ⟨a1, a2, a3⟩ := h
  obtain ⟨b1, b2, b3⟩ := h'
  rw [Nat.zero_add] at a1
  refine ⟨a1.trans b1.symm, ?_⟩
  rcases b2 with ⟨z, z2⟩ | ⟨z, z2⟩
  · left
    rw [z] at a1 b3
    exact ⟨a1, z2, b3.trans (by decide)⟩
  · right
    have hpos : 0 < xs.length := List.length_pos_iff.mpr z
    refine ⟨fun e => ?_, a2.trans z2.symm, ?_⟩
    · rw [a1] at e
      have := (nI_inj (b := 0) hl (by omega)).mp e
      omega
    · rw [a3, b3]
      congr 1
      obtain ⟨c1, c2, c3⟩ := fold_max (xs := xs) (l := 0)
      obtain ⟨d1, d2, d3⟩ := fold_max (xs := xs) (l := -2)
      obtain ⟨x, hx2⟩ := List.exists_mem_of_length_pos hpos
      have e1 := hx x hx2
      have e2 := d2 x hx2
      have h1 : xs.foldl max 0 ≤ xs.foldl max (-2) := by
        rcases c3 with e | e
        · omega
        · exact d2 _ e
      have h2 : xs.foldl max (-2) ≤ xs.foldl max 0 := by
        rcases d3 with e | e
        · omega
        · exact c2 _ e
      omega
theorem ledger_ok (hG : GoodG n nx) (hx : ∀ w, w < 12 → next w = nI (nx w)) (hx2 : ∀ w, w < 12 → nextTo w = nI (nx w)) {jars space now : Nat → Int32} {len taped throne day draw : Int32} (en at_ fa : Int32) (h : RT bytes len tape taped) (hj : RJ jars space throne day draw now) (hb : BJ jars space throne day draw)
    (needs changes row : Nat → Int32) (lost thr0 ways least most pl l0 fm cm sm_ : Int32) (gF gT tried left mF mT tF tT : Nat → Int32) (gm lm mm wn le mo a1 a2 : Int32) :
    ∃ r l' y m' z, Dj_ledger bytes len en at_ fa (nI n) next jars throne needs changes row lost thr0 ways least most a1 a2 = some (r, l', y) ∧ Mo_ledger now nextTo (nI n) tape taped pl l0 fm cm sm_ gF gT tried left mF mT tF tT gm lm mm wn le mo a1 a2 = some (r, m', z) ∧ RT bytes l' tape m' := by
  have n12 := hG.1
  obtain ⟨k, hk, rfl, rfl, hbt⟩ := h
  have hR : RT bytes (nI k) tape (nI k) := ⟨k, hk, rfl, rfl, hbt⟩
  have hR0 : RT bytes 0 tape 0 := ⟨0, by omega, rfl, rfl, fun j hj => by omega⟩
  unfold Dj_ledger Mo_ledger
  by_cases g1 : a2 < 0
  · rw [if_pos g1]
    by_cases h1 : a1 < 1
    · rw [ob_eq (Mo_in_no1 h1), if_pos rfl]
      exact ⟨_, _, _, _, _, rfl, rfl, hR⟩
    · by_cases h2 : a1 ≤ 60
      · rw [ob_eq (Mo_in_yes h1 h2), if_neg one_ne0, ob_eq (Mo_in_no1 g1), if_pos rfl]
        exact ⟨_, _, _, _, _, rfl, rfl, hR⟩
      · rw [ob_eq (Mo_in_no2 h2), if_pos rfl]
        exact ⟨_, _, _, _, _, rfl, rfl, hR⟩
  rw [if_neg g1]
  by_cases g2 : a2 ≤ 2
  case neg =>
    rw [if_neg g2]
    by_cases h1 : a1 < 1
    · rw [ob_eq (Mo_in_no1 h1), if_pos rfl]
      exact ⟨_, _, _, _, _, rfl, rfl, hR⟩
    · by_cases h2 : a1 ≤ 60
      · rw [ob_eq (Mo_in_yes h1 h2), if_neg one_ne0, ob_eq (Mo_in_no2 g2), if_pos rfl]
        exact ⟨_, _, _, _, _, rfl, rfl, hR⟩
      · rw [ob_eq (Mo_in_no2 h2), if_pos rfl]
        exact ⟨_, _, _, _, _, rfl, rfl, hR⟩
  rw [if_pos g2]
  by_cases h1 : a1 < 1
  · rw [ob_eq (holds_no1 h1), ob_eq (Mo_in_no1 h1), if_pos rfl, if_pos rfl]
    exact ⟨_, _, _, _, _, rfl, rfl, hR⟩
  by_cases h2 : a1 ≤ 60
  case neg =>
    rw [ob_eq (holds_no2 h2), ob_eq (Mo_in_no2 h2), if_pos rfl, if_pos rfl]
    exact ⟨_, _, _, _, _, rfl, rfl, hR⟩
  obtain ⟨E, hE, rfl⟩ := nI_between (h := 60) (by decide) (fun z => h1 (Int32.lt_trans z (by decide))) h2
  have hE1 : 1 ≤ E := by
    rcases Nat.eq_zero_or_pos E with rfl | h
    · exact absurd (by decide) h1
    · exact h
  rw [ob_eq (Mo_in_yes h1 h2), if_neg one_ne0, ob_eq (Mo_in_yes g1 g2), if_neg one_ne0]
  by_cases h3 : nI E ≤ nI k
  case neg =>
    rw [ob_eq (holds_no3 h3), if_pos rfl, if_neg h3]
    exact ⟨_, _, _, _, _, rfl, rfl, hR⟩
  have h3' : E ≤ k := (nI_leN (by omega) (by omega)).mp h3
  have hT : TX bytes tape E := ⟨by omega, fun i hi => hbt i (by omega)⟩
  rw [ob_eq (holds_yes h1 h2 h3), if_neg one_ne0, if_pos h3, ob_eq (show Tape_begin (nI k) en at_ fa (nI E) = some (0, nI E, 0, 0) from rfl), ob_eq (show Mo_beginsText pl l0 cm sm_ (nI E) = some (0, nI E, 0, 0) from rfl)]
  obtain ⟨rc, x, rr, c1, c2, -, c4, c5⟩ := llines_ok hT hE hG hx hx2 fm a2 (E + 1) 0 (by omega) (by omega) 0 0 (fun _ => none) (fun i => i) (filled needs 0 48) (filled changes 0 48) gF gT (rl_start (fun i hi => ⟨if_pos hi, if_pos hi⟩)) (fun i hi => by omega)
  have hread : Ledger_read needs changes lost bytes (nI E) 0 0 (nI n) next = some rc := by
    unfold Ledger_read
    rw [ob_eq (Arrays_fill_eq (n := 48) (by omega) needs 0), ob_eq (Arrays_fill_eq (n := 48) (by omega) changes 0), ob_eq (show lp (Ledger_read_L23 bytes (nI n) next) (0, filled needs 0 48, filled changes 0 48, 0, nI E, 0, 0) = _ from c1)]
    rfl
  rw [ob_eq hread]
  dsimp only
  rw [ob_eq (show Mo_readsMove nextTo (nI n) tape 0 (nI E) fm gF gT 0 0 = some x from c2), ob_eq (show lp (Mo_ledger_L49 a2 nextTo (nI n) tape (nI E)) (x.1, x.2.1, x.2.2.1, x.2.2.2.1, x.2.2.2.2.1, x.2.2.2.2.2.1, x.2.2.2.2.2.2) = some rr from c4)]
  unfold Mo_ledger_J89
  rcases c5 with ⟨d1, d2, d3⟩ | ⟨d1, d2, N, L', ln', A', d3, d4, d5, d6⟩
  · rw [if_neg d1, if_pos d2, d3]
    exact ⟨_, _, _, _, _, rfl, rfl, hR0⟩
  · rw [if_pos d1, if_neg (by rw [d2]; exact one_ne0)]
    obtain ⟨b1, b2, ⟨thr, b3, b4⟩, b5, b6⟩ := id hb
    obtain ⟨j1, j2, j3, j4, j5⟩ := id hj
    -- the jars
    have hs : ∃ s : Nat → Int, stB s 40 ∧ ∀ w, w < 12 → jars w = iI (s w) := by
      have : ∀ w, ∃ z : Int, w < 12 → 0 ≤ z ∧ z ≤ 40 ∧ jars w = iI z := fun w => by
        by_cases hw : w < 12
        · obtain ⟨j, h1, h2⟩ := b1 w hw
          exact ⟨(j : Int), fun _ => ⟨by omega, by omega, by rw [iI_nat]; exact h2⟩⟩
        · exact ⟨0, fun z => absurd z hw⟩
      obtain ⟨s, hs⟩ := Classical.axiomOfChoice this
      exact ⟨s, fun w hw => ⟨(hs w hw).1, (hs w hw).2.1⟩, fun w hw => (hs w hw).2.2⟩
    obtain ⟨s, s1, s2⟩ := hs
    have hN10 := d3.1.2.1
    have hL3 := d3.1.1
    obtain ⟨mF', mT', m1, m2⟩ := listsMoves_ok hG hx2 mF mT mm
    obtain ⟨tried', left', tF', tT', wr, lr, mr, f1, f2⟩ := fillsR_ok (thr := thr) (now := now) hG d5 m2 hN10 b3 (by rw [j3, b4]) s1 (fun w hw => by rw [j1 w hw]; exact s2 w hw) tried left tF tT wn le mo
    obtain ⟨row', w', l', m', g3, g4⟩ := fillC_ok hG hx b3 d3.1 d3.2.1 s1 s2 row thr0 ways least most
    have hbd : oiB (ouL ln' (mvL n nx n) thr N 0 s) := fun x hx3 => by
      have := ou_bd b3 N 0 s 40 s1 x hx3
      omega
    have hlen : (ouL ln' (mvL n nx n) thr N 0 s).length < 2 ^ 31 := by
      have e1 := ou_len (ln := ln') (mvL_132 hG) (thr := thr) N 0 s
      rw [d3.2.2.2] at e1
      have e2 : 132 ^ L' ≤ 132 ^ 3 := Nat.pow_le_pow_right (by omega) hL3
      omega
    obtain ⟨k1, k2⟩ := lanswer hbd hlen g4 f2
    rw [d4, b4, ob_eq g3, ob_eq m1]
    dsimp only
    rw [d6, ob_eq f1]
    dsimp only
    by_cases z0 : a2 = 0
    · rw [if_pos z0, if_pos z0, k1]
      exact ⟨_, _, _, _, _, rfl, rfl, hR0⟩
    · rw [if_neg z0, if_neg z0]
      by_cases z1 : a2 = 1
      · rw [if_pos z1, if_pos z1]
        rcases k2 with ⟨y1, y2, y3⟩ | ⟨y1, y2, y3⟩
        · rw [if_pos y1, y2]
          exact ⟨_, _, _, _, _, rfl, rfl, hR0⟩
        · rw [if_neg y1, y2]
          exact ⟨_, _, _, _, _, rfl, rfl, hR0⟩
      · rw [if_neg z1, if_neg z1]
        rcases k2 with ⟨y1, y2, y3⟩ | ⟨y1, y2, y3⟩
        · rw [if_pos y1, y3]
          exact ⟨_, _, _, _, _, rfl, rfl, hR0⟩
        · rw [if_neg y1, y3]
          exact ⟨_, _, _, _, _, rfl, rfl, hR0⟩
end LDO
