/-! LAW -/
/-- a piece of code, in both -/
def Piece (code said : Nat → Int32) (p0 c0 c1 s : Nat) (term : Int32) (d1 : Nat) : Prop := ∃ P : Nat → Nat, P c0 = p0 ∧ Seg code said P c0 c1 ∧ code (P c1) = term ∧ P c1 < s ∧ DepS said c0 c1 0 d1
def RuleR (t : Nat) (kinds worths tests code letter from_ half to_ said : Nat → Int32) (s c : Nat) : Prop := ∃ p q f h e : Nat, kinds t = letter t ∧ (kinds t = 101 ∨ kinds t = 99 ∨ kinds t = 114 ∨ kinds t = 120) ∧ tests t = nI q ∧ half t = nI h ∧ to_ t = nI e ∧ h ≤ e ∧ e ≤ c ∧ Piece code said q h e s 4 100 ∧ (¬ kinds t = 120 → worths t = nI p ∧ from_ t = nI f ∧ f ≤ h ∧ Piece code said p f h s 3 1)
def LawR (r : Nat) (kinds worths tests code letter from_ half to_ said : Nat → Int32) (s c : Nat) : Prop := r ≤ 16 ∧ s ≤ 480 ∧ c ≤ 240 ∧ ∀ t, t < r → RuleR t kinds worths tests code letter from_ half to_ said s c
theorem piece_keep {code said code' said' : Nat → Int32} {p0 c0 c1 s s' : Nat} {term : Int32} {d1 : Nat} (h : Piece code said p0 c0 c1 s term d1) (hs : s ≤ s') (h1 : ∀ y, y < s → code' y = code y) (h2 : ∀ k, k < c1 → said' k = said k) : Piece code' said' p0 c0 c1 s' term d1 := by
  obtain ⟨P, a, b, c, d, e⟩ := h
  exact ⟨P, a, seg_keep b (fun y hy => h1 y (by omega)) h2 (fun _ _ => rfl), (h1 _ d).trans c, by omega, dep_keep e (fun k _ hk => h2 k hk)⟩
abbrev S14 : Type := Int32 × Int32 × Int32 × Int32 × Int32 × Int32 × Int32 × Int32 × (Nat → Int32) × (Nat → Int32) × (Nat → Int32) × (Nat → Int32) × (Nat → Int32) × (Nat → Int32)
section LW
variable {bytes tape : Nat → Int32} {E : Nat}
theorem cond_of {i : Nat} {f num op c w : Int32} {said waitsAt : Nat → Int32} {R : Int32 × S8} (hT : TX bytes tape E) (hi : i < 1000) (h : ch bytes E i = 40) (hR : L40To tape E (nI (i + 1), f, num, nI (0 + 1), c, nI (0 + 1), said, upd waitsAt 0 (nI (13 * 1048576))) R) : Mo_readsCondition tape (nI i) (nI E) f num op c w said waitsAt = some R := by
  obtain ⟨r, h1, h2⟩ := hR
  have hop : Mo_opens (nI i) f 0 0 waitsAt 13 = some (1, nI (i + 1), f, nI (0 + 1), nI (0 + 1), upd waitsAt 0 (nI (13 * 1048576))) := by
    unfold Mo_opens
    refine (if_neg (show ¬ (0 : Int32) = 6 by decide)).trans ((gd_eq (show ix 0 260 = true from rfl)).trans ?_)
    rw [show nI i + 1 = nI (i + 1) from nI_ad i 1, show (1048576 : Int32) * 13 = nI (13 * 1048576) from big 13]
    rfl
  unfold Mo_readsCondition
  exact (ob_eq (here_eq hT (by omega))).trans ((if_pos h).trans ((ob_eq hop).trans ((if_neg one_ne0).trans ((ob_eq h1).trans h2))))
theorem cond_bad {i : Nat} {f num op c w : Int32} {said waitsAt : Nat → Int32} (hT : TX bytes tape E) (hi : i < 1000) (h : ¬ ch bytes E i = 40) : Mo_readsCondition tape (nI i) (nI E) f num op c w said waitsAt = some (0, nI i, flt 1 i, num, op, c, w, said, waitsAt) := by
  unfold Mo_readsCondition
  exact (ob_eq (here_eq hT (by omega))).trans ((if_neg h).trans rfl)
/-- the class: a test in brackets on a dead tape -/
theorem br_dead {q s : Nat} {F : Int32} (hq : q < 1000) (hF : ¬ F = 0) {rt : (Nat → Int32) → Int32 → Int32 → Int32 → (Nat → Int32) → Int32 → Int32 → Option (Int32 × Int32 × Int32 × (Nat → Int32) × Int32)} (a1 : Int32) (code : Nat → Int32) : Law_readInBracketsO rt bytes 0 (nI q) F code (nI s) a1 = some (0, nI q, F, code, nI s) := by
  unfold Law_readInBracketsO
  exact (ob_eq (peek_dead (show q < 2 ^ 31 by omega))).trans ((if_neg (by decide)).trans ((ob_eq (failN hF _ _)).trans rfl))
theorem j120_eq {r : Nat} (hr : r < 16) {e p F : Int32} {kinds worths tests code : Nat → Int32} {s : Int32} {x2 : Int32 × Int32 × Int32 × (Nat → Int32) × Int32} {x3 : Int32 × (Nat → Int32) × Int32} (h1 : Law_readInBracketsO (Law_readTest 8) bytes e p F code s 0 = some x2) (h2 : Law_emit x2.2.2.2.1 x2.2.2.2.2 4 = some x3) :
    Law_readRule_J120 bytes e p F (nI r) kinds worths tests code s = some (x2.1, x2.2.1, x2.2.2.1, nI (r + 1), kinds, worths, upd tests r s, x3.2.1, x3.2.2) := by
  unfold Law_readRule_J120
  rw [gd_eq (ixN hr (by decide)), nI_clamp (by omega), show nI r + 1 = nI (r + 1) from nI_ad r 1]
  exact (ob_eq h1).trans ((ob_eq h2).trans rfl)
theorem j116_eq {r : Nat} (hr : r < 16) {p f num op c w : Int32} {said waitsAt letter from_ half to_ : Nat → Int32} {x2 : Int32 × S8} (h1 : Mo_readsCondition tape p (nI E) f num op c w said waitsAt = some x2) :
    Mo_readsRule_J116 tape p (nI E) f num op c w (nI r) said waitsAt letter from_ half to_ = if x2.1 = 0 then some (0, x2.2.1, x2.2.2.1, x2.2.2.2.1, x2.2.2.2.2.1, x2.2.2.2.2.2.1, x2.2.2.2.2.2.2.1, nI r, x2.2.2.2.2.2.2.2.1, x2.2.2.2.2.2.2.2.2, letter, from_, upd half r c, to_) else some (1, x2.2.1, x2.2.2.1, x2.2.2.2.1, x2.2.2.2.2.1, x2.2.2.2.2.2.1, x2.2.2.2.2.2.2.1, nI (r + 1), x2.2.2.2.2.2.2.2.1, x2.2.2.2.2.2.2.2.2, letter, from_, upd half r c, upd to_ r x2.2.2.2.2.2.1) := by
  unfold Mo_readsRule_J116
  rw [gd_eq (ixN hr (by decide)), nI_clamp (by omega), show nI r + 1 = nI (r + 1) from nI_ad r 1, ob_eq h1, gd_eq (ixN hr (by decide))]
/-- a rule behind its worth: both read its test -/
theorem rule_tail (hT : TX bytes tape E) (hE : E ≤ 240) {r i0 j c s s0 : Nat} (hr : r < 16) (hj : j ≤ E) (hij : i0 < j) (hs : s ≤ 2 * j) (hs0 : s + 2 * i0 + 1 ≤ s0 + 2 * j) (hc : c ≤ j) {kinds worths tests code letter from_ half to_ said waitsAt : Nat → Int32} (f num op w : Int32) :
    (∃ (q : Nat) (F r' : Int32) (tl : (Nat → Int32) × (Nat → Int32) × (Nat → Int32) × (Nat → Int32)) (s' : Nat), q < 1000 ∧ s' ≤ 640 ∧ Law_readRule_J120 bytes (nI E) (nI j) 0 (nI r) kinds worths tests code (nI s) = some (0, nI q, F, r', tl.1, tl.2.1, tl.2.2.1, tl.2.2.2, nI s') ∧ ¬ F = 0 ∧ ∃ x : S14, Mo_readsRule_J116 tape (nI j) (nI E) f num op (nI c) w (nI r) said waitsAt letter from_ half to_ = some x ∧ x.1 = 0 ∧ x.2.2.1 = F) ∨
    ∃ j' code' s' c' said' waits' num' op' w', Law_readRule_J120 bytes (nI E) (nI j) 0 (nI r) kinds worths tests code (nI s) = some (nI E, nI j', 0, nI (r + 1), kinds, worths, upd tests r (nI s), code', nI s') ∧ j < j' ∧ j' ≤ E ∧ s' + 2 * i0 ≤ s0 + 2 * j' ∧ s < s' ∧ c ≤ c' ∧ c' + j ≤ c + j' ∧ (∀ y, y < s → code' y = code y) ∧ (∀ k, k < c → said' k = said k) ∧ Piece code' said' s c c' s' 4 100 ∧
      Mo_readsRule_J116 tape (nI j) (nI E) f num op (nI c) w (nI r) said waitsAt letter from_ half to_ = some (1, nI j', f, num', op', nI c', w', nI (r + 1), said', waits', letter, from_, upd half r (nI c), upd to_ r (nI c')) := by
  by_cases h40 : ch bytes E j = 40
  · rcases br_spec hT hE (a := 0) (by omega) (readTest_spec hT hE 8 1 (by omega) (by omega)) (w := 0) (said0 := said) (waits0 := waitsAt) (f := f) (num0 := num) (code0 := code) (P0 := fun _ => s) hj hs hc (by omega) rfl h40 with ⟨q, F, code', s', hq, hs', g1, g2, R, g3, g4⟩ | ⟨j', code', s', c', P', said', waits', num', g1, g2, g3, g4, g5, g6, g7, g8, g9, g10, g11, g12, g12d, g13⟩
    · left
      obtain ⟨y, code2, s2, e1, e2⟩ := emit_any code' hs' 4
      have hcond := cond_of (op := op) (w := w) hT (show j < 1000 by omega) h40 g3
      exact ⟨q, F, _, (kinds, worths, upd tests r (nI s), code2), s2, hq, e2, j120_eq hr g1 e1, g2, _, (j116_eq hr hcond).trans (if_pos g4.1), rfl, g4.2⟩
    · right
      have he := emit_eq (code := code') (show s' < 640 by omega) 4
      have hcond := cond_of (op := op) (w := w) hT (show j < 1000 by omega) h40 (g13 _ (Or.inl ⟨rfl, rfl⟩))
      have hsP : s ≤ s' := by
        have := seg_up g12 (c' - c) c (by omega) (by omega)
        have := g8 c (Nat.le_refl _)
        omega
      refine ⟨j', upd code' s' 4, s' + 1, c', said', waits', num', _, _, j120_eq hr g1 he, g2, g3, by omega, by omega, g5, g6, fun y hy => (upd_ne (by omega)).trans (g9 y hy), g10, ⟨P', g8 c (Nat.le_refl _), seg_keep g12 (fun y hy => upd_ne (by omega)) (fun _ _ => rfl) (fun _ _ => rfl), by rw [g7, upd_at], by omega, g12d⟩, (j116_eq hr hcond).trans (if_neg one_ne0)⟩
  · left
    have hpk := peek_eq (bytes := bytes) hT.1 (show j < 2 ^ 31 by omega)
    have hb : Law_readInBracketsO (Law_readTest 8) bytes (nI E) (nI j) 0 code (nI s) 0 = some (0, nI j, flt 1 j, code, nI s) := by
      unfold Law_readInBracketsO
      exact (ob_eq hpk).trans ((if_neg h40).trans ((ob_eq (fail0 _ _ _)).trans rfl))
    have he := emit_eq (code := code) (show s < 640 by omega) 4
    exact ⟨j, flt 1 j, _, (kinds, worths, upd tests r (nI s), upd code s 4), s + 1, by omega, by omega, j120_eq hr hb he, flt_ne (by omega) (by omega), _, (j116_eq hr (cond_bad hT (by omega) h40)).trans (if_pos rfl), rfl, rfl⟩
theorem rule_both (hT : TX bytes tape E) (hE : E ≤ 240) {r i c s : Nat} (hi : i ≤ E) (hs : s ≤ 2 * i) (hc : c ≤ i) {kinds worths tests code letter from_ half to_ said waitsAt : Nat → Int32} (hL : LawR r kinds worths tests code letter from_ half to_ said s c) (f num op w : Int32) :
    (∃ (q : Nat) (F r' : Int32) (tl : (Nat → Int32) × (Nat → Int32) × (Nat → Int32) × (Nat → Int32)) (s' : Nat), q < 1000 ∧ s' ≤ 640 ∧ Law_readRule bytes (nI E) (nI i) 0 (nI r) kinds worths tests code (nI s) = some (0, nI q, F, r', tl.1, tl.2.1, tl.2.2.1, tl.2.2.2, nI s') ∧ ¬ F = 0 ∧ ∃ x : S14, Mo_readsRule tape (nI i) (nI E) f num op (nI c) w (nI r) said waitsAt letter from_ half to_ = some x ∧ x.1 = 0 ∧ x.2.2.1 = F) ∨
    ∃ j kinds' worths' tests' code' s' c' said' waits' num' op' w' letter' from' half' to', Law_readRule bytes (nI E) (nI i) 0 (nI r) kinds worths tests code (nI s) = some (nI E, nI j, 0, nI (r + 1), kinds', worths', tests', code', nI s') ∧ i < j ∧ j ≤ E ∧ s' ≤ 2 * j ∧ c' ≤ j ∧
      Mo_readsRule tape (nI i) (nI E) f num op (nI c) w (nI r) said waitsAt letter from_ half to_ = some (1, nI j, f, num', op', nI c', w', nI (r + 1), said', waits', letter', from', half', to') ∧ LawR (r + 1) kinds' worths' tests' code' letter' from' half' to' said' s' c' := by
  obtain ⟨l1, l2, l3, l4⟩ := hL
  have hpk := peek_eq (bytes := bytes) hT.1 (show i < 2 ^ 31 by omega)
  have hhr := here_eq hT (show i < 2 ^ 31 by omega)
  have e1 : nI i + 1 = nI (i + 1) := nI_ad i 1
  by_cases hl : ch bytes E i = 101 ∨ ch bytes E i = 99 ∨ ch bytes E i = 114 ∨ ch bytes E i = 120
  · have hiE : i < E := by
      rcases ch_cases hT i with z | ⟨z, -⟩
      · rw [z] at hl; exact absurd hl (by decide)
      · exact z
    have hto : Law_readRule bytes (nI E) (nI i) 0 (nI r) kinds worths tests code (nI s) = Law_readRule_J48 (ch bytes E i) bytes (nI E) (nI i) 0 (nI r) kinds worths tests code (nI s) := by
      unfold Law_readRule
      refine (ob_eq hpk).trans ?_
      rcases hl with h | h | h | h
      · exact if_pos h
      · exact (if_neg (by rw [h]; decide)).trans (if_pos h)
      · exact (if_neg (by rw [h]; decide)).trans ((if_neg (by rw [h]; decide)).trans (if_pos h))
      · exact (if_neg (by rw [h]; decide)).trans ((if_neg (by rw [h]; decide)).trans ((if_neg (by rw [h]; decide)).trans (if_pos h)))
    have hro : Mo_readsRule tape (nI i) (nI E) f num op (nI c) w (nI r) said waitsAt letter from_ half to_ = Mo_readsRule_J39 (ch bytes E i) tape (nI i) (nI E) f num op (nI c) w (nI r) said waitsAt letter from_ half to_ := by
      unfold Mo_readsRule
      refine (ob_eq hhr).trans ?_
      rcases hl with h | h | h | h
      · exact if_pos h
      · exact (if_neg (by rw [h]; decide)).trans (if_pos h)
      · exact (if_neg (by rw [h]; decide)).trans ((if_neg (by rw [h]; decide)).trans (if_pos h))
      · exact (if_neg (by rw [h]; decide)).trans ((if_neg (by rw [h]; decide)).trans ((if_neg (by rw [h]; decide)).trans (if_pos h)))
    by_cases hr : r < 16
    · have hr' : nI r < 16 := (nI_ltN (b := 16) (by omega) (by decide)).mpr hr
      have hrn : ¬ nI r = 16 := neN (b := 16) (by omega) (by decide) (by omega)
      -- old rules stay
      have old : ∀ {kd w1 t1 code' lt f1 h1 to1 said' : Nat → Int32} {s' c' : Nat}, s ≤ s' → c ≤ c' → (∀ t, t < r → kd t = kinds t ∧ w1 t = worths t ∧ t1 t = tests t ∧ lt t = letter t ∧ f1 t = from_ t ∧ h1 t = half t ∧ to1 t = to_ t) → (∀ y, y < s → code' y = code y) → (∀ k, k < c → said' k = said k) → ∀ t, t < r → RuleR t kd w1 t1 code' lt f1 h1 to1 said' s' c' := by
        intro kd w1 t1 code' lt f1 h1 to1 said' s' c' hss hcc hsame hcd hsd t ht
        obtain ⟨p, q, f', h, e, a1, a2, a3, a4, a5, a6, a7, a8, a9⟩ := l4 t ht
        obtain ⟨b1, b2, b3, b4, b5, b6, b7⟩ := hsame t ht
        refine ⟨p, q, f', h, e, by rw [b1, b4]; exact a1, by rw [b1]; exact a2, by rw [b3]; exact a3, by rw [b6]; exact a4, by rw [b7]; exact a5, a6, by omega, piece_keep a8 hss hcd (fun k hk => hsd k (by omega)), fun hx => ?_⟩
        rw [b1] at hx
        obtain ⟨d1, d2, d3, d4⟩ := a9 hx
        exact ⟨by rw [b2]; exact d1, by rw [b5]; exact d2, d3, piece_keep d4 hss hcd (fun k hk => hsd k (by omega))⟩
      by_cases hx : ch bytes E i = 120
      · have hcl : Law_readRule bytes (nI E) (nI i) 0 (nI r) kinds worths tests code (nI s) = Law_readRule_J120 bytes (nI E) (nI (i + 1)) 0 (nI r) (upd kinds r (ch bytes E i)) (upd worths r (nI s)) tests code (nI s) := by
          rw [hto]
          unfold Law_readRule_J48 Tape_skip
          rw [e1, if_pos hr', nI_clamp (show r < 2 ^ 31 by omega)]
          exact (ob_eq rfl).trans ((gd_eq (ixN hr (by decide))).trans ((gd_eq (ixN hr (by decide))).trans (if_pos hx)))
        have hrf : Mo_readsRule tape (nI i) (nI E) f num op (nI c) w (nI r) said waitsAt letter from_ half to_ = Mo_readsRule_J116 tape (nI (i + 1)) (nI E) f num 0 (nI c) 0 (nI r) said waitsAt (upd letter r (ch bytes E i)) (upd from_ r (nI c)) half to_ := by
          rw [hro]
          unfold Mo_readsRule_J39
          rw [e1, if_neg hrn, nI_clamp (show r < 2 ^ 31 by omega)]
          exact (gd_eq (ixN hr (by decide))).trans ((gd_eq (ixN hr (by decide))).trans (if_pos hx))
        rcases rule_tail hT hE (r := r) (i0 := i) (j := i + 1) (c := c) (s := s) (s0 := s) hr (by omega) (by omega) (by omega) (by omega) (by omega) (kinds := upd kinds r (ch bytes E i)) (worths := upd worths r (nI s)) (tests := tests) (code := code) (letter := upd letter r (ch bytes E i)) (from_ := upd from_ r (nI c)) (half := half) (to_ := to_) (said := said) (waitsAt := waitsAt) f num 0 0 with ⟨q, F, r', tl, s', g1, g2, g3, g4, x, g5, g6⟩ | ⟨j', code', s', c', said', waits', num', op', w', g1, g2, g3, g4, g5, g6, g7, g8, g9, g10, g11⟩
        · exact Or.inl ⟨q, F, r', tl, s', g1, g2, hcl.trans g3, g4, x, hrf.trans g5, g6⟩
        · right
          refine ⟨j', _, _, _, code', s', c', said', waits', num', op', w', _, _, _, _, hcl.trans g1, by omega, g3, by omega, by omega, hrf.trans g11, by omega, by omega, by omega, fun t ht => ?_⟩
          by_cases e : t = r
          · subst e
            refine ⟨0, s, 0, c, c', by rw [upd_at, upd_at], by rw [upd_at]; exact hl, upd_at _ _ _, upd_at _ _ _, upd_at _ _ _, g6, Nat.le_refl _, g10, fun z => absurd (by rw [upd_at]; exact hx) z⟩
          · exact old (show s ≤ s' by omega) g6 (fun t ht => ⟨upd_ne (by omega), upd_ne (by omega), upd_ne (by omega), upd_ne (by omega), upd_ne (by omega), upd_ne (by omega), upd_ne (by omega)⟩) g8 g9 t (by omega)
      · have hcl : ∀ {x4 : Int32 × Int32 × Int32 × (Nat → Int32) × Int32} {x5 : Int32 × (Nat → Int32) × Int32}, Law_readSum 8 bytes (nI E) (nI (i + 1)) 0 code (nI s) 0 = some x4 → Law_emit x4.2.2.2.1 x4.2.2.2.2 3 = some x5 → Law_readRule bytes (nI E) (nI i) 0 (nI r) kinds worths tests code (nI s) = Law_readRule_J120 bytes x4.1 x4.2.1 x4.2.2.1 (nI r) (upd kinds r (ch bytes E i)) (upd worths r (nI s)) tests x5.2.1 x5.2.2 := by
          intro x4 x5 h1 h2
          rw [hto]
          unfold Law_readRule_J48 Tape_skip
          rw [e1, if_pos hr', nI_clamp (show r < 2 ^ 31 by omega)]
          exact (ob_eq rfl).trans ((gd_eq (ixN hr (by decide))).trans ((gd_eq (ixN hr (by decide))).trans ((if_neg hx).trans ((ob_eq h1).trans ((ob_eq h2).trans rfl)))))
        have hrf : ∀ {x5 : Int32 × S8}, Mo_readsSum tape (nI (i + 1)) (nI E) f num 0 (nI c) 0 said waitsAt = some x5 → Mo_readsRule tape (nI i) (nI E) f num op (nI c) w (nI r) said waitsAt letter from_ half to_ = if x5.1 = 0 then (some (0, x5.2.1, x5.2.2.1, x5.2.2.2.1, x5.2.2.2.2.1, x5.2.2.2.2.2.1, x5.2.2.2.2.2.2.1, nI r, x5.2.2.2.2.2.2.2.1, x5.2.2.2.2.2.2.2.2, upd letter r (ch bytes E i), upd from_ r (nI c), half, to_)) else (Mo_readsRule_J116 tape x5.2.1 (nI E) x5.2.2.1 x5.2.2.2.1 x5.2.2.2.2.1 x5.2.2.2.2.2.1 x5.2.2.2.2.2.2.1 (nI r) x5.2.2.2.2.2.2.2.1 x5.2.2.2.2.2.2.2.2 (upd letter r (ch bytes E i)) (upd from_ r (nI c)) half to_) := by
          intro x5 h1
          rw [hro]
          unfold Mo_readsRule_J39
          rw [e1, if_neg hrn, nI_clamp (show r < 2 ^ 31 by omega)]
          exact (gd_eq (ixN hr (by decide))).trans ((gd_eq (ixN hr (by decide))).trans ((if_neg hx).trans (ob_eq h1)))
        rcases sum_both hT hE (a := 0) (by omega) (i := i + 1) (c := c) (s := s) (w := 0) (said := said) (waitsAt := waitsAt) (P := fun _ => s) (f := f) (num := num) (code := code) (by omega) (by omega) (by omega) (by omega) rfl (Or.inl rfl) with ⟨q, F, code', s', hq, hs', g1, g2, R, g3, g4⟩ | ⟨j, code1, s1, c1, P1, said1, waits1, num1, g1, g2, g3, g4, g5, g6, g7, g8, g9, g10, g11, g12, g12d, g13⟩
        · left
          obtain ⟨y, code2, s2, k1, k2⟩ := emit_any code' hs' 3
          obtain ⟨y3, code3, s3, k3, k4⟩ := emit_any code2 k2 4
          refine ⟨q, F, _, (upd kinds r (ch bytes E i), upd worths r (nI s), upd tests r (nI s2), code3), s3, hq, k4, (hcl g1 k1).trans (j120_eq hr (br_dead hq g2 0 code2) k3), g2, _, (hrf g3).trans (if_pos g4.1), rfl, g4.2⟩
        · have he := emit_eq (code := code1) (show s1 < 640 by omega) 3
          have hsP : s ≤ s1 := by
            have := seg_up g12 (c1 - c) c (by omega) (by omega)
            have : P1 c = s := g8 c (Nat.le_refl _)
            omega
          rcases rule_tail hT hE (r := r) (i0 := i) (j := j) (c := c1) (s := s1 + 1) (s0 := s) hr g3 (by omega) (by omega) (by omega) (by omega) (kinds := upd kinds r (ch bytes E i)) (worths := upd worths r (nI s)) (tests := tests) (code := upd code1 s1 3) (letter := upd letter r (ch bytes E i)) (from_ := upd from_ r (nI c)) (half := half) (to_ := to_) (said := said1) (waitsAt := waits1) f num1 (nI 0) (nI 0) with ⟨q, F, r', tl, s', k1, k2, k3, k4, x, k5, k6⟩ | ⟨j', code', s', c', said', waits', num', op', w', k1, k2, k3, k4, k5, k6, k7, k8, k9, k10, k11⟩
          · exact Or.inl ⟨q, F, r', tl, s', k1, k2, (hcl g1 he).trans k3, k4, x, ((hrf g13).trans (if_neg one_ne0)).trans k5, k6⟩
          · right
            refine ⟨j', _, _, _, code', s', c', said', waits', num', op', w', _, _, _, _, (hcl g1 he).trans k1, by omega, k3, by omega, by omega, ((hrf g13).trans (if_neg one_ne0)).trans k11, by omega, by omega, by omega, fun t ht => ?_⟩
            by_cases e : t = r
            · subst e
              refine ⟨s, s1 + 1, c, c1, c', by rw [upd_at, upd_at], by rw [upd_at]; exact hl, upd_at _ _ _, upd_at _ _ _, upd_at _ _ _, k6, Nat.le_refl _, k10, fun _ => ⟨upd_at _ _ _, upd_at _ _ _, g5, ?_⟩⟩
              exact piece_keep (s := s1 + 1) (code := upd code1 s1 3) (said := said1) ⟨P1, g8 c (Nat.le_refl _), seg_keep g12 (fun y hy => upd_ne (by omega)) (fun _ _ => rfl) (fun _ _ => rfl), by rw [g7, upd_at], by omega, g12d 0 (by omega)⟩ (by omega) k8 (fun k hk => k9 k hk)
            · exact old (show s ≤ s' by omega) (show c ≤ c' by omega) (fun t ht => ⟨upd_ne (by omega), upd_ne (by omega), upd_ne (by omega), upd_ne (by omega), upd_ne (by omega), upd_ne (by omega), upd_ne (by omega)⟩) (fun y hy => (k8 y (by omega)).trans ((upd_ne (by omega)).trans (g9 y hy))) (fun k hk => (k9 k (by omega)).trans (g10 k hk)) t (by omega)
    · left
      have er : r = 16 := by omega
      subst er
      refine ⟨i, flt 4 i, nI 16, (kinds, worths, tests, code), s, by omega, by omega, hto.trans ?_, flt_ne (by omega) (by omega), (0, nI i, flt 4 i, num, op, nI c, w, nI 16, said, waitsAt, letter, from_, half, to_), hro.trans (if_pos rfl), rfl, rfl⟩
      unfold Law_readRule_J48
      exact (if_neg (show ¬ (nI 16 : Int32) < 16 by decide)).trans ((ob_eq (fail0 _ _ _)).trans rfl)
  · left
    have n1 : ¬ ch bytes E i = 101 := fun z => hl (Or.inl z)
    have n2 : ¬ ch bytes E i = 99 := fun z => hl (Or.inr (Or.inl z))
    have n3 : ¬ ch bytes E i = 114 := fun z => hl (Or.inr (Or.inr (Or.inl z)))
    have n4 : ¬ ch bytes E i = 120 := fun z => hl (Or.inr (Or.inr (Or.inr z)))
    refine ⟨i, flt 1 i, nI r, (kinds, worths, tests, code), s, by omega, by omega, ?_, flt_ne (by omega) (by omega), (0, nI i, flt 1 i, num, op, nI c, w, nI r, said, waitsAt, letter, from_, half, to_), ?_, rfl, rfl⟩
    · unfold Law_readRule
      exact (ob_eq hpk).trans ((if_neg n1).trans ((if_neg n2).trans ((if_neg n3).trans ((if_neg n4).trans ((ob_eq (fail0 _ _ _)).trans rfl)))))
    · unfold Mo_readsRule
      exact (ob_eq hhr).trans ((if_neg n1).trans ((if_neg n2).trans ((if_neg n3).trans ((if_neg n4).trans rfl))))
end LW
