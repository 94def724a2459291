/-! A TEST, read by both -/
section TE
variable {bytes tape : Nat → Int32} {E : Nat} {rt : (Nat → Int32) → Int32 → Int32 → Int32 → (Nat → Int32) → Int32 → Int32 → Option (Int32 × Int32 × Int32 × (Nat → Int32) × Int32)}
theorem sum_dead {q s : Nat} {F : Int32} (hq : q < 1000) (hs : s ≤ 640) (hF : ¬ F = 0) (n : Nat) (a1 : Int32) (code : Nat → Int32) : ∃ code' s', s' ≤ 640 ∧ Law_readSum (n + 1) bytes 0 (nI q) F code (nI s) a1 = some (0, nI q, F, code', nI s') := by
  have hf : Law_readFactorO (Law_readSum n) bytes 0 (nI q) F code (nI s) a1 = some (0, nI q, F, code, nI s) := by
    unfold Law_readFactorO Law_readFactorO_J86
    exact (ob_eq (peek_dead (show q < 2 ^ 31 by omega))).trans ((if_neg (by decide)).trans ((ob_eq (isDigit_eq _)).trans ((if_pos rfl).trans ((if_pos (by decide)).trans ((if_pos (by decide)).trans ((ob_eq (failN hF _ _)).trans rfl))))))
  obtain ⟨r, code2, s2, k1, k2, k3⟩ := dead9 (rs := Law_readSum n) (bytes := bytes) hq (show 0 ≤ 240 by omega) hs hF a1 0 code
  refine ⟨code2, s2, k1, ?_⟩
  show Law_readSumO (Law_readSum n) bytes 0 (nI q) F code (nI s) a1 = _
  unfold Law_readSumO
  refine (ob_eq hf).trans ((ob_eq k2).trans ?_)
  rcases k3 with rfl | rfl <;> rfl
theorem test_spec (hT : TX bytes tape E) (hE : E ≤ 240) {a : Nat} (ha : a ≤ 6) (hrt : a < 6 → TestSpec bytes tape E rt (a + 1)) : TestSpec bytes tape E (Law_readTestO rt) a := by
  intro i c s w code said waitsAt P f num hi hs hc hw hw0 hP hN
  have hpk := peek_eq (bytes := bytes) hT.1 (show i < 2 ^ 31 by omega)
  have hdeep : a = 6 → ∀ {x}, Law_opens (nI E) (nI i) 0 (nI a) = x → x = some (0, 0, nI i, flt 5 i) := by
    intro e x hx
    rw [← hx, e]
    unfold Law_opens
    exact (if_neg (show ¬ (nI 6 : Int32) < 6 by decide)).trans ((ob_eq (fail0 _ _ _)).trans rfl)
  by_cases h40 : ch bytes E i = 40
  · have hto : ∀ {x : Int32 × Int32 × Int32 × (Nat → Int32) × Int32}, Law_readInBracketsO rt bytes (nI E) (nI i) 0 code (nI s) (nI a) = some x → Law_readTestO rt bytes (nI E) (nI i) 0 code (nI s) (nI a) = some x := by
      intro x hx
      unfold Law_readTestO
      exact (ob_eq hpk).trans ((if_pos h40).trans ((ob_eq hx).trans rfl))
    by_cases ha6 : a < 6
    · rcases br_spec hT hE ha6 (hrt ha6) (w := w) (said0 := said) (waits0 := waitsAt) (f := f) (num0 := num) hi hs hc hw hP h40 (code0 := code) with ⟨q, F, code', s', hq, hs', g1, g2, R, g3, g4⟩ | ⟨j, code', s', c', P', said', waitsAt', num', g1, g2, g3, g4, g5, g6, g7, g8, g9, g10, g11, g12, g12d, g13⟩
      · exact Or.inl ⟨q, F, code', s', hq, hs', hto g1, g2, R, l40_open hT (by omega) (by omega) (Or.inr ⟨h40, rfl⟩) ha6 g3, g4⟩
      · exact Or.inr ⟨j, code', s', c', P', said', waitsAt', num', hto g1, g2, g3, g4, g5, g6, g7, g8, g9, g10, g11, g12, g12d, fun R hR => l40_open hT (by omega) (by omega) (Or.inr ⟨h40, rfl⟩) ha6 (g13 R (Or.inr ⟨by omega, hR⟩))⟩
    · left
      have e : a = 6 := by omega
      refine ⟨i, flt 5 i, code, s, by omega, by omega, hto ?_, flt_ne (by omega) (by omega), (0, nI i, flt 5 i, num, nI 6, nI c, nI w, said, waitsAt), by rw [e]; exact l40_deep hT (by omega) (Or.inr h40), rfl, rfl⟩
      unfold Law_readInBracketsO
      exact (ob_eq hpk).trans ((if_pos h40).trans ((ob_eq (hdeep e rfl)).trans (if_pos rfl)))
  · by_cases h33 : ch bytes E i = 33
    · have hiE : i < E := by
        rcases ch_cases hT i with z | ⟨z, -⟩
        · rw [z] at h33; exact absurd h33 (by decide)
        · exact z
      by_cases ha6 : a < 6
      · have hop : Law_opens (nI E) (nI i) 0 (nI a) = some (1, nI E, nI (i + 1), 0) := by
          unfold Law_opens Tape_skip
          rw [if_pos (show nI a < 6 from (nI_ltN (b := 6) (by omega) (by decide)).mpr ha6), show nI i + 1 = nI (i + 1) from nI_ad i 1]; rfl
        have hto : ∀ {x : Int32 × Int32 × Int32 × (Nat → Int32) × Int32} {y : Int32 × (Nat → Int32) × Int32}, rt bytes (nI E) (nI (i + 1)) 0 code (nI s) (nI (a + 1)) = some x → Law_emit x.2.2.2.1 x.2.2.2.2 33 = some y → Law_readTestO rt bytes (nI E) (nI i) 0 code (nI s) (nI a) = some (x.1, x.2.1, x.2.2.1, y.2.1, y.2.2) := by
          intro x y hx hy
          unfold Law_readTestO
          refine (ob_eq hpk).trans ((if_neg h40).trans ((if_pos h33).trans ((ob_eq hop).trans ((if_neg one_ne0).trans ?_))))
          rw [show nI a + 1 = nI (a + 1) from nI_ad a 1]
          exact (ob_eq hx).trans ((ob_eq hy).trans rfl)
        have hN1 : NoSign (upd waitsAt w (nI (10 * 1048576))) (w + 1) := Or.inr ⟨10, 0, by decide, by omega, by omega, by rw [show w + 1 - 1 = w by omega, upd_at]⟩
        rcases hrt ha6 (i + 1) c s (w + 1) code said (upd waitsAt w (nI (10 * 1048576))) P f num (by omega) (by omega) (by omega) (by omega) (by omega) hP hN1 with ⟨q, F, code', s', hq, hs', g1, g2, R, g3, g4⟩ | ⟨j, code', s', c', P', said', waitsAt', num', g1, g2, g3, g4, g5, g6, g7, g8, g9, g10, g11, g12, g12d, g13⟩
        · left
          obtain ⟨y, code2, s2, e1, e2⟩ := emit_any code' hs' 33
          exact ⟨q, F, code2, s2, hq, e2, hto g1 e1, g2, R, l40_open hT (by omega) (by omega) (Or.inl ⟨h33, rfl⟩) ha6 g3, g4⟩
        · right
          have he := emit_eq (code := code') (show s' < 640 by omega) 33
          have h10 : waitsAt' w = nI (10 * 1048576) := (g11 w (by omega)).trans (upd_at _ _ _)
          have hsP : s ≤ s' := by
            have := seg_up g12 (c' - c) c (by omega) (by omega)
            have := g8 c (Nat.le_refl _)
            omega
          refine ⟨j, upd code' s' 33, s' + 1, c' + 1, ext P' c' (P' c' + wdN 10), upd said' c' (nI (10 * 1048576 + 0)), waitsAt', num', hto g1 he, by omega, g3, by omega, by omega, by omega, ?_, fun k hk => (ext_le (by omega)).trans (g8 k hk), fun y hy => (upd_ne (by omega)).trans (g9 y hy), fun k hk => (upd_ne (by omega)).trans (g10 k hk), fun y hy => (g11 y (by omega)).trans (upd_ne (by omega)), ?_, dep_app g5 (by omega) (dep_keep g12d (fun k _ hk => upd_ne (by omega))) (dep_one (kd := 10) (ar := 0) (by decide) (upd_at _ _ _) (Or.inr (Or.inr (Or.inr ⟨rfl, rfl, rfl⟩)))), fun R hR => l40_open hT (by omega) (by omega) (Or.inl ⟨h33, rfl⟩) ha6 (g13 R (afte_not (by omega) (by omega) (by omega) h10 hR))⟩
          · rw [ext_gt, g7]; rfl
          · refine seg_app (seg_keep g12 (fun y hy => upd_ne (by omega)) (fun k hk => upd_ne (by omega)) (fun k hk => ext_le hk)) (seg_one (by decide) ?_ (by decide) (by omega) (by omega)) (by omega)
            rw [g7, upd_at]; rfl
      · left
        have e : a = 6 := by omega
        refine ⟨i, flt 5 i, code, s, by omega, by omega, ?_, flt_ne (by omega) (by omega), (0, nI i, flt 5 i, num, nI 6, nI c, nI w, said, waitsAt), by rw [e]; exact l40_deep hT (by omega) (Or.inl h33), rfl, rfl⟩
        unfold Law_readTestO
        exact (ob_eq hpk).trans ((if_neg h40).trans ((if_pos h33).trans ((ob_eq (hdeep e rfl)).trans (if_pos rfl))))
    · -- two sums, compared
      have hcl : ∀ {x : Int32 × Int32 × Int32 × (Nat → Int32) × Int32} {r : Int32 × Int32 × Int32 × (Nat → Int32) × Int32}, Law_readSum 8 bytes (nI E) (nI i) 0 code (nI s) (nI a) = some x → (ob (Tape_peek bytes x.1 x.2.1) fun x8 =>
  if x8 = 60 then (Law_readTestO_J100 rt (nI a) x8 bytes x.1 x.2.1 x.2.2.1 x.2.2.2.1 x.2.2.2.2) else (if x8 = 62 then (Law_readTestO_J100 rt (nI a) x8 bytes x.1 x.2.1 x.2.2.1 x.2.2.2.1 x.2.2.2.2) else (if x8 = 61 then (Law_readTestO_J100 rt (nI a) x8 bytes x.1 x.2.1 x.2.2.1 x.2.2.2.1 x.2.2.2.2) else (ob (Tape_fail x.1 x.2.2.1 1 x.2.1) fun x9 =>
  some (x9.1, x.2.1, x9.2, x.2.2.2.1, x.2.2.2.2))))) = some r → Law_readTestO rt bytes (nI E) (nI i) 0 code (nI s) (nI a) = some r := by
        intro x r hx hr
        unfold Law_readTestO
        exact (ob_eq hpk).trans ((if_neg h40).trans ((if_neg h33).trans ((ob_eq hx).trans hr)))
      rcases sum_both hT hE ha (w := w) (said := said) (waitsAt := waitsAt) (f := f) (num := num) hi hs hc hw hP hN (code := code) with ⟨q, F, code', s', hq, hs', g1, g2, R, g3, g4⟩ | ⟨j, code1, s1, c1, P1, said1, waits1, num1, g1, g2, g3, g4, g5, g6, g7, g8, g9, g10, g11, g12, g12d, g13⟩
      · left
        refine ⟨q, F, code', s', hq, hs', hcl g1 ?_, g2, (0, R.2), (l40_cmp hT (by omega) h33 h40).1 R ?_ g4.1 rfl, rfl, g4.2⟩
        · exact (ob_eq (peek_dead (show q < 2 ^ 31 by omega))).trans ((if_neg (by decide)).trans ((if_neg (by decide)).trans ((if_neg (by decide)).trans ((ob_eq (failN g2 _ _)).trans rfl))))
        · have hz := g4.1
          obtain ⟨z, R2⟩ := R
          have hz : z = 0 := hz
          subst hz
          unfold Mo_readsCompared
          exact (ob_eq g3).trans (if_pos rfl)
      · have hpj := peek_eq (bytes := bytes) hT.1 (show j < 2 ^ 31 by omega)
        have hhj := here_eq hT (show j < 2 ^ 31 by omega)
        by_cases hcmp : ch bytes E j = 60 ∨ ch bytes E j = 62 ∨ ch bytes E j = 61
        · obtain ⟨kd, hkd⟩ : ∃ kd, (kd = 7 ∧ ch bytes E j = 60) ∨ (kd = 8 ∧ ch bytes E j = 62) ∨ (kd = 9 ∧ ch bytes E j = 61) := by
            rcases hcmp with h | h | h
            · exact ⟨7, Or.inl ⟨rfl, h⟩⟩
            · exact ⟨8, Or.inr (Or.inl ⟨rfl, h⟩)⟩
            · exact ⟨9, Or.inr (Or.inr ⟨rfl, h⟩)⟩
          have hsg : sgnT kd = ch bytes E j := by
            rcases hkd with ⟨rfl, h⟩ | ⟨rfl, h⟩ | ⟨rfl, h⟩ <;> (rw [h]; rfl)
          have hjE : j < E := by
            rcases ch_cases hT j with z | ⟨z, -⟩
            · rw [z] at hcmp; exact absurd hcmp (by decide)
            · exact z
          have hN1 : NoSign waits1 w := by
            rcases hN with z | ⟨kd, ar, n1, n2, n3, n4⟩
            · exact Or.inl z
            · exact Or.inr ⟨kd, ar, n1, n2, n3, (g11 _ (by omega)).trans n4⟩
          have hcl2 : ∀ {x : Int32 × Int32 × Int32 × (Nat → Int32) × Int32} {y : Int32 × (Nat → Int32) × Int32}, Law_readSum 8 bytes (nI E) (nI (j + 1)) 0 code1 (nI s1) (nI a) = some x → Law_emit x.2.2.2.1 x.2.2.2.2 (ch bytes E j) = some y → Law_readTestO rt bytes (nI E) (nI i) 0 code (nI s) (nI a) = some (x.1, x.2.1, x.2.2.1, y.2.1, y.2.2) := by
            intro x y hx hy
            refine hcl g1 ((ob_eq hpj).trans ?_)
            have hJ : Law_readTestO_J100 rt (nI a) (ch bytes E j) bytes (nI E) (nI j) 0 code1 (nI s1) = some (x.1, x.2.1, x.2.2.1, y.2.1, y.2.2) := by
              unfold Law_readTestO_J100 Tape_skip
              rw [show nI j + 1 = nI (j + 1) from nI_ad j 1]
              exact (ob_eq hx).trans ((ob_eq hy).trans rfl)
            rcases hcmp with h | h | h
            · exact (if_pos h).trans hJ
            · exact (if_neg (by rw [h]; decide)).trans ((if_pos h).trans hJ)
            · exact (if_neg (by rw [h]; decide)).trans ((if_neg (by rw [h]; decide)).trans ((if_pos h).trans hJ))
          have href : ∀ {x}, (ob (Mo_readsSum tape (nI (j + 1)) (nI E) f num1 (nI a) (nI c1) (nI w) said1 waits1) fun x3 =>
  if x3.1 = 0 then (some (0, x3.2.1, x3.2.2.1, x3.2.2.2.1, x3.2.2.2.2.1, x3.2.2.2.2.2.1, x3.2.2.2.2.2.2.1, x3.2.2.2.2.2.2.2.1, x3.2.2.2.2.2.2.2.2)) else (ob (Mo_notes x3.2.2.2.2.2.1 x3.2.2.2.2.2.2.2.1 (nI kd) 0) fun x4 =>
  ob (Mo_endsPiece x3.2.2.2.2.1 x4.1 x3.2.2.2.2.2.2.1 x4.2 x3.2.2.2.2.2.2.2.2) fun x5 =>
  some (1, x3.2.1, x3.2.2.1, x3.2.2.2.1, x5.1, x5.2.1, x5.2.2.1, x5.2.2.2, x3.2.2.2.2.2.2.2.2))) = some x → Mo_readsCompared tape (nI i) (nI E) f num (nI a) (nI c) (nI w) said waitsAt = some x := by
            intro x hx
            have hJ : Mo_readsCompared_J52 (nI kd) tape (nI j) (nI E) f num1 (nI a) (nI c1) (nI w) said1 waits1 = some x := by
              unfold Mo_readsCompared_J52
              rw [show nI j + 1 = nI (j + 1) from nI_ad j 1]
              exact (if_neg (fun z => nI_pos (show kd < 2 ^ 31 by omega) (by rw [z]; decide))).trans hx
            unfold Mo_readsCompared
            refine (ob_eq g13).trans ((if_neg one_ne0).trans ((ob_eq hhj).trans ?_))
            rcases hkd with ⟨rfl, h⟩ | ⟨rfl, h⟩ | ⟨rfl, h⟩
            · exact (if_pos h).trans hJ
            · exact (if_neg (by rw [h]; decide)).trans ((ob_eq hhj).trans ((if_pos h).trans hJ))
            · exact (if_neg (by rw [h]; decide)).trans ((ob_eq hhj).trans ((if_neg (by rw [h]; decide)).trans ((ob_eq hhj).trans ((if_pos h).trans hJ))))
          rcases sum_both hT hE ha (i := j + 1) (c := c1) (s := s1) (w := w) (said := said1) (waitsAt := waits1) (P := P1) (f := f) (num := num1) (code := code1) (by omega) (by omega) (by omega) (by omega) g7 hN1 with ⟨q, F, code', s', hq, hs', b1, b2, R, b3, b4⟩ | ⟨j2, code2, s2, c2, P2, said2, waits2, num2, b1, b2, b3, b4, b5, b6, b7, b8, b9, b10, b11, b12, b12d, b13⟩
          · left
            obtain ⟨y, code3, s3, e1, e2⟩ := emit_any code' hs' (ch bytes E j)
            refine ⟨q, F, code3, s3, hq, e2, hcl2 b1 e1, b2, (0, R.2), (l40_cmp hT (by omega) h33 h40).1 R (href ?_) b4.1 rfl, rfl, b4.2⟩
            have hz := b4.1
            obtain ⟨z, R2⟩ := R
            have hz : z = 0 := hz
            subst hz
            exact (ob_eq b3).trans (if_pos rfl)
          · right
            have he := emit_eq (code := code2) (show s2 < 640 by omega) (ch bytes E j)
            have hsP : s1 ≤ s2 := by
              have := seg_up b12 (c2 - c1) c1 (by omega) (by omega)
              have := b8 c1 (Nat.le_refl _)
              omega
            have hsP1 : s ≤ s1 := by
              have := seg_up g12 (c1 - c) c (by omega) (by omega)
              have := g8 c (Nat.le_refl _)
              omega
            refine ⟨j2, upd code2 s2 (ch bytes E j), s2 + 1, c2 + 1, ext P2 c2 (P2 c2 + wdN kd), upd said2 c2 (nI (kd * 1048576 + 0)), waits2, num2, hcl2 b1 he, by omega, b3, by omega, by omega, by omega, ?_, fun k hk => (ext_le (by omega)).trans ((b8 k (by omega)).trans (g8 k hk)), fun y hy => (upd_ne (by omega)).trans ((b9 y (by omega)).trans (g9 y hy)), fun k hk => (upd_ne (by omega)).trans ((b10 k (by omega)).trans (g10 k hk)), fun y hy => (b11 y hy).trans (g11 y hy), ?_, ?_, fun R hR => ?_⟩
            · rw [ext_gt, b7]
              rcases hkd with ⟨rfl, -⟩ | ⟨rfl, -⟩ | ⟨rfl, -⟩ <;> rfl
            · have k1 : Seg code2 said2 P2 c c1 := seg_keep g12 (fun y hy => b9 y (by omega)) (fun k hk => b10 k hk) (fun k hk => b8 k hk)
              refine seg_app (seg_keep (seg_app k1 b12 b5) (fun y hy => upd_ne (by omega)) (fun k hk => upd_ne (by omega)) (fun k hk => ext_le hk)) (seg_one (by decide) ?_ (by omega) (by omega) (by omega)) (by omega)
              rw [b7, upd_at, if_neg (by omega), if_neg (by omega)]; exact hsg.symm
            · refine dep_app (show c ≤ c2 by omega) (by omega) (dep_keep (dep_app g5 b5 (dep_keep (g12d 0 (by omega)) (fun k _ hk => b10 k hk)) (b12d 1 (by omega))) (fun k _ hk => upd_ne (by omega))) (dep_one (kd := kd) (ar := 0) (by decide) (upd_at _ _ _) (Or.inr (Or.inr (Or.inl ⟨by omega, by omega, rfl, rfl⟩))))
            · obtain ⟨z, z1, z2⟩ := hR
              refine (l40_cmp hT (by omega) h33 h40).2 _ _ _ _ _ _ _ _ (href ?_) z2
              refine (ob_eq b13).trans ((if_neg one_ne0).trans ((ob_eq (notes_eq (show c2 < 260 by omega) kd 0)).trans ?_))
              have z1' : Mo_endsPiece (nI a) (nI (c2 + 1)) (nI w) (upd said2 c2 (nI (kd * 1048576 + 0))) waits2 = some z := z1
              exact (ob_eq z1').trans rfl
        · left
          have n1 : ¬ ch bytes E j = 60 := fun z => hcmp (Or.inl z)
          have n2 : ¬ ch bytes E j = 62 := fun z => hcmp (Or.inr (Or.inl z))
          have n3 : ¬ ch bytes E j = 61 := fun z => hcmp (Or.inr (Or.inr z))
          refine ⟨j, flt 1 j, code1, s1, by omega, by omega, hcl g1 ?_, flt_ne (by omega) (by omega), (0, nI j, flt 1 j, num1, nI a, nI c1, nI w, said1, waits1), (l40_cmp hT (by omega) h33 h40).1 (0, nI j, flt 1 j, num1, nI a, nI c1, nI w, said1, waits1) ?_ rfl rfl, rfl, rfl⟩
          · exact (ob_eq hpj).trans ((if_neg n1).trans ((if_neg n2).trans ((if_neg n3).trans ((ob_eq (fail0 _ _ _)).trans rfl))))
          · unfold Mo_readsCompared Mo_readsCompared_J52
            exact (ob_eq g13).trans ((if_neg one_ne0).trans ((ob_eq hhj).trans ((if_neg n1).trans ((ob_eq hhj).trans ((if_neg n2).trans ((ob_eq hhj).trans ((if_neg n3).trans ((if_pos rfl).trans rfl))))))))
end TE
theorem readTest_spec {bytes tape : Nat → Int32} {E : Nat} (hT : TX bytes tape E) (hE : E ≤ 240) : ∀ n a, a ≤ 6 → 7 ≤ n + a → TestSpec bytes tape E (Law_readTest n) a := by
  intro n
  induction n with
  | zero => intro a h1 h2; omega
  | succ n ih =>
    intro a h1 h2
    exact test_spec hT hE h1 (fun h => ih (a + 1) (by omega) (by omega))
