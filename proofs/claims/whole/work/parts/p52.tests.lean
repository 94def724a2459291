/-! TESTS: the reference's side; jumps -/
abbrev S5 : Type := Int32 × Int32 × Int32 × Int32 × (Nat → Int32)
section TS
variable {bytes tape : Nat → Int32} {E : Nat}
/-- a sum that stands alone -/
theorem sum_both (hT : TX bytes tape E) (hE : E ≤ 240) {a : Nat} (ha : a ≤ 6) {i c s w : Nat} {code said waitsAt : Nat → Int32} {P : Nat → Nat} {f num : Int32} (hi : i ≤ E) (hs : s ≤ 2 * i) (hc : c ≤ i) (hw : w ≤ i) (hP : P c = s) (hN : NoSign waitsAt w) :
    (∃ q F code' s', q < 1000 ∧ s' ≤ 640 ∧ Law_readSum 8 bytes (nI E) (nI i) 0 code (nI s) (nI a) = some (0, nI q, F, code', nI s') ∧ ¬ F = 0 ∧ ∃ R, Mo_readsSum tape (nI i) (nI E) f num (nI a) (nI c) (nI w) said waitsAt = some R ∧ SBad F R) ∨
    ∃ j code' s' c' P' said' waitsAt' num', Law_readSum 8 bytes (nI E) (nI i) 0 code (nI s) (nI a) = some (nI E, nI j, 0, code', nI s') ∧ i < j ∧ j ≤ E ∧ s' + 2 * i ≤ s + 2 * j ∧ c ≤ c' ∧ c' + i ≤ c + j ∧ P' c' = s' ∧ (∀ k, k ≤ c → P' k = P k) ∧ (∀ y, y < s → code' y = code y) ∧ (∀ k, k < c → said' k = said k) ∧ (∀ y, y < w → waitsAt' y = waitsAt y) ∧ Seg code' said' P' c c' ∧ (∀ d, d + 2 * (6 - a) + 3 ≤ 20 → DepS said' c c' d (d + 1)) ∧
      Mo_readsSum tape (nI i) (nI E) f num (nI a) (nI c) (nI w) said waitsAt = some (1, nI j, f, num', nI a, nI c', nI w, said', waitsAt') := by
  rcases readSum_spec hT hE 8 a ha (by omega) i c s w w code said waitsAt P f num hi hs hc hw (Nat.le_refl _) hP hN with ⟨q, F, code', s', h1, h2, h3, h4, R, h5, h6⟩ | ⟨j, code', s', c', P', said', waitsAt', x, m, num', g1, g2, g3, g4, g5, g5', g6, g7, g8, g9, g10, g11, g12, g13, g14, g15, g15d, g16⟩
  · exact Or.inl ⟨q, F, code', s', h1, h2, h3, h4, R, sum_of h5, h6⟩
  · right
    have cx := cnt_le x
    have cm := cnt_le m
    have hNb : NoSign waitsAt' w := by
      rcases hN with z | ⟨kd, ar, n1, n2, n3, n4⟩
      · exact Or.inl z
      · rcases Nat.eq_zero_or_pos w with z | z
        · exact Or.inl z
        · exact Or.inr ⟨kd, ar, n1, n2, n3, (g13 _ (by omega)).trans n4⟩
    obtain ⟨P2, t1, t2, t3⟩ := seg_closed g5' g15 g7 g8 g9 g14.1 g14.2.1
    have hcl := closes1 (said := said') g14 hNb (show w + 2 ≤ 260 by omega) (show c' + 1 < 260 by omega)
    have hopen : Mo_hasOpenSum (nI (w + cnt x + cnt m)) waitsAt' (nI w) = some 0 := by
      refine hasOpen_no (by omega) (by omega) (fun y h1 h2 => ?_)
      obtain ⟨p1, p2, p3, p4⟩ := g14
      by_cases ex : x = 0
      · rw [ex, cnt_0, Nat.add_zero] at h2 p4
        have em : m ≠ 0 := fun z => by rw [z, cnt_0] at h2; omega
        have e : y = w := by omega
        subst e
        exact ⟨m, by omega, p4 em⟩
      · rw [cnt_1 ex] at h2 p4
        by_cases e : y = w
        · subst e; exact ⟨x, by omega, p3 ex⟩
        · have em : m ≠ 0 := fun z => by rw [z, cnt_0] at h2; omega
          have e2 : y = w + 1 := by omega
          subst e2
          exact ⟨m, by omega, p4 em⟩
    obtain ⟨j1, j2, j3, j4, j5⟩ := g4
    have hsj : Mo_sumSign (ch bytes E j) = some (-1) := by
      unfold Mo_sumSign
      rw [if_neg j4, if_neg j5, if_neg j1, if_neg j2, if_neg j3]
    have hend : L14To tape E (nI w) (nI j, f, num', nI a, nI c', nI (w + cnt x + cnt m), said', waitsAt') (1, nI j, f, num', nI a, nI (c' + cnt m + cnt x), nI w, note (note said' c' m) (c' + cnt m) x, waitsAt') := by
      refine ⟨.inr (nI j, f, num', nI a, nI c', nI (w + cnt x + cnt m), said', waitsAt'), lp_inr ?_, ?_⟩
      · unfold Mo_readsSum_L14
        refine (ob_eq (here_eq hT (by omega))).trans ((ob_eq hsj).trans ((if_pos rfl).trans ((ob_eq (here_eq hT (by omega))).trans ?_)))
        by_cases h93 : ch bytes E j = 93
        · exact (if_pos h93).trans ((ob_eq hopen).trans (if_pos rfl))
        · exact if_neg h93
      · show Mo_readsSum_J138 (nI w) tape (nI j) (nI E) f num' (nI a) (nI c') (nI (w + cnt x + cnt m)) said' waitsAt' = _
        unfold Mo_readsSum_J138
        exact (ob_eq hopen).trans ((if_pos rfl).trans ((ob_eq hcl).trans rfl))
    refine ⟨j, code', s', c' + cnt m + cnt x, P2, note (note said' c' m) (c' + cnt m) x, waitsAt', num', g1, g2, g3, g5, by omega, by omega, t2, fun k hk => (t3 k (by omega)).trans (g10 k hk), g11, fun k hk => ?_, g13, t1, fun d hd => dep_note (by omega) (dep_note (by omega) (g15d d (by omega)) (by have := g14.2.1; omega) (by omega) (by omega)) (by have := g14.1; omega) (by omega) (by omega), sum_of (g16 _ hend)⟩
    rw [note_lt (show k < c' + cnt m by omega), note_lt (show k < c' by omega)]; exact g12 k hk
noncomputable def postT (r : S8 ⊕ S8 ⊕ S8 ⊕ S8) : Option (Int32 × S8) :=
  sm r (fun x3 => some (0, x3.1, x3.2.1, x3.2.2.1, x3.2.2.2.1, x3.2.2.2.2.1, x3.2.2.2.2.2.1, x3.2.2.2.2.2.2.1, x3.2.2.2.2.2.2.2)) (fun x3 => sm x3 (fun x3 => some (0, x3.1, x3.2.1, x3.2.2.1, x3.2.2.2.1, x3.2.2.2.2.1, x3.2.2.2.2.2.1, x3.2.2.2.2.2.2.1, x3.2.2.2.2.2.2.2)) (fun x3 => sm x3 (fun x3 => some (1, x3.1, x3.2.1, x3.2.2.1, x3.2.2.2.1, x3.2.2.2.2.1, x3.2.2.2.2.2.1, x3.2.2.2.2.2.2.1, x3.2.2.2.2.2.2.2)) (fun x3 => ob (Mo_wrongAt x3.2.1 1 x3.1) fun x4 =>
  gd (isB x4.1) (some (x4.1, x3.1, x4.2, x3.2.2.1, x3.2.2.2.1, x3.2.2.2.2.1, x3.2.2.2.2.2.1, x3.2.2.2.2.2.2.1, x3.2.2.2.2.2.2.2)))))
def L40To (tape : Nat → Int32) (E : Nat) (st : S8) (R : Int32 × S8) : Prop := ∃ r, lp (Mo_readsCondition_L40 tape (nI E)) st = some r ∧ postT r = some R
noncomputable def contC (tape : Nat → Int32) (E : Nat) (f num : Int32) (waitsAt : Nat → Int32) (x4 : S5 ⊕ S5) : Option (S8 ⊕ S8 ⊕ S8 ⊕ S8 ⊕ S8) :=
  sm x4 (fun x4 => some (.inr (.inr (.inr (.inl (x4.1, f, num, x4.2.1, x4.2.2.1, x4.2.2.2.1, x4.2.2.2.2, waitsAt)))))) (fun x4 => ob (Mo_here tape x4.1 (nI E)) fun x5 =>
  if x5 = 38 then (Mo_readsCondition_L40_J180 tape x4.1 (nI E) f num x4.2.1 x4.2.2.1 x4.2.2.2.1 x4.2.2.2.2 waitsAt) else (ob (Mo_here tape x4.1 (nI E)) fun x6 =>
  if x6 = 124 then (Mo_readsCondition_L40_J180 tape x4.1 (nI E) f num x4.2.1 x4.2.2.1 x4.2.2.2.1 x4.2.2.2.2 waitsAt) else (some (.inr (.inr (.inr (.inr (x4.1, f, num, x4.2.1, x4.2.2.1, x4.2.2.2.1, x4.2.2.2.2, waitsAt))))))))
def AftC (tape : Nat → Int32) (E : Nat) (x : S5) (f num : Int32) (waitsAt : Nat → Int32) (R : Int32 × S8) : Prop := ∃ x4 y, lp (Mo_readsCondition_L92 tape (nI E) waitsAt) x = some x4 ∧ contC tape E f num waitsAt x4 = some y ∧ ((∃ s, y = .inl s ∧ L40To tape E s R) ∨ ∃ r, y = .inr r ∧ postT r = some R)
def AftE (tape : Nat → Int32) (E : Nat) (x : S5) (f num : Int32) (waitsAt : Nat → Int32) (R : Int32 × S8) : Prop := ∃ z, Mo_endsPiece x.2.1 x.2.2.1 x.2.2.2.1 x.2.2.2.2 waitsAt = some z ∧ AftC tape E (x.1, z.1, z.2.1, z.2.2.1, z.2.2.2) f num waitsAt R
/-- not: written when the piece ends -/
theorem afte_not {p : Int32} {a c w : Nat} {said waitsAt : Nat → Int32} {f num : Int32} {R : Int32 × S8} (ha : a < 1000) (hc : c < 260) (hw : w < 260) (h : waitsAt w = nI (10 * 1048576)) (hR : AftE tape E (p, nI a, nI (c + 1), nI w, upd said c (nI (10 * 1048576 + 0))) f num waitsAt R) : AftE tape E (p, nI (a + 1), nI c, nI (w + 1), said) f num waitsAt R := by
  obtain ⟨z, h1, h2⟩ := hR
  refine ⟨z, ?_, h2⟩
  have ht := top_sign (x := 10) hw (by decide) h
  have hstep : Mo_endsPiece_L0 waitsAt (nI (a + 1), nI c, nI (w + 1), said) = some (.inl (nI a, nI (c + 1), nI w, upd said c (nI (10 * 1048576 + 0)))) := by
    unfold Mo_endsPiece_L0
    refine (ob_eq ht).trans ((if_pos rfl).trans ((ob_eq (notes_eq hc 10 0)).trans ?_))
    show some (Sum.inl (nI (a + 1) - 1, nI (c + 1), nI (w + 1) - 1, upd said c (nI (10 * 1048576 + 0)))) = _
    rw [show nI (a + 1) - 1 = nI a from nI_subN (b := 1) (by omega), show nI (w + 1) - 1 = nI w from nI_subN (b := 1) (by omega)]
  have h1' : Mo_endsPiece (nI a) (nI (c + 1)) (nI w) (upd said c (nI (10 * 1048576 + 0))) waitsAt = some z := h1
  show Mo_endsPiece (nI (a + 1)) (nI c) (nI (w + 1)) said waitsAt = some z
  unfold Mo_endsPiece at h1' ⊢
  cases hl : lp (Mo_endsPiece_L0 waitsAt) (nI a, nI (c + 1), nI w, upd said c (nI (10 * 1048576 + 0))) with
  | none => rw [hl] at h1'; cases h1'
  | some y =>
    rw [hl] at h1'
    rw [lp_inl hstep hl]
    exact h1'
/-- at the top: kind kd -/
def TopK (waitsAt : Nat → Int32) (w kd : Nat) : Prop := 0 < w ∧ ∃ ar, ar < 1048576 ∧ waitsAt (w - 1) = nI (kd * 1048576 + ar)
theorem topK {waitsAt : Nat → Int32} {w kd : Nat} (hw : w ≤ 260) (hk : kd < 20) (h : TopK waitsAt w kd) : Mo_waitTop (nI w) waitsAt = some (nI kd) := by
  obtain ⟨h0, ar, h1, h2⟩ := h
  have := waitTop_eq (w := w - 1) (by omega) h2 hk h1
  rw [show w - 1 + 1 = w by omega] at this
  exact this
theorem afte_none {p op c : Int32} {w kd : Nat} {said waitsAt : Nat → Int32} {f num : Int32} {R : Int32 × S8} (hw : w ≤ 260) (hk : kd < 20) (h : TopK waitsAt w kd) (hn : kd ≠ 10) (hR : AftC tape E (p, op, c, nI w, said) f num waitsAt R) : AftE tape E (p, op, c, nI w, said) f num waitsAt R := by
  refine ⟨(op, c, nI w, said), ?_, hR⟩
  show Mo_endsPiece op c (nI w) said waitsAt = _
  unfold Mo_endsPiece
  refine (ob_eq (a := (op, c, nI w, said)) (lp_inr ?_)).trans rfl
  unfold Mo_endsPiece_L0
  exact (ob_eq (topK hw hk h)).trans (if_neg (show ¬ nI kd = 10 from neN (b := 10) (by omega) (by decide) hn))
/-- the reference behind ')' -/
theorem aftc_close {j a w : Nat} {c W : Int32} {said said' waitsAt : Nat → Int32} {f num : Int32} {R : Int32 × S8} (hT : TX bytes tape E) (hj : j < 1000) (ha : a < 1000) (hw : w < 260) (h41 : ch bytes E j = 41) (hl : Mo_lands c W said waitsAt 1 = some (nI (w + 1), said')) (h0 : w ≠ 0) (hR : AftE tape E (nI (j + 1), nI a, c, nI w, said') f num waitsAt R) : AftC tape E (nI j, nI (a + 1), c, W, said) f num waitsAt R := by
  obtain ⟨z, h1, x4, y, h2, h3, h4⟩ := hR
  refine ⟨x4, y, lp_inl ?_ h2, h3, h4⟩
  have h1' : Mo_endsPiece (nI a) c (nI w) said' waitsAt = some z := h1
  unfold Mo_readsCondition_L92
  refine (ob_eq (here_eq hT (by omega))).trans ((if_pos h41).trans ((ob_eq hl).trans ?_))
  show (if nI (w + 1) - 1 = 0 then _ else (ob (Mo_endsPiece (nI (a + 1) - 1) c (nI (w + 1) - 1) said' waitsAt) fun x3 => some (Sum.inl (nI j + 1, x3.1, x3.2.1, x3.2.2.1, x3.2.2.2)))) = _
  rw [show nI (a + 1) - 1 = nI a from nI_subN (b := 1) (by omega), show nI (w + 1) - 1 = nI w from nI_subN (b := 1) (by omega), if_neg (ne0N (by omega) h0), ob_eq h1', show nI j + 1 = nI (j + 1) from nI_ad j 1]
theorem aftc_done {j a : Nat} {c W : Int32} {said said' waitsAt : Nat → Int32} {f num : Int32} (hT : TX bytes tape E) (hj : j < 1000) (ha : a < 1000) (h41 : ch bytes E j = 41) (hl : Mo_lands c W said waitsAt 1 = some (nI (0 + 1), said')) : AftC tape E (nI j, nI (a + 1), c, W, said) f num waitsAt (1, nI (j + 1), f, num, nI a, c, nI 0, said', waitsAt) := by
  refine ⟨.inl (nI (j + 1), nI a, c, nI 0, said'), .inr (.inr (.inr (.inl (nI (j + 1), f, num, nI a, c, nI 0, said', waitsAt)))), lp_inr ?_, rfl, Or.inr ⟨_, rfl, rfl⟩⟩
  unfold Mo_readsCondition_L92
  refine (ob_eq (here_eq hT (by omega))).trans ((if_pos h41).trans ((ob_eq hl).trans ?_))
  show (if nI (0 + 1) - 1 = 0 then (some (Sum.inr (Sum.inl (nI j + 1, nI (a + 1) - 1, c, nI (0 + 1) - 1, said')))) else _) = _
  rw [show nI (a + 1) - 1 = nI a from nI_subN (b := 1) (by omega), show nI (0 + 1) - 1 = nI 0 from rfl, if_pos (show nI 0 = 0 from rfl), show nI j + 1 = nI (j + 1) from nI_ad j 1]
theorem l92_exit {j : Nat} {op c W : Int32} {said waitsAt : Nat → Int32} (hT : TX bytes tape E) (hj : j < 1000) (h41 : ¬ ch bytes E j = 41) : lp (Mo_readsCondition_L92 tape (nI E) waitsAt) (nI j, op, c, W, said) = some (.inr (nI j, op, c, W, said)) := by
  refine lp_inr ?_
  unfold Mo_readsCondition_L92
  exact (ob_eq (here_eq hT (by omega))).trans (if_neg h41)
theorem aftc_jump {j c w kd : Nat} {op W : Int32} {said said' waitsAt : Nat → Int32} {f num : Int32} {R : Int32 × S8} (hT : TX bytes tape E) (hj : j < 1000) (hw : w < 260) (hc : c < 260) (h : (ch bytes E j = 38 ∧ kd = 11) ∨ (ch bytes E j = 124 ∧ kd = 12)) (hl : Mo_lands (nI c) W said waitsAt (if kd = 12 then 1 else 0) = some (nI w, said'))
    (hR : L40To tape E (nI (j + 1), f, num, op, nI (c + 1), nI (w + 1), upd said' c (nI (kd * 1048576 + 0)), upd waitsAt w (nI (kd * 1048576 + c))) R) : AftC tape E (nI j, op, nI c, W, said) f num waitsAt R := by
  have hhere := here_eq hT (show j < 2 ^ 31 by omega)
  have hjmp : Mo_jumps (nI j) (nI c) (nI w) said' waitsAt (nI kd) = some (nI (j + 1), nI (c + 1), nI (w + 1), upd said' c (nI (kd * 1048576 + 0)), upd waitsAt w (nI (kd * 1048576 + c))) := by
    unfold Mo_jumps
    refine (gd_eq (ixN hw (by decide))).trans ((ob_eq (notes_eq hc kd 0)).trans ?_)
    show some (nI j + 1, nI (c + 1), nI w + 1, upd said' c (nI (kd * 1048576 + 0)), upd waitsAt (nI w).toNatClampNeg ((1048576 : Int32) * nI kd + nI c)) = _
    rw [show nI j + 1 = nI (j + 1) from nI_ad j 1, show nI w + 1 = nI (w + 1) from nI_ad w 1, nI_clamp (by omega), big, nI_ad]
  have hJ : Mo_readsCondition_L40_J180 tape (nI j) (nI E) f num op (nI c) W said waitsAt = some (.inl (nI (j + 1), f, num, op, nI (c + 1), nI (w + 1), upd said' c (nI (kd * 1048576 + 0)), upd waitsAt w (nI (kd * 1048576 + c)))) := by
    unfold Mo_readsCondition_L40_J180 Mo_readsCondition_L40_J195 Mo_readsCondition_L40_J215
    refine (ob_eq hhere).trans ?_
    rcases h with ⟨h1, rfl⟩ | ⟨h1, rfl⟩
    · exact (if_neg (by rw [h1]; decide)).trans ((ob_eq hl).trans ((ob_eq hhere).trans ((if_pos h1).trans ((ob_eq hjmp).trans rfl))))
    · exact (if_pos h1).trans ((ob_eq hl).trans ((ob_eq hhere).trans ((if_neg (by rw [h1]; decide)).trans ((ob_eq hjmp).trans rfl))))
  refine ⟨.inr (nI j, op, nI c, W, said), _, l92_exit hT hj (by rcases h with ⟨h1, -⟩ | ⟨h1, -⟩ <;> (rw [h1]; decide)), ?_, Or.inl ⟨_, rfl, hR⟩⟩
  show (ob (Mo_here tape (nI j) (nI E)) fun x5 => _) = _
  refine (ob_eq hhere).trans ?_
  rcases h with ⟨h1, -⟩ | ⟨h1, -⟩
  · exact (if_pos h1).trans hJ
  · exact (if_neg (by rw [h1]; decide)).trans ((ob_eq hhere).trans ((if_pos h1).trans hJ))
theorem aftc_bad {j : Nat} {op c W : Int32} {said waitsAt : Nat → Int32} {f num : Int32} (hT : TX bytes tape E) (hj : j < 1000) (h1 : ¬ ch bytes E j = 41) (h2 : ¬ ch bytes E j = 38) (h3 : ¬ ch bytes E j = 124) : AftC tape E (nI j, op, c, W, said) f num waitsAt (0, nI j, flt 1 j, num, op, c, W, said, waitsAt) := by
  have hhere := here_eq hT (show j < 2 ^ 31 by omega)
  refine ⟨.inr (nI j, op, c, W, said), .inr (.inr (.inr (.inr (nI j, f, num, op, c, W, said, waitsAt)))), l92_exit hT hj h1, ?_, Or.inr ⟨_, rfl, rfl⟩⟩
  show (ob (Mo_here tape (nI j) (nI E)) fun x5 => _) = _
  exact (ob_eq hhere).trans ((if_neg h2).trans ((ob_eq hhere).trans (if_neg h3)))
/-- opening: '!' or '(' -/
theorem l40_open {i a w kd : Nat} {c : Int32} {said waitsAt : Nat → Int32} {f num : Int32} {R : Int32 × S8} (hT : TX bytes tape E) (hi : i < 1000) (hw : w < 260) (h : (ch bytes E i = 33 ∧ kd = 10) ∨ (ch bytes E i = 40 ∧ kd = 13)) (ha : a < 6) (hR : L40To tape E (nI (i + 1), f, num, nI (a + 1), c, nI (w + 1), said, upd waitsAt w (nI (kd * 1048576))) R) : L40To tape E (nI i, f, num, nI a, c, nI w, said, waitsAt) R := by
  obtain ⟨r, h1, h2⟩ := hR
  refine ⟨r, lp_inl ?_ h1, h2⟩
  have hhere := here_eq hT (show i < 2 ^ 31 by omega)
  have hop : Mo_opens (nI i) f (nI a) (nI w) waitsAt (nI kd) = some (1, nI (i + 1), f, nI (a + 1), nI (w + 1), upd waitsAt w (nI (kd * 1048576))) := by
    unfold Mo_opens
    rw [if_neg (show ¬ nI a = 6 from neN (b := 6) (by omega) (by decide) (by omega)), gd_eq (ixN hw (by decide)), nI_clamp (by omega), show nI i + 1 = nI (i + 1) from nI_ad i 1, show nI a + 1 = nI (a + 1) from nI_ad a 1, show nI w + 1 = nI (w + 1) from nI_ad w 1, big]
  unfold Mo_readsCondition_L40 Mo_readsCondition_L40_J58 Mo_readsCondition_L40_J75
  refine (ob_eq hhere).trans ?_
  rcases h with ⟨h3, rfl⟩ | ⟨h3, rfl⟩
  · exact (if_pos h3).trans ((ob_eq hhere).trans ((if_pos h3).trans ((ob_eq hop).trans (if_neg one_ne0))))
  · exact (if_neg (by rw [h3]; decide)).trans ((ob_eq hhere).trans ((if_pos h3).trans ((ob_eq hhere).trans ((if_neg (by rw [h3]; decide)).trans ((ob_eq hop).trans (if_neg one_ne0))))))
theorem l40_deep {i : Nat} {c W : Int32} {said waitsAt : Nat → Int32} {f num : Int32} (hT : TX bytes tape E) (hi : i < 1000) (h : ch bytes E i = 33 ∨ ch bytes E i = 40) : L40To tape E (nI i, f, num, nI 6, c, W, said, waitsAt) (0, nI i, flt 5 i, num, nI 6, c, W, said, waitsAt) := by
  have hhere := here_eq hT (show i < 2 ^ 31 by omega)
  have hop : ∀ y : Int32, Mo_opens (nI i) f (nI 6) W waitsAt y = some (0, nI i, flt 5 i, nI 6, W, waitsAt) := fun y => by
    unfold Mo_opens
    exact if_pos rfl
  refine ⟨.inl (nI i, flt 5 i, num, nI 6, c, W, said, waitsAt), lp_inr ?_, rfl⟩
  unfold Mo_readsCondition_L40 Mo_readsCondition_L40_J58 Mo_readsCondition_L40_J75
  refine (ob_eq hhere).trans ?_
  rcases h with h3 | h3
  · exact (if_pos h3).trans ((ob_eq hhere).trans ((if_pos h3).trans ((ob_eq (hop _)).trans (if_pos rfl))))
  · exact (if_neg (by rw [h3]; decide)).trans ((ob_eq hhere).trans ((if_pos h3).trans ((ob_eq hhere).trans ((if_neg (by rw [h3]; decide)).trans ((ob_eq (hop _)).trans (if_pos rfl))))))
/-- a piece that compares -/
theorem l40_cmp {i : Nat} {op c w : Int32} {said waitsAt : Nat → Int32} {f num : Int32} {R : Int32 × S8} (hT : TX bytes tape E) (hi : i < 1000) (h1 : ¬ ch bytes E i = 33) (h2 : ¬ ch bytes E i = 40) :
    (∀ x, Mo_readsCompared tape (nI i) (nI E) f num op c w said waitsAt = some x → x.1 = 0 → R = (0, x.2) → L40To tape E (nI i, f, num, op, c, w, said, waitsAt) R) ∧
    ∀ p f' num' op' c' w' said' waits', Mo_readsCompared tape (nI i) (nI E) f num op c w said waitsAt = some (1, p, f', num', op', c', w', said', waits') → AftC tape E (p, op', c', w', said') f' num' waits' R → L40To tape E (nI i, f, num, op, c, w, said, waitsAt) R := by
  have hhere := here_eq hT (show i < 2 ^ 31 by omega)
  constructor
  · intro x hx h0 hR
    refine ⟨.inr (.inl x.2), lp_inr ?_, ?_⟩
    · unfold Mo_readsCondition_L40
      exact (ob_eq hhere).trans ((if_neg h1).trans ((ob_eq hhere).trans ((if_neg h2).trans ((ob_eq hx).trans (if_pos h0)))))
    · rw [hR]; rfl
  · intro p f' num' op' c' w' said' waits' hx ⟨x4, y, a1, a2, a3⟩
    have hstep : Mo_readsCondition_L40 tape (nI E) (nI i, f, num, op, c, w, said, waitsAt) = some y := by
      unfold Mo_readsCondition_L40
      exact (ob_eq hhere).trans ((if_neg h1).trans ((ob_eq hhere).trans ((if_neg h2).trans ((ob_eq hx).trans ((if_neg one_ne0).trans ((ob_eq a1).trans a2))))))
    rcases a3 with ⟨s, rfl, r, b1, b2⟩ | ⟨r, rfl, b2⟩
    · exact ⟨r, lp_inl hstep b1, b2⟩
    · exact ⟨r, lp_inr hstep, b2⟩
end TS
/-! JUMPS that wait -/
def Jmp (code said : Nat → Int32) (P : Nat → Nat) (k kd : Nat) : Prop := said k = nI (kd * 1048576 + 0) ∧ P (k + 1) = P k + 2 ∧ code (P k) = (if kd = 11 then 38 else 124)
/-- pa - 1 and po - 1: the jumps that wait (0: none) -/
def SegX (code said : Nat → Int32) (P : Nat → Nat) (a b pa po : Nat) : Prop := ∀ k, a ≤ k → k < b → (k + 1 = pa → Jmp code said P k 11) ∧ (k + 1 = po → Jmp code said P k 12) ∧ (k + 1 ≠ pa → k + 1 ≠ po → Ins code said P b k)
theorem segX_of {code said : Nat → Int32} {P : Nat → Nat} {a b : Nat} (h : Seg code said P a b) : SegX code said P a b 0 0 := fun k h1 h2 => ⟨fun z => by omega, fun z => by omega, fun _ _ => h k h1 h2⟩
theorem segX_seg {code said : Nat → Int32} {P : Nat → Nat} {a b : Nat} (h : SegX code said P a b 0 0) : Seg code said P a b := fun k h1 h2 => (h k h1 h2).2.2 (by omega) (by omega)
theorem segX_step {code said : Nat → Int32} {P : Nat → Nat} {a b pa po : Nat} (h : SegX code said P a b pa po) {k : Nat} (h1 : a ≤ k) (h2 : k < b) : P k < P (k + 1) := by
  by_cases e1 : k + 1 = pa
  · have := ((h k h1 h2).1 e1).2.1; omega
  · by_cases e2 : k + 1 = po
    · have := ((h k h1 h2).2.1 e2).2.1; omega
    · exact ins_step ((h k h1 h2).2.2 e1 e2)
theorem segX_up {code said : Nat → Int32} {P : Nat → Nat} {a b pa po : Nat} (h : SegX code said P a b pa po) : ∀ m k, a ≤ k → k + m = b → P k + m ≤ P b := by
  intro m
  induction m with
  | zero => intro k h1 h2; have : k = b := by omega
            subst this; omega
  | succ m ih =>
    intro k h1 h2
    have := ih (k + 1) (by omega) (by omega)
    have := segX_step h h1 (show k < b by omega)
    omega
theorem jmp_keep {code said code' said' : Nat → Int32} {P P' : Nat → Nat} {k kd b : Nat} (hk : k < b) (h : Jmp code said P k kd) (hc : code' (P k) = code (P k)) (hs : said' k = said k) (hp : ∀ j, j ≤ b → P' j = P j) : Jmp code' said' P' k kd := by
  obtain ⟨h1, h2, h3⟩ := h
  refine ⟨by rw [hs]; exact h1, by rw [hp k (by omega), hp (k + 1) (by omega)]; exact h2, by rw [hp k (by omega), hc]; exact h3⟩
theorem segX_keep {code said code' said' : Nat → Int32} {P P' : Nat → Nat} {a b pa po : Nat} (h : SegX code said P a b pa po) (hc : ∀ x, x < P b → code' x = code x) (hs : ∀ k, k < b → said' k = said k) (hp : ∀ j, j ≤ b → P' j = P j) : SegX code' said' P' a b pa po := fun k h1 h2 => by
  have hlt : P (k + 1) ≤ P b := by have := segX_up h (b - (k + 1)) (k + 1) (by omega) (by omega); omega
  have hst := segX_step h h1 h2
  exact ⟨fun e => jmp_keep h2 ((h k h1 h2).1 e) (hc _ (by omega)) (hs k h2) hp, fun e => jmp_keep h2 ((h k h1 h2).2.1 e) (hc _ (by omega)) (hs k h2) hp, fun e1 e2 => ins_keep h2 ((h k h1 h2).2.2 e1 e2) (fun x hx => hc x (by omega)) (hs k h2) hp⟩
theorem segX_app {code said : Nat → Int32} {P : Nat → Nat} {a b c pa po : Nat} (h1 : SegX code said P a b pa po) (h2 : Seg code said P b c) (hbc : b ≤ c) (hpa : pa ≤ b) (hpo : po ≤ b) : SegX code said P a c pa po := fun k g1 g2 => by
  by_cases h : k < b
  · exact ⟨(h1 k g1 h).1, (h1 k g1 h).2.1, fun e1 e2 => ins_mono hbc ((h1 k g1 h).2.2 e1 e2)⟩
  · exact ⟨fun e => by omega, fun e => by omega, fun _ _ => h2 k (by omega) g2⟩
/-- a jump lands -/
theorem segX_land {code said : Nat → Int32} {P : Nat → Nat} {a b pa po kd t : Nat} (h : SegX code said P a b pa po) (ht : a < t ∧ t ≤ b) (hkd : (kd = 11 ∧ t = pa) ∨ (kd = 12 ∧ t = po ∧ pa = 0)) (hb : b < 1048576) (hne : pa ≠ po ∨ pa = 0) :
    SegX (upd code (P (t - 1) + 1) (nI (P b))) (upd said (t - 1) (nI (kd * 1048576 + b))) P a b 0 (if kd = 11 then po else 0) := by
  have hP : ∀ k, a ≤ k → k < b → k ≠ t - 1 → P (t - 1) + 1 < P k ∨ P (k + 1) ≤ P (t - 1) := by
    intro k g1 g2 g3
    have hs2 : P t = P (t - 1) + 2 := by
      have e : t - 1 + 1 = t := by omega
      rcases hkd with ⟨rfl, e2⟩ | ⟨rfl, e2, -⟩
      · have := ((h (t - 1) (by omega) (by omega)).1 (by omega)).2.1
        rw [e] at this; exact this
      · have := ((h (t - 1) (by omega) (by omega)).2.1 (by omega)).2.1
        rw [e] at this; exact this
    have mono : ∀ m x, a ≤ x → x + m ≤ b → P x + m ≤ P (x + m) := by
      intro m
      induction m with
      | zero => intro x _ _; exact Nat.le_refl _
      | succ m ih =>
        intro x g1 g2
        have := ih x g1 (by omega)
        have := segX_step h (k := x + m) (by omega) (by omega)
        rw [show x + (m + 1) = x + m + 1 by omega]; omega
    rcases Nat.lt_or_ge k (t - 1) with g | g
    · right
      have := mono (t - 1 - (k + 1)) (k + 1) (by omega) (by omega)
      rw [show k + 1 + (t - 1 - (k + 1)) = t - 1 by omega] at this
      omega
    · left
      have := mono (k - t) t (by omega) (by omega)
      rw [show t + (k - t) = k by omega] at this
      omega
  intro k g1 g2
  by_cases e : k = t - 1
  · have e' : k + 1 = t := by omega
    have hj : Jmp code said P k kd := by
      rcases hkd with ⟨rfl, e2⟩ | ⟨rfl, e2, -⟩
      · exact (h k g1 g2).1 (by omega)
      · exact (h k g1 g2).2.1 (by omega)
    refine ⟨fun z => by omega, fun z => ?_, fun _ _ => ?_⟩
    · exfalso
      rcases hkd with ⟨rfl, e2⟩ | ⟨rfl, e2, -⟩
      · rw [if_pos rfl] at z; omega
      · rw [if_neg (by omega)] at z; omega
    · subst e
      refine ⟨kd, b, hb, upd_at _ _ _, ?_, Or.inr (Or.inr (Or.inr ⟨by omega, ?_, upd_at _ _ _, by omega, Nat.le_refl _⟩))⟩
      · rw [hj.2.1]
        rcases hkd with ⟨rfl, -⟩ | ⟨rfl, -⟩ <;> rfl
      · rw [upd_ne (by omega)]; exact hj.2.2
  · have hq := hP k g1 g2 e
    have hst := segX_step h g1 g2
    have hpk : P k ≠ P (t - 1) + 1 := by omega
    refine ⟨fun z => by omega, fun z => ?_, fun z1 z2 => ?_⟩
    · have hz : k + 1 = po ∧ kd = 11 := by
        rcases hkd with ⟨rfl, e2⟩ | ⟨rfl, e2, -⟩
        · rw [if_pos rfl] at z; exact ⟨z, rfl⟩
        · rw [if_neg (by omega)] at z; omega
      obtain ⟨j1, j2, j3⟩ := (h k g1 g2).2.1 hz.1
      exact ⟨by rw [upd_ne e]; exact j1, j2, by rw [upd_ne hpk]; exact j3⟩
    · have hi : Ins code said P b k := by
        refine (h k g1 g2).2.2 (fun y => ?_) (fun y => ?_)
        · rcases hkd with ⟨rfl, e2⟩ | ⟨rfl, e2, e3⟩
          · omega
          · omega
        · rcases hkd with ⟨rfl, e2⟩ | ⟨rfl, e2, e3⟩
          · rw [if_pos rfl] at z2; omega
          · omega
      obtain ⟨kd', ar, k1, k2, k3, k4⟩ := hi
      refine ⟨kd', ar, k1, by rw [upd_ne e]; exact k2, k3, ?_⟩
      rw [upd_ne hpk]
      rcases k4 with ⟨g1', g2', g3'⟩ | ⟨g1', g2', g3', g4'⟩ | h' | ⟨g1', g2', g3', g4', g5'⟩
      · have hw : P (k + 1) = P k + 2 := by rw [k3, g1']; rfl
        exact Or.inl ⟨g1', g2', by rw [upd_ne (by omega)]; exact g3'⟩
      · have hw : P (k + 1) = P k + 2 := by rw [k3, g1']; rfl
        exact Or.inr (Or.inl ⟨g1', g2', g3', by rw [upd_ne (by omega)]; exact g4'⟩)
      · exact Or.inr (Or.inr (Or.inl h'))
      · have hw : P (k + 1) = P k + 2 := by rw [k3]; rcases g1' with rfl | rfl <;> rfl
        exact Or.inr (Or.inr (Or.inr ⟨g1', g2', by rw [upd_ne (by omega)]; exact g3', g4', g5'⟩))
/-- depths, with jumps that wait -/
def DepX (said : Nat → Int32) (a b pa po : Nat) : Prop := ∃ D : Nat → Nat, D a = 0 ∧ D b = 100 ∧ ∀ k, a ≤ k → k < b → ((k + 1 = pa ∨ k + 1 = po) → D k = 100 ∧ D (k + 1) = 0) ∧ (k + 1 ≠ pa → k + 1 ≠ po → DI said D b k)
theorem depX_of {said : Nat → Int32} {a b : Nat} (h : DepS said a b 0 100) : DepX said a b 0 0 := by
  obtain ⟨D, h1, h2, h3⟩ := h
  exact ⟨D, h1, h2, fun k g1 g2 => ⟨fun z => by omega, fun _ _ => h3 k g1 g2⟩⟩
theorem depX_S {said : Nat → Int32} {a b : Nat} (h : DepX said a b 0 0) : DepS said a b 0 100 := by
  obtain ⟨D, h1, h2, h3⟩ := h
  exact ⟨D, h1, h2, fun k g1 g2 => (h3 k g1 g2).2 (by omega) (by omega)⟩
theorem depX_keep {said said' : Nat → Int32} {a b pa po : Nat} (h : DepX said a b pa po) (hs : ∀ k, k < b → said' k = said k) : DepX said' a b pa po := by
  obtain ⟨D, h1, h2, h3⟩ := h
  exact ⟨D, h1, h2, fun k g1 g2 => ⟨(h3 k g1 g2).1, fun e1 e2 => di_of ((h3 k g1 g2).2 e1 e2) (hs k g2) (Nat.le_refl _) g2 (fun _ _ _ => rfl)⟩⟩
theorem depX_land {said : Nat → Int32} {a b pa po kd t : Nat} (h : DepX said a b pa po) (ht : a < t ∧ t ≤ b) (hkd : (kd = 11 ∧ t = pa) ∨ (kd = 12 ∧ t = po ∧ pa = 0)) (hb : b < 1048576) : DepX (upd said (t - 1) (nI (kd * 1048576 + b))) a b 0 (if kd = 11 then po else 0) := by
  obtain ⟨D, h1, h2, h3⟩ := h
  refine ⟨D, h1, h2, fun k g1 g2 => ⟨fun z => (h3 k g1 g2).1 ?_, fun e1 e2 => ?_⟩⟩
  · rcases hkd with ⟨rfl, -⟩ | ⟨rfl, -, -⟩
    · rw [if_pos rfl] at z; omega
    · rw [if_neg (by decide)] at z; omega
  · by_cases e : k = t - 1
    · subst e
      obtain ⟨q1, q2⟩ := (h3 (t - 1) g1 g2).1 (by rcases hkd with ⟨-, e⟩ | ⟨-, e, -⟩ <;> omega)
      exact ⟨kd, b, hb, upd_at _ _ _, Or.inr (Or.inr (Or.inr (Or.inr ⟨by omega, q1, q2, by omega, Nat.le_refl _, h2⟩)))⟩
    · refine di_of ((h3 k g1 g2).2 (fun y => ?_) (fun y => ?_)) (upd_ne e) (Nat.le_refl _) g2 (fun _ _ _ => rfl)
      · rcases hkd with ⟨rfl, e3⟩ | ⟨rfl, e3, e4⟩ <;> omega
      · rcases hkd with ⟨rfl, e3⟩ | ⟨rfl, e3, e4⟩
        · rw [if_pos rfl] at e2; omega
        · omega
/-- one jump more, and what is behind it -/
theorem depX_jump {said : Nat → Int32} {a b c po2 pa' po' : Nat} (h : DepX said a b 0 po2) (hb : a ≤ b) (hbc : b + 1 ≤ c) (hp : (pa' = b + 1 ∧ po' = po2) ∨ (pa' = 0 ∧ po' = b + 1 ∧ po2 = 0)) (hle : po2 ≤ b) (h2 : DepS said (b + 1) c 0 100) : DepX said a c pa' po' := by
  obtain ⟨D, p1, p2, p3⟩ := h
  obtain ⟨D', q1, q2, q3⟩ := h2
  have hlo : ∀ j, j ≤ b → (fun k => if k ≤ b then D k else D' k) j = D j := fun j hj => if_pos hj
  have hhi : ∀ j, b < j → (fun k => if k ≤ b then D k else D' k) j = D' j := fun j hj => if_neg (by omega)
  refine ⟨fun k => if k ≤ b then D k else D' k, (hlo a hb).trans p1, (hhi c (by omega)).trans q2, fun k g1 g2 => ?_⟩
  rcases Nat.lt_trichotomy k b with e | e | e
  · refine ⟨fun z => ?_, fun z1 z2 => ?_⟩
    · rw [hlo k (by omega), hlo (k + 1) (by omega)]
      exact (p3 k g1 e).1 (by omega)
    · exact di_of ((p3 k g1 e).2 (by omega) (by omega)) rfl (by omega) e (fun j hj _ => hlo j hj)
  · subst e
    refine ⟨fun _ => ?_, fun z1 z2 => by omega⟩
    rw [hlo k (by omega), hhi (k + 1) (by omega)]
    exact ⟨p2, q1⟩
  · exact ⟨fun z => by omega, fun _ _ => di_of (q3 k (by omega) g2) rfl (Nat.le_refl _) g2 (fun j _ hj => hhi j (by omega))⟩
