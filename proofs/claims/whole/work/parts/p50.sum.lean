/-! SUMS, read by both -/
abbrev S8 : Type := Int32 × Int32 × Int32 × Int32 × Int32 × Int32 × (Nat → Int32) × (Nat → Int32)
section SU
variable {bytes tape : Nat → Int32} {E : Nat}
noncomputable def postS (tape : Nat → Int32) (E : Nat) (v1 : Int32) (r : S8 ⊕ S8) : Option (Int32 × S8) :=
  sm r (fun x2 => some (0, x2.1, x2.2.1, x2.2.2.1, x2.2.2.2.1, x2.2.2.2.2.1, x2.2.2.2.2.2.1, x2.2.2.2.2.2.2.1, x2.2.2.2.2.2.2.2)) (fun x2 => Mo_readsSum_J138 v1 tape x2.1 (nI E) x2.2.1 x2.2.2.1 x2.2.2.2.1 x2.2.2.2.2.1 x2.2.2.2.2.2.1 x2.2.2.2.2.2.2.1 x2.2.2.2.2.2.2.2)
/-- the reference's loop leads to R -/
def L14To (tape : Nat → Int32) (E : Nat) (v1 : Int32) (st : S8) (R : Int32 × S8) : Prop := ∃ r, lp (Mo_readsSum_L14 v1 tape (nI E)) st = some r ∧ postS tape E v1 r = some R
noncomputable def facR (tape : Nat → Int32) (E : Nat) (st : S8) : Option (Int32 × S8) := Mo_readsFactor tape st.1 (nI E) st.2.1 st.2.2.1 st.2.2.2.1 st.2.2.2.2.1 st.2.2.2.2.2.1 st.2.2.2.2.2.2.1 st.2.2.2.2.2.2.2
/-- a factor, and the loop behind it, lead to R -/
def FacTo (tape : Nat → Int32) (E : Nat) (v1 : Int32) (st : S8) (R : Int32 × S8) : Prop := ∃ x, facR tape E st = some x ∧ ((x.1 = 0 ∧ R = (0, x.2)) ∨ (x.1 = 1 ∧ L14To tape E v1 x.2 R))
theorem sum_of {w : Int32} {p f num op c : Int32} {said waitsAt : Nat → Int32} {R : Int32 × S8} (h : FacTo tape E w (p, f, num, op, c, w, said, waitsAt) R) : Mo_readsSum tape p (nI E) f num op c w said waitsAt = some R := by
  obtain ⟨x, h1, h2⟩ := h
  unfold Mo_readsSum
  refine (ob_eq h1).trans ?_
  rcases h2 with ⟨h3, rfl⟩ | ⟨h3, r, h4, h5⟩
  · exact if_pos h3
  · refine (if_neg (by rw [h3]; exact one_ne0)).trans ?_
    exact (ob_eq h4).trans h5
/-- a sum's fault -/
def SBad (F : Int32) (R : Int32 × S8) : Prop := R.1 = 0 ∧ R.2.2.1 = F
theorem fac_open {v1 : Int32} {i a w : Nat} (hT : TX bytes tape E) (hi : i < 1000) (hw : w < 260) (h : ch bytes E i = 91) (ha : a < 6) {f num c : Int32} {said waitsAt : Nat → Int32} {R : Int32 × S8}
    (hR : FacTo tape E v1 (nI (i + 1), f, num, nI (a + 1), c, nI (w + 1), said, upd waitsAt w (nI (14 * 1048576))) R) : FacTo tape E v1 (nI i, f, num, nI a, c, nI w, said, waitsAt) R := by
  obtain ⟨x, h1, h2⟩ := hR
  refine ⟨x, ?_, h2⟩
  have hop : Mo_opens (nI i) f (nI a) (nI w) waitsAt 14 = some (1, nI (i + 1), f, nI (a + 1), nI (w + 1), upd waitsAt w (nI (14 * 1048576))) := by
    unfold Mo_opens
    rw [if_neg (show ¬ nI a = 6 from neN (b := 6) (by omega) (by decide) (by omega)), gd_eq (ixN hw (by decide)), nI_clamp (by omega), show nI i + 1 = nI (i + 1) from nI_ad i 1, show nI a + 1 = nI (a + 1) from nI_ad a 1, show nI w + 1 = nI (w + 1) from nI_ad w 1, show (1048576 : Int32) * 14 = nI (14 * 1048576) from big 14]
  have hstep : Mo_readsFactor_L0 tape (nI E) (nI i, f, nI a, nI w, waitsAt) = some (.inl (nI (i + 1), f, nI (a + 1), nI (w + 1), upd waitsAt w (nI (14 * 1048576)))) := by
    unfold Mo_readsFactor_L0
    exact (ob_eq (here_eq hT (by omega))).trans ((if_pos h).trans ((ob_eq hop).trans (if_neg one_ne0)))
  have hlp : ∀ y, lp (Mo_readsFactor_L0 tape (nI E)) (nI (i + 1), f, nI (a + 1), nI (w + 1), upd waitsAt w (nI (14 * 1048576))) = some y → lp (Mo_readsFactor_L0 tape (nI E)) (nI i, f, nI a, nI w, waitsAt) = some y := fun y hy => lp_inl hstep hy
  have h1' : Mo_readsFactor tape (nI (i + 1)) (nI E) f num (nI (a + 1)) c (nI (w + 1)) said (upd waitsAt w (nI (14 * 1048576))) = some x := h1
  show Mo_readsFactor tape (nI i) (nI E) f num (nI a) c (nI w) said waitsAt = some x
  unfold Mo_readsFactor at h1' ⊢
  cases hl : lp (Mo_readsFactor_L0 tape (nI E)) (nI (i + 1), f, nI (a + 1), nI (w + 1), upd waitsAt w (nI (14 * 1048576))) with
  | none => rw [hl] at h1'; cases h1'
  | some y =>
    rw [hl] at h1'
    rw [hlp y hl]
    exact h1'
theorem fac_deep {v1 : Int32} {i w : Nat} (hT : TX bytes tape E) (hi : i < 1000) (h : ch bytes E i = 91) {f num c : Int32} {said waitsAt : Nat → Int32} :
    ∃ R, FacTo tape E v1 (nI i, f, num, nI 6, c, nI w, said, waitsAt) R ∧ SBad (flt 5 i) R := by
  have hop : Mo_opens (nI i) f (nI 6) (nI w) waitsAt 14 = some (0, nI i, flt 5 i, nI 6, nI w, waitsAt) := by
    unfold Mo_opens
    exact if_pos rfl
  have hstep : Mo_readsFactor_L0 tape (nI E) (nI i, f, nI 6, nI w, waitsAt) = some (.inr (.inl (nI i, flt 5 i, nI 6, nI w, waitsAt))) := by
    unfold Mo_readsFactor_L0
    exact (ob_eq (here_eq hT (by omega))).trans ((if_pos h).trans ((ob_eq hop).trans (if_pos rfl)))
  refine ⟨_, ⟨(0, nI i, flt 5 i, num, nI 6, c, nI w, said, waitsAt), ?_, Or.inl ⟨rfl, rfl⟩⟩, rfl, rfl⟩
  show Mo_readsFactor tape (nI i) (nI E) f num (nI 6) c (nI w) said waitsAt = _
  unfold Mo_readsFactor
  exact (ob_eq (lp_inr hstep)).trans rfl
/-- no bracket: a number, a fact, or a fault -/
theorem fac_L0 {i : Nat} (hT : TX bytes tape E) (hi : i < 1000) (h : ¬ ch bytes E i = 91) {f op w : Int32} {waitsAt : Nat → Int32} : lp (Mo_readsFactor_L0 tape (nI E)) (nI i, f, op, w, waitsAt) = some (.inr (nI i, f, op, w, waitsAt)) := by
  refine lp_inr ?_
  unfold Mo_readsFactor_L0
  exact (ob_eq (here_eq hT (by omega))).trans (if_neg h)
theorem factOf_eq : ∀ b : Nat, b < 256 → Mo_factOf (nI b) = some (jIdx (jC (nI b))) ∧ (jIdx (jC (nI b)) = -1 ∨ ∃ k, k < 9 ∧ jIdx (jC (nI b)) = nI k) := by
  have h1 : ∀ b : Nat, b < 256 → Mo_factOf (nI b) = some (jIdx (jC (nI b))) := by decide +kernel
  have h2 : ∀ b : Nat, b < 256 → jIdx (jC (nI b)) = -1 ∨ ∃ k, k < 9 ∧ jIdx (jC (nI b)) = nI k := by decide +kernel
  exact fun b hb => ⟨h1 b hb, h2 b hb⟩
/-- the reference's number -/
theorem number_eq (hT : TX bytes tape E) {i D : Nat} (hi : i < 1000) (h1 : D ≤ 5) (h2 : ∀ k, k < D → isD (ch bytes E (i + k)) = true) (h3 : D < 5 → ¬ isD (ch bytes E (i + D)) = true) (f num : Int32) :
    Mo_readsNumber tape (nI i) (nI E) f num = some (if isD (ch bytes E (i + D)) then (0, nI (i + D), flt 2 (i + D), nI (dval (ch bytes E) i D)) else (1, nI (i + D), f, nI (dval (ch bytes E) i D))) := by
  have hloop : lp (Mo_readsNumber_L10 (nI i) tape (nI E)) (nI i, 0) = some (if isD (ch bytes E (i + D)) then .inl (nI (i + D), nI (dval (ch bytes E) i D)) else .inr (nI (i + D), nI (dval (ch bytes E) i D))) := by
    refine lp_run (f := Mo_readsNumber_L10 (nI i) tape (nI E)) (fun k => (nI (i + k), nI (dval (ch bytes E) i k))) D (fun k hk => ?_) ?_
    · have hd := h2 k hk
      obtain ⟨-, d, hd1, hd2⟩ := isD_lt hT hd
      unfold Mo_readsNumber_L10
      refine (ob_eq (Mo_isDigit_eq hT (by omega))).trans ?_
      rw [if_pos hd, if_neg one_ne0]
      refine (if_neg (fun z => ?_)).trans ((ob_eq (here_eq hT (by omega))).trans ?_)
      · have z : nI (i + k) = nI (i + 5) := (show nI (i + k) = nI i + 5 from z).trans (nI_ad i 5)
        have := (nI_inj (by omega) (by omega)).mp z
        omega
      · show some (Sum.inl (nI (i + k) + nI 1, 10 * nI (dval (ch bytes E) i k) + ch bytes E (i + k) - 48)) = _
        rw [Int32.mul_comm 10, dval_step hd1 hd2, nI_ad]
        rfl
    · unfold Mo_readsNumber_L10
      refine (ob_eq (Mo_isDigit_eq hT (by omega))).trans ?_
      by_cases h : isD (ch bytes E (i + D)) = true
      · have hD : D = 5 := by
          rcases Nat.lt_or_ge D 5 with h4 | h4
          · exact absurd h (h3 h4)
          · omega
        rw [if_pos h, if_neg one_ne0, if_pos h]
        exact if_pos (by subst hD; exact (nI_ad i 5).symm)
      · rw [if_neg h, if_pos rfl, if_neg h]
  unfold Mo_readsNumber
  refine (ob_eq hloop).trans ?_
  by_cases h : isD (ch bytes E (i + D)) = true
  · rw [if_pos h, if_pos h]; rfl
  · rw [if_neg h, if_neg h]; rfl
/-- what the reader of sums gives: n the class's depth of calls -/
def SumSpec (bytes tape : Nat → Int32) (E : Nat) (g : (Nat → Int32) → Int32 → Int32 → Int32 → (Nat → Int32) → Int32 → Int32 → Option (Int32 × Int32 × Int32 × (Nat → Int32) × Int32)) (a : Nat) : Prop :=
  ∀ (i c s w v : Nat) (code said waitsAt : Nat → Int32) (P : Nat → Nat) (f num : Int32), i ≤ E → s ≤ 2 * i → c ≤ i → w ≤ i → v ≤ w → P c = s → NoSign waitsAt w →
    (∃ q F code' s', q < 1000 ∧ s' ≤ 640 ∧ g bytes (nI E) (nI i) 0 code (nI s) (nI a) = some (0, nI q, F, code', nI s') ∧ ¬ F = 0 ∧ ∃ R, FacTo tape E (nI v) (nI i, f, num, nI a, nI c, nI w, said, waitsAt) R ∧ SBad F R) ∨
    ∃ j code' s' c' P' said' waitsAt' x m num', g bytes (nI E) (nI i) 0 code (nI s) (nI a) = some (nI E, nI j, 0, code', nI s') ∧ i < j ∧ j ≤ E ∧ (¬ ch bytes E j = 42 ∧ ¬ ch bytes E j = 47 ∧ ¬ ch bytes E j = 37 ∧ ¬ ch bytes E j = 43 ∧ ¬ ch bytes E j = 45) ∧ s' + 2 * i ≤ s + 2 * j ∧ c ≤ c' ∧ c' + cnt x + cnt m + i ≤ c + j ∧ P' c' + cnt m + cnt x = s' ∧ (m ≠ 0 → code' (P' c') = sgnT m) ∧ (x ≠ 0 → code' (P' c' + cnt m) = sgnT x) ∧ (∀ k, k ≤ c → P' k = P k) ∧ (∀ y, y < s → code' y = code y) ∧ (∀ k, k < c → said' k = said k) ∧ (∀ y, y < w → waitsAt' y = waitsAt y) ∧ PS waitsAt' w x m ∧ Seg code' said' P' c c' ∧ (∀ d, d + 2 * (6 - a) + 3 ≤ 20 → DepS said' c c' d (d + 1 + cnt x + cnt m)) ∧
      ∀ R, L14To tape E (nI v) (nI j, f, num', nI a, nI c', nI (w + cnt x + cnt m), said', waitsAt') R → FacTo tape E (nI v) (nI i, f, num, nI a, nI c, nI w, said, waitsAt) R
def FacSpec (bytes tape : Nat → Int32) (E : Nat) (g : (Nat → Int32) → Int32 → Int32 → Int32 → (Nat → Int32) → Int32 → Int32 → Option (Int32 × Int32 × Int32 × (Nat → Int32) × Int32)) (a : Nat) : Prop :=
  ∀ (i c s w v : Nat) (code said waitsAt : Nat → Int32) (P : Nat → Nat) (f num : Int32), i ≤ E → s ≤ 2 * i → c ≤ i → w ≤ i → v ≤ w → P c = s →
    (∃ q F code' s', q < 1000 ∧ s' ≤ 640 ∧ g bytes (nI E) (nI i) 0 code (nI s) (nI a) = some (0, nI q, F, code', nI s') ∧ ¬ F = 0 ∧ ∃ R, FacTo tape E (nI v) (nI i, f, num, nI a, nI c, nI w, said, waitsAt) R ∧ SBad F R) ∨
    ∃ j code' s' c' P' said' waitsAt' num', g bytes (nI E) (nI i) 0 code (nI s) (nI a) = some (nI E, nI j, 0, code', nI s') ∧ i < j ∧ j ≤ E ∧ s' + 2 * i ≤ s + 2 * j ∧ c ≤ c' ∧ c' + i ≤ c + j ∧ P' c' = s' ∧ (∀ k, k ≤ c → P' k = P k) ∧ (∀ y, y < s → code' y = code y) ∧ (∀ k, k < c → said' k = said k) ∧ (∀ y, y < w → waitsAt' y = waitsAt y) ∧ Seg code' said' P' c c' ∧ (∀ d, d + 2 * (6 - a) + 1 ≤ 20 → DepS said' c c' d (d + 1)) ∧
      ∀ R, L14To tape E (nI v) (nI j, f, num', nI a, nI c', nI w, said', waitsAt') R → FacTo tape E (nI v) (nI i, f, num, nI a, nI c, nI w, said, waitsAt) R
/-- signs that wait are written: both have the same again -/
theorem seg_closed {code said : Nat → Int32} {P : Nat → Nat} {c0 c s x m : Nat} (h0 : c0 ≤ c) (hs : Seg code said P c0 c) (hP : P c + cnt m + cnt x = s) (hm : m ≠ 0 → code (P c) = sgnT m) (hx : x ≠ 0 → code (P c + cnt m) = sgnT x) (h1 : x = 0 ∨ x = 2 ∨ x = 3) (h2 : m = 0 ∨ m = 4 ∨ m = 5 ∨ m = 6) :
    ∃ P', Seg code (note (note said c m) (c + cnt m) x) P' c0 (c + cnt m + cnt x) ∧ P' (c + cnt m + cnt x) = s ∧ ∀ k, k ≤ c → P' k = P k := by
  have step : ∀ {c said P z}, c0 ≤ c → Seg code said P c0 c → (z = 0 ∨ (2 ≤ z ∧ z ≤ 6)) → (z ≠ 0 → code (P c) = sgnT z) → ∃ P', Seg code (note said c z) P' c0 (c + cnt z) ∧ P' (c + cnt z) = P c + cnt z ∧ ∀ k, k ≤ c → P' k = P k := by
    intro c said P z hc hS hz hcd
    by_cases e : z = 0
    · subst e; exact ⟨P, hS, rfl, fun _ _ => rfl⟩
    · have e2 : note said c z = upd said c (nI (z * 1048576 + 0)) := if_neg e
      have ew : wdN z = 1 := if_neg (by omega)
      rw [cnt_1 e, e2]
      refine ⟨ext P c (P c + wdN z), ?_, by rw [ext_gt, ew], fun k hk => ext_le hk⟩
      refine seg_app (seg_keep hS (fun _ _ => rfl) (fun k hk => upd_ne (by omega)) (fun j hj => ext_le hj)) (seg_one (by decide) ?_ (by omega) (by omega) (by omega)) (by omega)
      rw [if_neg e, if_neg (by omega)]; exact hcd e
  obtain ⟨P1, a1, a2, a3⟩ := step h0 hs (by omega) hm
  obtain ⟨P2, b1, b2, b3⟩ := step (z := x) (show c0 ≤ c + cnt m by omega) a1 (by omega) (fun e => by rw [a2]; exact hx e)
  exact ⟨P2, b1, by rw [b2, a2]; exact hP, fun k hk => (b3 k (by omega)).trans (a3 k hk)⟩
theorem fac_spec (hT : TX bytes tape E) (hE : E ≤ 240) {a : Nat} (ha : a ≤ 6) {rs : (Nat → Int32) → Int32 → Int32 → Int32 → (Nat → Int32) → Int32 → Int32 → Option (Int32 × Int32 × Int32 × (Nat → Int32) × Int32)} (hrs : a < 6 → SumSpec bytes tape E rs (a + 1)) : FacSpec bytes tape E (Law_readFactorO rs) a := by
  intro i c s w v code said waitsAt P f num hi hs hc hw hv hP
  have hpk := peek_eq (bytes := bytes) hT.1 (show i < 2 ^ 31 by omega)
  by_cases h91 : ch bytes E i = 91
  · have hiE : i < E := by
      rcases ch_cases hT i with z | ⟨z, -⟩
      · rw [z] at h91; exact absurd h91 (by decide)
      · exact z
    by_cases ha6 : a < 6
    · have hop : Law_opens (nI E) (nI i) 0 (nI a) = some (1, nI E, nI (i + 1), 0) := by
        unfold Law_opens Tape_skip
        rw [if_pos (show nI a < 6 from (nI_ltN (b := 6) (by omega) (by decide)).mpr ha6), show nI i + 1 = nI (i + 1) from nI_ad i 1]; rfl
      have hcl : ∀ {x : Int32 × Int32 × Int32 × (Nat → Int32) × Int32} {y : Int32 × Int32 × Int32 × Int32}, rs bytes (nI E) (nI (i + 1)) 0 code (nI s) (nI (a + 1)) = some x → Tape_take bytes x.1 x.2.1 x.2.2.1 93 = some y → Law_readFactorO rs bytes (nI E) (nI i) 0 code (nI s) (nI a) = some (y.2.1, y.2.2.1, y.2.2.2, x.2.2.2.1, x.2.2.2.2) := by
        intro x y hx hy
        unfold Law_readFactorO
        refine (ob_eq hpk).trans ((if_pos h91).trans ((ob_eq hop).trans ((if_neg one_ne0).trans ?_)))
        rw [show nI a + 1 = nI (a + 1) from nI_ad a 1]
        exact (ob_eq hx).trans ((ob_eq hy).trans rfl)
      have hns : NoSign (upd waitsAt w (nI (14 * 1048576))) (w + 1) := Or.inr ⟨14, 0, by decide, by omega, by omega, by rw [show w + 1 - 1 = w by omega, upd_at]⟩
      rcases hrs ha6 (i + 1) c s (w + 1) v code said (upd waitsAt w (nI (14 * 1048576))) P f num (by omega) (by omega) (by omega) (by omega) (by omega) hP hns with ⟨q, F, code', s', hq, hs', g1, g2, R, g3, g4⟩ | ⟨j, code', s', c', P', said', waitsAt', x, m, num', g1, g2, g3, g4, g5, g5', g6, g7, g8, g9, g10, g11, g12, g13, g14, g15, g15d, g16⟩
      · left
        have htk : Tape_take bytes 0 (nI q) F 93 = some (0, 0, nI q, F) := by
          unfold Tape_take
          rw [ob_eq (peek_dead (show q < 2 ^ 31 by omega)), if_neg (by decide), ob_eq (failN g2 _ _)]
        exact ⟨q, F, code', s', hq, hs', hcl g1 htk, g2, R, fac_open hT (by omega) (by omega) h91 ha6 g3, g4⟩
      · have cx := cnt_le x
        have cm := cnt_le m
        have hpj := peek_eq (bytes := bytes) hT.1 (show j < 2 ^ 31 by omega)
        have h14 : waitsAt' w = nI (14 * 1048576) := (g13 w (by omega)).trans (upd_at _ _ _)
        have hnj : NoSign waitsAt' (w + 1) := Or.inr ⟨14, 0, by decide, by omega, by omega, by rw [show w + 1 - 1 = w by omega]; exact h14⟩
        have hopen : Mo_hasOpenSum (nI (w + 1 + cnt x + cnt m)) waitsAt' (nI v) = some 1 := hasOpen_yes (x := w) (by omega) hv (by omega) h14
        obtain ⟨j1, j2, j3, j4, j5⟩ := g4
        have hss : ∀ z, Mo_here tape (nI j) (nI E) = some z → Mo_sumSign z = some (-1) := by
          intro z hz
          rw [here_eq hT (by omega)] at hz
          cases hz
          unfold Mo_sumSign
          rw [if_neg j4, if_neg j5, if_neg j1, if_neg j2, if_neg j3]
        have hsj := hss _ (here_eq hT (show j < 2 ^ 31 by omega))
        by_cases h93 : ch bytes E j = 93
        · right
          have hjE : j < E := by
            rcases ch_cases hT j with z | ⟨z, -⟩
            · rw [z] at h93; exact absurd h93 (by decide)
            · exact z
          have htk : Tape_take bytes (nI E) (nI j) 0 93 = some (1, nI E, nI (j + 1), 0) := by
            unfold Tape_take
            rw [ob_eq hpj, if_pos h93, show nI j + 1 = nI (j + 1) from nI_ad j 1]
          obtain ⟨P2, k1, k2, k3⟩ := seg_closed g5' g15 g7 g8 g9 g14.1 g14.2.1
          have hcs := closes1 (said := said') g14 hnj (show w + 1 + 2 ≤ 260 by omega) (show c' + 1 < 260 by omega)
          refine ⟨j + 1, code', s', c' + cnt m + cnt x, P2, note (note said' c' m) (c' + cnt m) x, waitsAt', num', hcl g1 htk, by omega, by omega, by omega, by omega, by omega, k2, fun k hk => (k3 k (by omega)).trans (g10 k hk), g11, fun k hk => ?_, fun y hy => (g13 y (by omega)).trans (upd_ne (by omega)), k1, fun d hd => dep_note (by omega) (dep_note (by omega) (g15d d (by omega)) (by have := g14.2.1; omega) (by omega) (by omega)) (by have := g14.1; omega) (by omega) (by omega), fun R hR => ?_⟩
          · rw [note_lt (show k < c' + cnt m by omega), note_lt (show k < c' by omega)]; exact g12 k hk
          · refine fac_open hT (by omega) (by omega) h91 ha6 (g16 R ?_)
            obtain ⟨r, r1, r2⟩ := hR
            refine ⟨r, lp_inl ?_ r1, r2⟩
            unfold Mo_readsSum_L14 Mo_readsSum_L14_J163
            refine (ob_eq (here_eq hT (by omega))).trans ((ob_eq hsj).trans ((if_pos rfl).trans ((ob_eq (here_eq hT (by omega))).trans ((if_pos h93).trans ((ob_eq hopen).trans ((if_neg one_ne0).trans ((ob_eq hcs).trans ?_)))))))
            show some (Sum.inl (nI j + 1, f, num', nI (a + 1) - 1, nI (c' + cnt m + cnt x), nI (w + 1) - 1, note (note said' c' m) (c' + cnt m) x, waitsAt')) = _
            rw [show nI j + 1 = nI (j + 1) from nI_ad j 1, show nI (a + 1) - 1 = nI a from nI_subN (b := 1) (by omega), show nI (w + 1) - 1 = nI w from nI_subN (b := 1) (by omega)]
        · left
          have htk : Tape_take bytes (nI E) (nI j) 0 93 = some (0, 0, nI j, flt 1 j) := by
            unfold Tape_take
            rw [ob_eq hpj, if_neg h93, ob_eq (fail0 _ _ _)]; rfl
          refine ⟨j, flt 1 j, code', s', by omega, by omega, hcl g1 htk, flt_ne (by omega) (by omega), (0, nI j, flt 1 j, num', nI (a + 1), nI c', nI (w + 1 + cnt x + cnt m), said', waitsAt'), fac_open hT (by omega) (by omega) h91 ha6 (g16 _ ⟨.inr (nI j, f, num', nI (a + 1), nI c', nI (w + 1 + cnt x + cnt m), said', waitsAt'), lp_inr ?_, ?_⟩), rfl, rfl⟩
          · unfold Mo_readsSum_L14
            exact (ob_eq (here_eq hT (by omega))).trans ((ob_eq hsj).trans ((if_pos rfl).trans ((ob_eq (here_eq hT (by omega))).trans (if_neg h93))))
          · show Mo_readsSum_J138 (nI v) tape (nI j) (nI E) f num' (nI (a + 1)) (nI c') (nI (w + 1 + cnt x + cnt m)) said' waitsAt' = _
            unfold Mo_readsSum_J138
            exact (ob_eq hopen).trans ((if_neg one_ne0).trans rfl)
    · left
      have ea : a = 6 := by omega
      subst ea
      obtain ⟨R, g1, g2⟩ := fac_deep (v1 := nI v) (w := w) hT (show i < 1000 by omega) h91 (f := f) (num := num) (c := nI c) (said := said) (waitsAt := waitsAt)
      refine ⟨i, flt 5 i, code, s, by omega, by omega, ?_, flt_ne (by omega) (by omega), R, g1, g2⟩
      unfold Law_readFactorO
      refine (ob_eq hpk).trans ((if_pos h91).trans ((ob_eq (a := (0, 0, nI i, flt 5 i)) ?_).trans (if_pos rfl)))
      unfold Law_opens
      exact (if_neg (show ¬ (nI 6 : Int32) < 6 by decide)).trans ((ob_eq (fail0 _ _ _)).trans rfl)
  · -- no bracket
    have hfac : ∀ {y : Int32 × S8}, (ob (Mo_isDigit tape (nI i) (nI E)) fun x2 =>
  if x2 = 0 then (ob (Mo_here tape (nI i) (nI E)) fun x3 =>
  ob (Mo_factOf x3) fun x4 =>
  if x4 = (-1) then (ob (Mo_wrongAt f 1 (nI i)) fun x5 =>
  gd (isB x5.1) (some (x5.1, nI i, x5.2, num, nI a, nI c, nI w, said, waitsAt))) else (ob (Mo_notes (nI c) said 1 x4) fun x7 =>
  some (1, nI i + 1, f, num, nI a, x7.1, nI w, x7.2, waitsAt))) else (ob (Mo_readsNumber tape (nI i) (nI E) f num) fun x9 =>
  if x9.1 = 0 then (some (0, x9.2.1, x9.2.2.1, x9.2.2.2, nI a, nI c, nI w, said, waitsAt)) else (ob (Mo_notes (nI c) said 0 x9.2.2.2) fun x10 =>
  some (1, x9.2.1, x9.2.2.1, x9.2.2.2, nI a, x10.1, nI w, x10.2, waitsAt)))) = some y → facR tape E (nI i, f, num, nI a, nI c, nI w, said, waitsAt) = some y := by
      intro y hy
      show Mo_readsFactor tape (nI i) (nI E) f num (nI a) (nI c) (nI w) said waitsAt = some y
      unfold Mo_readsFactor
      exact (ob_eq (fac_L0 hT (by omega) h91)).trans hy
    have hcl : ∀ {x}, (if isD (ch bytes E i) = true then (ob (Law_emit code (nI s) 1) fun x8 =>
  ob (Tape_digits bytes (nI E) (nI i) 0 5) fun x9 =>
  ob (Law_emit x8.2.1 x8.2.2 x9.1) fun x10 =>
  some (x9.2.1, x9.2.2.1, x9.2.2.2, x10.2.1, x10.2.2)) else (if ch bytes E i < 0 then (Law_readFactorO_J86 rs (-1) bytes (nI E) (nI i) 0 code (nI s)) else (Law_readFactorO_J86 rs (jIdx (jC (ch bytes E i))) bytes (nI E) (nI i) 0 code (nI s)))) = some x → Law_readFactorO rs bytes (nI E) (nI i) 0 code (nI s) (nI a) = some x := by
      intro x hx
      unfold Law_readFactorO
      refine (ob_eq hpk).trans ((if_neg h91).trans ((ob_eq (isDigit_eq _)).trans ?_))
      by_cases hd : isD (ch bytes E i) = true
      · rw [if_pos hd] at hx ⊢
        exact (if_neg one_ne0).trans hx
      · rw [if_neg hd] at hx ⊢
        exact (if_pos rfl).trans hx
    by_cases hd : isD (ch bytes E i) = true
    · have hiE := (isD_lt hT hd).1
      obtain ⟨D, d1, d2, d3⟩ := dig_ex (ch bytes E) i 5
      have hD0 : D ≠ 0 := fun z => by
        subst z
        exact d3 (by omega) hd
      have hnum := number_eq hT (i := i) (by omega) d1 d2 d3 f num
      have hdg := digits_eq hT (i := i) (m := 5) (by omega) (by omega) d1 d2 d3
      rw [if_neg hD0] at hdg
      have hdec : ∀ q, q < D → ∃ d, d ≤ 9 ∧ ch bytes E (i + q) = nI (48 + d) := fun q hq => (isD_lt hT (d2 q hq)).2
      have hv := dval_lt hdec
      have hv2 : dval (ch bytes E) i D < 100000 := by
        have : (10 : Nat) ^ D ≤ 10 ^ 5 := Nat.pow_le_pow_right (by decide) d1
        omega
      have hlast := (isD_lt hT (d2 (D - 1) (by omega))).1
      generalize hvv : dval (ch bytes E) i D = vv at hnum hdg hv2
      have he1 := emit_eq (code := code) (show s < 640 by omega) 1
      have he2 := fun y => emit_eq (code := upd code s 1) (show s + 1 < 640 by omega) y
      by_cases e2 : isD (ch bytes E (i + D)) = true
      · left
        rw [if_pos e2] at hnum hdg
        refine ⟨i + D, flt 2 (i + D), upd (upd code s 1) (s + 1) (nI vv), s + 1 + 1, by omega, by omega, hcl ?_, flt_ne (by omega) (by omega), (0, nI (i + D), flt 2 (i + D), nI vv, nI a, nI c, nI w, said, waitsAt), ⟨(0, nI (i + D), flt 2 (i + D), nI vv, nI a, nI c, nI w, said, waitsAt), hfac ?_, Or.inl ⟨rfl, rfl⟩⟩, rfl, rfl⟩
        · rw [if_pos hd]
          exact (ob_eq he1).trans ((ob_eq hdg).trans ((ob_eq (he2 _)).trans rfl))
        · rw [ob_eq (Mo_isDigit_eq hT (by omega)), if_pos hd, if_neg one_ne0, ob_eq hnum]
          exact if_pos rfl
      · right
        rw [if_neg e2] at hnum hdg
        refine ⟨i + D, upd (upd code s 1) (s + 1) (nI vv), s + 1 + 1, c + 1, ext P c (P c + wdN 0), upd said c (nI (0 * 1048576 + vv)), waitsAt, nI vv, hcl ?_, by omega, by omega, by omega, by omega, by omega, ?_, fun k hk => ext_le hk, fun y hy => ?_, fun k hk => upd_ne (by omega), fun _ _ => rfl, seg_one (by omega) ?_ (by omega) (by omega) (fun _ => ?_), fun d hd => dep_one (kd := 0) (ar := vv) (by omega) (upd_at _ _ _) (Or.inl ⟨by omega, by omega, rfl⟩), fun R hR => ⟨(1, nI (i + D), f, nI vv, nI a, nI (c + 1), nI w, upd said c (nI (0 * 1048576 + vv)), waitsAt), hfac ?_, Or.inr ⟨rfl, hR⟩⟩⟩
        · rw [if_pos hd]
          exact (ob_eq he1).trans ((ob_eq hdg).trans ((ob_eq (he2 _)).trans rfl))
        · rw [ext_gt, hP]; rfl
        · rw [upd_ne (by omega), upd_ne (by omega)]
        · rw [hP, upd_ne (by omega), upd_at]; rfl
        · rw [hP, upd_at]
        · rw [ob_eq (Mo_isDigit_eq hT (by omega)), if_pos hd, if_neg one_ne0, ob_eq hnum]
          exact (if_neg one_ne0).trans ((ob_eq (notes_eq (show c < 260 by omega) 0 vv)).trans rfl)
    · have hfac2 : ∀ {z : Int32} {y : Int32 × S8}, Mo_factOf (ch bytes E i) = some z → (if z = (-1) then (ob (Mo_wrongAt f 1 (nI i)) fun x5 =>
  gd (isB x5.1) (some (x5.1, nI i, x5.2, num, nI a, nI c, nI w, said, waitsAt))) else (ob (Mo_notes (nI c) said 1 z) fun x7 =>
  some (1, nI i + 1, f, num, nI a, x7.1, nI w, x7.2, waitsAt))) = some y → facR tape E (nI i, f, num, nI a, nI c, nI w, said, waitsAt) = some y := by
        intro z y hz hy
        refine hfac ?_
        rw [ob_eq (Mo_isDigit_eq hT (by omega)), if_neg hd, if_pos rfl, ob_eq (here_eq hT (by omega)), ob_eq hz]
        exact hy
      have bad : Mo_factOf (ch bytes E i) = some (-1) → (∃ y : Int32, y < 0 ∧ Law_readFactorO_J86 rs y bytes (nI E) (nI i) 0 code (nI s) = (if ch bytes E i < 0 then (Law_readFactorO_J86 rs (-1) bytes (nI E) (nI i) 0 code (nI s)) else (Law_readFactorO_J86 rs (jIdx (jC (ch bytes E i))) bytes (nI E) (nI i) 0 code (nI s)))) →
          ∃ q F code' s', q < 1000 ∧ s' ≤ 640 ∧ Law_readFactorO rs bytes (nI E) (nI i) 0 code (nI s) (nI a) = some (0, nI q, F, code', nI s') ∧ ¬ F = 0 ∧ ∃ R, FacTo tape E (nI v) (nI i, f, num, nI a, nI c, nI w, said, waitsAt) R ∧ SBad F R := by
        rintro hz ⟨y, hy, hJ⟩
        refine ⟨i, flt 1 i, code, s, by omega, by omega, hcl ?_, flt_ne (by omega) (by omega), (0, nI i, flt 1 i, num, nI a, nI c, nI w, said, waitsAt), ⟨_, hfac2 hz rfl, Or.inl ⟨rfl, rfl⟩⟩, rfl, rfl⟩
        rw [if_neg hd, ← hJ]
        unfold Law_readFactorO_J86
        exact (if_pos hy).trans ((ob_eq (fail0 _ _ _)).trans rfl)
      rcases ch_cases hT i with z | ⟨hiE, b, hb, z⟩
      · left
        refine bad (by rw [z]; rfl) ⟨-1, by decide, ?_⟩
        rw [z]; exact (if_pos (by decide)).symm
      · obtain ⟨hf1, hf2⟩ := factOf_eq b (by omega)
        rw [← z] at hf1 hf2
        have hnn : ¬ ch bytes E i < 0 := by rw [z]; exact nI_pos (by omega)
        rcases hf2 with hm1 | ⟨k, hk, hkk⟩
        · left
          refine bad (by rw [hf1, hm1]) ⟨-1, by decide, ?_⟩
          rw [if_neg hnn, hm1]
        · right
          have he1 := emit_eq (code := code) (show s < 640 by omega) 2
          have he2 := emit_eq (code := upd code s 2) (show s + 1 < 640 by omega) (nI k)
          refine ⟨i + 1, upd (upd code s 2) (s + 1) (nI k), s + 1 + 1, c + 1, ext P c (P c + wdN 1), upd said c (nI (1 * 1048576 + k)), waitsAt, num, hcl ?_, by omega, by omega, by omega, by omega, by omega, ?_, fun k hk => ext_le hk, fun y hy => ?_, fun k hk => upd_ne (by omega), fun _ _ => rfl, seg_one (by omega) ?_ (by omega) (fun _ => hk) (fun _ => ?_), fun d hd => dep_one (kd := 1) (ar := k) (by omega) (upd_at _ _ _) (Or.inl ⟨by omega, by omega, rfl⟩), fun R hR => ⟨(1, nI (i + 1), f, num, nI a, nI (c + 1), nI w, upd said c (nI (1 * 1048576 + k)), waitsAt), hfac2 (hf1.trans (by rw [hkk])) ?_, Or.inr ⟨rfl, hR⟩⟩⟩
          · rw [if_neg hd, if_neg hnn, hkk]
            unfold Law_readFactorO_J86 Tape_skip
            rw [if_neg (nI_pos (show k < 2 ^ 31 by omega)), show nI i + 1 = nI (i + 1) from nI_ad i 1]
            exact (ob_eq he1).trans ((ob_eq he2).trans rfl)
          · rw [ext_gt, hP]; rfl
          · rw [upd_ne (by omega), upd_ne (by omega)]
          · rw [hP, upd_ne (by omega), upd_at]; rfl
          · rw [hP, upd_at]
          · rw [if_neg (fun z => nI_pos (show k < 2 ^ 31 by omega) (by rw [z]; decide)), show nI i + 1 = nI (i + 1) from nI_ad i 1]
            exact (ob_eq (notes_eq (show c < 260 by omega) 1 k)).trans rfl
end SU
