/-! SUMS, further -/
theorem lp_inv2 {σ ρ : Type} {f : σ → Option (σ ⊕ ρ)} (I : Nat → σ → Prop) (N : Nat) (P : ρ → Prop) (hs : ∀ k s, k < N → I k s → (∃ s', f s = some (.inl s') ∧ I (k + 1) s') ∨ ∃ r, lp f s = some r ∧ P r) (he : ∀ s, I N s → ∃ r, lp f s = some r ∧ P r) : ∀ k s, k ≤ N → I k s → ∃ r, lp f s = some r ∧ P r := by
  have key : ∀ m k s, k + m = N → I k s → ∃ r, lp f s = some r ∧ P r := by
    intro m
    induction m with
    | zero =>
      intro k s hk hI
      have : k = N := by omega
      subst this
      exact he s hI
    | succ m ih =>
      intro k s hk hI
      rcases hs k s (by omega) hI with ⟨s', h1, h2⟩ | h
      · obtain ⟨r, h3, h4⟩ := ih (k + 1) s' (by omega) h2
        exact ⟨r, lp_inl h1 h3, h4⟩
      · exact h
  exact fun k s hk hI => key (N - k) k s (by omega) hI
def vx (x : Nat) : Int32 := if x = 0 then 0 else sgnT x
section SV
variable {bytes tape : Nat → Int32} {E : Nat} {rs : (Nat → Int32) → Int32 → Int32 → Int32 → (Nat → Int32) → Int32 → Int32 → Option (Int32 × Int32 × Int32 × (Nat → Int32) × Int32)}
/-- a dead tape ends the sum -/
theorem dead9 {q k s : Nat} {F : Int32} (hq : q < 1000) (hk : k ≤ 240) (hs : s ≤ 640) (hF : ¬ F = 0) (v1 v2 : Int32) (code : Nat → Int32) :
    ∃ r code' s', s' ≤ 640 ∧ lp (Law_readSumO_L9 rs v1 bytes) (v2, nI k, 0, nI q, F, code, nI s) = some r ∧ (r = .inl (0, nI q, F, code', nI s') ∨ r = .inr (0, nI q, F, code', nI s')) := by
  by_cases h : k < 240
  · have hJ : ∀ (v2 : Int32) (code : Nat → Int32) (s : Nat), Law_readSumO_L9_J91 rs v1 v2 (nI k) (-1) 0 0 bytes 0 (nI q) F code (nI s) = some (.inr (.inl (0, nI q, F, code, nI s))) := fun v2 code s => (if_pos rfl).trans (if_pos rfl)
    have hstart : ∀ {r}, Law_readSumO_L9_J72 rs v1 v2 (nI k) (-1) 0 0 bytes 0 (nI q) F code (nI s) = some r → Law_readSumO_L9 rs v1 bytes (v2, nI k, 0, nI q, F, code, nI s) = some r := by
      intro r hr
      unfold Law_readSumO_L9 Law_readSumO_L9_J51
      exact (if_pos ((nI_ltN (b := 240) (by omega) (by decide)).mpr h)).trans ((ob_eq (peek_dead (show q < 2 ^ 31 by omega))).trans ((if_neg (by decide)).trans ((if_neg (by decide)).trans ((if_neg (by decide)).trans ((if_neg (by decide)).trans ((if_neg (by decide)).trans hr))))))
    by_cases h0 : v2 = 0
    · refine ⟨_, code, s, hs, lp_inr (hstart ?_), Or.inl rfl⟩
      unfold Law_readSumO_L9_J72
      exact (if_pos rfl).trans ((if_pos h0).trans (hJ _ _ _))
    · obtain ⟨y, code', s', h1, h2⟩ := emit_any code hs v2
      refine ⟨_, code', s', h2, lp_inr (hstart ?_), Or.inl rfl⟩
      unfold Law_readSumO_L9_J72
      exact (if_pos rfl).trans ((if_neg h0).trans ((ob_eq h1).trans (hJ _ _ _)))
  · refine ⟨_, code, s, hs, lp_inr ?_, Or.inr rfl⟩
    unfold Law_readSumO_L9
    exact if_neg (fun z => h ((nI_ltN (b := 240) (by omega) (by decide)).mp z))
/-- one round of the class: a sign of products -/
theorem l9_mul {y : Int32} (hT : TX bytes tape E) {i k s : Nat} (hi : i < 1000) (hk : k < 240) (hy : ch bytes E i = y) (h : y = 42 ∨ y = 47 ∨ y = 37) (v1 v2 : Int32) (code : Nat → Int32) {x2 : Int32 × Int32 × Int32 × (Nat → Int32) × Int32} {x3 : Int32 × (Nat → Int32) × Int32}
    (h1 : Law_readFactorO rs bytes (nI E) (nI (i + 1)) 0 code (nI s) v1 = some x2) (h2 : Law_emit x2.2.2.2.1 x2.2.2.2.2 y = some x3) : Law_readSumO_L9 rs v1 bytes (v2, nI k, nI E, nI i, 0, code, nI s) = some (.inl (v2, nI (k + 1), x2.1, x2.2.1, x2.2.2.1, x3.2.1, x3.2.2)) := by
  have hJ : Law_readSumO_L9_J51 rs v1 v2 (nI k) y 1 bytes (nI E) (nI i) 0 code (nI s) = some (.inl (v2, nI (k + 1), x2.1, x2.2.1, x2.2.2.1, x3.2.1, x3.2.2)) := by
    unfold Law_readSumO_L9_J51 Law_readSumO_L9_J72 Law_readSumO_L9_J91 Law_readSumO_L9_J102 Law_readSumO_L9_J132 Tape_skip
    rw [show nI i + 1 = nI (i + 1) from nI_ad i 1, show nI k + 1 = nI (k + 1) from nI_ad k 1]
    exact (if_neg (by rcases h with rfl | rfl | rfl <;> decide)).trans ((if_neg (by rcases h with rfl | rfl | rfl <;> decide)).trans ((if_neg one_ne0).trans ((if_neg one_ne0).trans ((ob_eq h1).trans ((if_neg one_ne0).trans ((ob_eq h2).trans rfl))))))
  unfold Law_readSumO_L9 Law_readSumO_L9_J46
  have hp := peek_eq (bytes := bytes) hT.1 (show i < 2 ^ 31 by omega)
  rw [hy] at hp
  refine (if_pos ((nI_ltN (b := 240) (by omega) (by decide)).mpr hk)).trans ((ob_eq hp).trans ?_)
  rcases h with rfl | rfl | rfl
  · exact (if_pos rfl).trans hJ
  · exact (if_neg (by decide)).trans ((if_pos rfl).trans hJ)
  · exact (if_neg (by decide)).trans ((if_neg (by decide)).trans ((if_pos rfl).trans hJ))
/-- one round of the class: a sign of sums; or none -/
theorem l9_add {y : Int32} (hT : TX bytes tape E) {i k s x : Nat} (hi : i < 1000) (hk : k < 240) (hy : ch bytes E i = y) (h : y = 43 ∨ y = 45) (v1 : Int32) (code : Nat → Int32) (hx : x = 0 ∨ x = 2 ∨ x = 3) (hs : s < 640) {x2 : Int32 × Int32 × Int32 × (Nat → Int32) × Int32}
    (h1 : Law_readFactorO rs bytes (nI E) (nI (i + 1)) 0 (if x = 0 then code else upd code s (sgnT x)) (nI (s + cnt x)) v1 = some x2) : Law_readSumO_L9 rs v1 bytes (vx x, nI k, nI E, nI i, 0, code, nI s) = some (.inl (y, nI (k + 1), x2.1, x2.2.1, x2.2.2.1, x2.2.2.2.1, x2.2.2.2.2)) := by
  have hJ1 : ∀ (v2 : Int32), Law_readSumO_L9_J91 rs v1 v2 (nI k) y 0 1 bytes (nI E) (nI i) 0 (if x = 0 then code else upd code s (sgnT x)) (nI (s + cnt x)) = some (.inl (y, nI (k + 1), x2.1, x2.2.1, x2.2.2.1, x2.2.2.2.1, x2.2.2.2.2)) := by
    intro v2
    unfold Law_readSumO_L9_J91 Law_readSumO_L9_J102 Law_readSumO_L9_J132 Tape_skip
    rw [show nI i + 1 = nI (i + 1) from nI_ad i 1, show nI k + 1 = nI (k + 1) from nI_ad k 1]
    exact (if_pos rfl).trans ((if_neg one_ne0).trans ((ob_eq h1).trans (if_pos rfl)))
  have hJ : Law_readSumO_L9_J51 rs v1 (vx x) (nI k) y 0 bytes (nI E) (nI i) 0 code (nI s) = some (.inl (y, nI (k + 1), x2.1, x2.2.1, x2.2.2.1, x2.2.2.2.1, x2.2.2.2.2)) := by
    have hJ72 : Law_readSumO_L9_J72 rs v1 (vx x) (nI k) y 0 1 bytes (nI E) (nI i) 0 code (nI s) = some (.inl (y, nI (k + 1), x2.1, x2.2.1, x2.2.2.1, x2.2.2.2.1, x2.2.2.2.2)) := by
      unfold Law_readSumO_L9_J72
      refine (if_pos rfl).trans ?_
      rcases hx with rfl | rfl | rfl
      · exact (if_pos rfl).trans (hJ1 _)
      · exact (if_neg (by decide)).trans ((ob_eq (emit_eq hs (vx 2))).trans (hJ1 0))
      · exact (if_neg (by decide)).trans ((ob_eq (emit_eq hs (vx 3))).trans (hJ1 0))
    unfold Law_readSumO_L9_J51 Law_readSumO_L9_J67
    rcases h with rfl | rfl
    · exact (if_pos rfl).trans hJ72
    · exact (if_neg (by decide)).trans ((if_pos rfl).trans hJ72)
  unfold Law_readSumO_L9
  have hp := peek_eq (bytes := bytes) hT.1 (show i < 2 ^ 31 by omega)
  rw [hy] at hp
  exact (if_pos ((nI_ltN (b := 240) (by omega) (by decide)).mpr hk)).trans ((ob_eq hp).trans ((if_neg (by rcases h with rfl | rfl <;> decide)).trans ((if_neg (by rcases h with rfl | rfl <;> decide)).trans ((if_neg (by rcases h with rfl | rfl <;> decide)).trans hJ))))
theorem l9_end {y : Int32} (hT : TX bytes tape E) {i k s x : Nat} (hi : i < 1000) (hk : k < 240) (hy : ch bytes E i = y) (h : ¬ y = 42 ∧ ¬ y = 47 ∧ ¬ y = 37 ∧ ¬ y = 43 ∧ ¬ y = 45) (v1 : Int32) (code : Nat → Int32) (hx : x = 0 ∨ x = 2 ∨ x = 3) (hs : s < 640) :
    Law_readSumO_L9 rs v1 bytes (vx x, nI k, nI E, nI i, 0, code, nI s) = some (.inr (.inl (nI E, nI i, 0, if x = 0 then code else upd code s (sgnT x), nI (s + cnt x)))) := by
  have hJ : ∀ (v2 : Int32) (code : Nat → Int32) (s : Nat), Law_readSumO_L9_J91 rs v1 v2 (nI k) y 0 0 bytes (nI E) (nI i) 0 code (nI s) = some (.inr (.inl (nI E, nI i, 0, code, nI s))) := fun v2 code s => (if_pos rfl).trans (if_pos rfl)
  unfold Law_readSumO_L9 Law_readSumO_L9_J51 Law_readSumO_L9_J72
  have hp := peek_eq (bytes := bytes) hT.1 (show i < 2 ^ 31 by omega)
  rw [hy] at hp
  refine (if_pos ((nI_ltN (b := 240) (by omega) (by decide)).mpr hk)).trans ((ob_eq hp).trans ((if_neg h.1).trans ((if_neg h.2.1).trans ((if_neg h.2.2.1).trans ((if_neg h.2.2.2.1).trans ((if_neg h.2.2.2.2).trans ((if_pos rfl).trans ?_)))))))
  rcases hx with rfl | rfl | rfl
  · exact (if_pos rfl).trans (hJ _ _ _)
  · exact (if_neg (show ¬ vx 2 = 0 by decide)).trans ((ob_eq (emit_eq hs (vx 2))).trans (hJ _ _ _))
  · exact (if_neg (show ¬ vx 3 = 0 by decide)).trans ((ob_eq (emit_eq hs (vx 3))).trans (hJ _ _ _))
/-- the reference: a sign -/
theorem l14_sign {v1 : Int32} {i z w1 : Nat} (hT : TX bytes tape E) (hi : i < 1000) (hz : Mo_sumSign (ch bytes E i) = some (nI z)) (h2 : 2 ≤ z) (h6 : z ≤ 6) {f num op c w c1 : Int32} {said waitsAt said1 : Nat → Int32} (hcl : Mo_closesSums c w said waitsAt (if z < 4 then 1 else 0) = some (c1, nI w1, said1)) (hw1 : w1 < 260) {R : Int32 × S8}
    (hR : FacTo tape E v1 (nI (i + 1), f, num, op, c1, nI (w1 + 1), said1, upd waitsAt w1 (nI (z * 1048576))) R) : L14To tape E v1 (nI i, f, num, op, c, w, said, waitsAt) R := by
  obtain ⟨x, h1, h3⟩ := hR
  have hJ : Mo_readsSum_L14_J38 v1 (nI z) (if z < 4 then 1 else 0) tape (nI i) (nI E) f num op c w said waitsAt = (if x.1 = 0 then (some (.inr (.inl x.2))) else (some (.inl x.2))) := by
    unfold Mo_readsSum_L14_J38 Mo_readsSum_L14_J163
    refine (ob_eq hcl).trans ((gd_eq (ixN hw1 (by decide))).trans ?_)
    show (ob (Mo_readsFactor tape (nI i + 1) (nI E) f num op c1 (nI w1 + 1) said1 (upd waitsAt (nI w1).toNatClampNeg (1048576 * nI z))) _) = _
    rw [show nI i + 1 = nI (i + 1) from nI_ad i 1, show nI w1 + 1 = nI (w1 + 1) from nI_ad w1 1, nI_clamp (by omega), big z]
    exact ob_eq h1
  have hstep : Mo_readsSum_L14 v1 tape (nI E) (nI i, f, num, op, c, w, said, waitsAt) = (if x.1 = 0 then (some (.inr (.inl x.2))) else (some (.inl x.2))) := by
    unfold Mo_readsSum_L14
    refine (ob_eq (here_eq hT (by omega))).trans ((ob_eq hz).trans ((if_neg (fun y => nI_pos (show z < 2 ^ 31 by omega) (by rw [y]; decide))).trans ?_))
    by_cases h4 : z < 4
    · rw [if_pos h4] at hJ
      exact (if_pos ((nI_ltN (b := 4) (by omega) (by decide)).mpr h4)).trans hJ
    · rw [if_neg h4] at hJ
      exact (if_neg (fun y => h4 ((nI_ltN (b := 4) (by omega) (by decide)).mp y))).trans hJ
  rcases h3 with ⟨h4, rfl⟩ | ⟨h4, r, h5, h6⟩
  · rw [if_pos h4] at hstep
    exact ⟨_, lp_inr hstep, rfl⟩
  · rw [if_neg (by rw [h4]; exact one_ne0)] at hstep
    exact ⟨r, lp_inl hstep h5, h6⟩
theorem sumSign_eq {y : Int32} {z : Nat} (h : (z = 2 ∧ y = 43) ∨ (z = 3 ∧ y = 45) ∨ (z = 4 ∧ y = 42) ∨ (z = 5 ∧ y = 47) ∨ (z = 6 ∧ y = 37)) : Mo_sumSign y = some (nI z) ∧ sgnT z = y ∧ 2 ≤ z ∧ z ≤ 6 := by
  rcases h with ⟨rfl, rfl⟩ | ⟨rfl, rfl⟩ | ⟨rfl, rfl⟩ | ⟨rfl, rfl⟩ | ⟨rfl, rfl⟩ <;> exact ⟨rfl, rfl, by decide, by decide⟩
theorem sum_spec (hT : TX bytes tape E) (hE : E ≤ 240) {a : Nat} (ha : a ≤ 6) (hf : FacSpec bytes tape E (Law_readFactorO rs) a) : SumSpec bytes tape E (Law_readSumO rs) a := by
  intro i0 c0 s0 w0 v code0 said0 waits0 P0 f num0 hi0 hs0 hc0 hw0 hv hP0 hN0
  have hgo : ∀ {x1 : Int32 × Int32 × Int32 × (Nat → Int32) × Int32} {r : (Int32 × Int32 × Int32 × (Nat → Int32) × Int32) ⊕ (Int32 × Int32 × Int32 × (Nat → Int32) × Int32)} {t : Int32 × Int32 × Int32 × (Nat → Int32) × Int32}, Law_readFactorO rs bytes (nI E) (nI i0) 0 code0 (nI s0) (nI a) = some x1 → lp (Law_readSumO_L9 rs (nI a) bytes) (0, 0, x1.1, x1.2.1, x1.2.2.1, x1.2.2.2.1, x1.2.2.2.2) = some r → (r = .inl t ∨ r = .inr t) → Law_readSumO rs bytes (nI E) (nI i0) 0 code0 (nI s0) (nI a) = some t := by
    intro x1 r t h1 h2 h3
    unfold Law_readSumO
    refine (ob_eq h1).trans ((ob_eq h2).trans ?_)
    rcases h3 with rfl | rfl <;> rfl
  rcases hf i0 c0 s0 w0 v code0 said0 waits0 P0 f num0 hi0 hs0 hc0 hw0 hv hP0 with ⟨q, F, code', s', hq, hs', g1, g2, R, g3, g4⟩ | ⟨j, code1, s1, c1, P1, said1, waits1, num1, g1, g2, g3, g4, g5, g6, g7, g8, g9, g10, g11, g12, g12d, g13⟩
  · left
    obtain ⟨r, code2, s2, k1, k2, k3⟩ := dead9 (rs := rs) (bytes := bytes) hq (show 0 ≤ 240 by omega) hs' g2 (nI a) 0 code'
    exact ⟨q, F, code2, s2, hq, k1, hgo g1 k2 k3, g2, R, g3, g4⟩
  · have hloop := lp_inv2 (f := Law_readSumO_L9 rs (nI a) bytes) (fun k s => ∃ (i c sz x m : Nat) (P : Nat → Nat) (code said waitsAt : Nat → Int32) (num : Int32), s = (vx x, nI k, nI E, nI i, 0, code, nI sz) ∧ i0 + 1 + 2 * k ≤ i ∧ i ≤ E ∧ sz + cnt x + 2 * i0 ≤ s0 + 2 * i ∧ c0 ≤ c ∧ c + cnt x + cnt m + i0 ≤ c0 + i ∧ P c + cnt m = sz ∧ s0 ≤ P c ∧ (m ≠ 0 → code (P c) = sgnT m) ∧ (∀ k, k ≤ c0 → P k = P0 k) ∧ (∀ y, y < s0 → code y = code0 y) ∧ (∀ k, k < c0 → said k = said0 k) ∧ (∀ y, y < w0 → waitsAt y = waits0 y) ∧ PS waitsAt w0 x m ∧ Seg code said P c0 c ∧ (∀ d, d + 2 * (6 - a) + 3 ≤ 20 → DepS said c0 c d (d + 1 + cnt x + cnt m)) ∧ ∀ R, L14To tape E (nI v) (nI i, f, num, nI a, nI c, nI (w0 + cnt x + cnt m), said, waitsAt) R → FacTo tape E (nI v) (nI i0, f, num0, nI a, nI c0, nI w0, said0, waits0) R)
      240 (fun r => (∃ q F code' s', q < 1000 ∧ s' ≤ 640 ∧ (r = .inl (0, nI q, F, code', nI s') ∨ r = .inr (0, nI q, F, code', nI s')) ∧ ¬ F = 0 ∧ ∃ R, FacTo tape E (nI v) (nI i0, f, num0, nI a, nI c0, nI w0, said0, waits0) R ∧ SBad F R) ∨
        ∃ j code' s' c' P' said' waitsAt' x m num', r = .inl (nI E, nI j, 0, code', nI s') ∧ i0 < j ∧ j ≤ E ∧ (¬ ch bytes E j = 42 ∧ ¬ ch bytes E j = 47 ∧ ¬ ch bytes E j = 37 ∧ ¬ ch bytes E j = 43 ∧ ¬ ch bytes E j = 45) ∧ s' + 2 * i0 ≤ s0 + 2 * j ∧ c0 ≤ c' ∧ c' + cnt x + cnt m + i0 ≤ c0 + j ∧ P' c' + cnt m + cnt x = s' ∧ (m ≠ 0 → code' (P' c') = sgnT m) ∧ (x ≠ 0 → code' (P' c' + cnt m) = sgnT x) ∧ (∀ k, k ≤ c0 → P' k = P0 k) ∧ (∀ y, y < s0 → code' y = code0 y) ∧ (∀ k, k < c0 → said' k = said0 k) ∧ (∀ y, y < w0 → waitsAt' y = waits0 y) ∧ PS waitsAt' w0 x m ∧ Seg code' said' P' c0 c' ∧ (∀ d, d + 2 * (6 - a) + 3 ≤ 20 → DepS said' c0 c' d (d + 1 + cnt x + cnt m)) ∧
          ∀ R, L14To tape E (nI v) (nI j, f, num', nI a, nI c', nI (w0 + cnt x + cnt m), said', waitsAt') R → FacTo tape E (nI v) (nI i0, f, num0, nI a, nI c0, nI w0, said0, waits0) R)
      ?_ ?_ 0 (0, 0, nI E, nI j, 0, code1, nI s1) (Nat.zero_le _) ⟨j, c1, s1, 0, 0, P1, code1, said1, waits1, num1, rfl, by omega, g3, by rw [cnt_0]; omega, g5, by rw [cnt_0]; omega, by rw [cnt_0, g7, Nat.add_zero], ?_, fun z => absurd rfl z, g8, g9, g10, g11, ⟨Or.inl rfl, Or.inl rfl, fun z => absurd rfl z, fun z => absurd rfl z⟩, g12, fun d hd => by rw [cnt_0]; exact g12d d (by omega), g13⟩
    · obtain ⟨r, r1, r2⟩ := hloop
      rcases r2 with ⟨q, F, code', s', k1, k2, k3, k4, k5⟩ | ⟨j', code', s', c', P', said', waitsAt', x, m, num', rfl, k⟩
      · exact Or.inl ⟨q, F, code', s', k1, k2, hgo g1 r1 k3, k4, k5⟩
      · exact Or.inr ⟨j', code', s', c', P', said', waitsAt', x, m, num', hgo g1 r1 (Or.inl rfl), k⟩
    · rintro k st hk ⟨i, c, sz, x, m, P, code, said, waitsAt, num, rfl, i1, i2, i3, i4, i5, i6, i6', i7, i8, i9, i10, i11, i12, i13, i13d, i14⟩
      have cx := cnt_le x
      have cm := cnt_le m
      have hNb : NoSign waitsAt w0 := by
        rcases hN0 with z | ⟨kd, ar, n1, n2, n3, n4⟩
        · exact Or.inl z
        · rcases Nat.eq_zero_or_pos w0 with z | z
          · exact Or.inl z
          · exact Or.inr ⟨kd, ar, n1, n2, n3, (i11 _ (by omega)).trans n4⟩
      -- a fault in a factor
      have fault : ∀ {v2 : Int32} {q : Nat} {F : Int32} {code' : Nat → Int32} {s' : Nat} {R : Int32 × S8}, q < 1000 → s' ≤ 640 → ¬ F = 0 → Law_readSumO_L9 rs (nI a) bytes (vx x, nI k, nI E, nI i, 0, code, nI sz) = some (.inl (v2, nI (k + 1), 0, nI q, F, code', nI s')) → L14To tape E (nI v) (nI i, f, num, nI a, nI c, nI (w0 + cnt x + cnt m), said, waitsAt) R → SBad F R →
          ∃ r, lp (Law_readSumO_L9 rs (nI a) bytes) (vx x, nI k, nI E, nI i, 0, code, nI sz) = some r ∧ ∃ q F code' s', q < 1000 ∧ s' ≤ 640 ∧ (r = .inl (0, nI q, F, code', nI s') ∨ r = .inr (0, nI q, F, code', nI s')) ∧ ¬ F = 0 ∧ ∃ R, FacTo tape E (nI v) (nI i0, f, num0, nI a, nI c0, nI w0, said0, waits0) R ∧ SBad F R := by
        intro v2 q F code' s' R hq hs' hF h1 h2 h3
        obtain ⟨r, code2, s2, k1, k2, k3⟩ := dead9 (rs := rs) (bytes := bytes) hq (show k + 1 ≤ 240 by omega) hs' hF (nI a) v2 code'
        exact ⟨r, lp_inl h1 k2, q, F, code2, s2, hq, k1, k3, hF, R, i14 R h2, h3⟩
      by_cases hmul : ch bytes E i = 42 ∨ ch bytes E i = 47 ∨ ch bytes E i = 37
      · -- a sign of products
        obtain ⟨z, hz⟩ : ∃ z, (z = 4 ∧ ch bytes E i = 42) ∨ (z = 5 ∧ ch bytes E i = 47) ∨ (z = 6 ∧ ch bytes E i = 37) := by
          rcases hmul with h | h | h
          · exact ⟨4, Or.inl ⟨rfl, h⟩⟩
          · exact ⟨5, Or.inr (Or.inl ⟨rfl, h⟩)⟩
          · exact ⟨6, Or.inr (Or.inr ⟨rfl, h⟩)⟩
        obtain ⟨z1, z2, z3, z4⟩ := sumSign_eq (z := z) (Or.inr (Or.inr hz))
        have z4' : 4 ≤ z := by omega
        have hiE : i < E := by
          rcases ch_cases hT i with e | ⟨e, -⟩
          · rw [e] at hmul; exact absurd hmul (by decide)
          · exact e
        have hcl := closes0 (said := said) i12 hNb (show w0 + 2 ≤ 260 by omega) (show c < 260 by omega)
        obtain ⟨P2, t1, t2, t3⟩ := seg_closed (x := 0) (s := sz) i4 i13 (by rw [cnt_0, Nat.add_zero]; exact i6) i7 (fun z => absurd rfl z) (Or.inl rfl) i12.2.1
        rw [cnt_0, note_0, Nat.add_zero] at t1
        rw [cnt_0, Nat.add_zero] at t2
        have hsign : ∀ {R}, FacTo tape E (nI v) (nI (i + 1), f, num, nI a, nI (c + cnt m), nI (w0 + cnt x + 1), note said c m, upd waitsAt (w0 + cnt x) (nI (z * 1048576))) R → L14To tape E (nI v) (nI i, f, num, nI a, nI c, nI (w0 + cnt x + cnt m), said, waitsAt) R := fun hR => l14_sign hT (by omega) z1 z3 z4 (by rw [if_neg (by omega)]; exact hcl) (by omega) hR
        rcases hf (i + 1) (c + cnt m) sz (w0 + cnt x + 1) v code (note said c m) (upd waitsAt (w0 + cnt x) (nI (z * 1048576))) P2 f num (by omega) (by omega) (by omega) (by omega) (by omega) t2 with ⟨q, F, code', s', hq, hs', b1, b2, R, b3, b4⟩ | ⟨j', code', s', c', P', said', waitsAt', num', b1, b2, b3, b4, b5, b6, b7, b8, b9, b10, b11, b12, b12d, b13⟩
        · obtain ⟨y3, code3, s3, e1, e2⟩ := emit_any code' hs' (ch bytes E i)
          obtain ⟨r, r1, r2⟩ := fault hq e2 b2 (l9_mul hT (by omega) hk rfl hmul (nI a) (vx x) code b1 e1) (hsign b3) b4
          exact Or.inr ⟨r, r1, Or.inl r2⟩
        · have he := emit_eq (code := code') (show s' < 640 by omega) (ch bytes E i)
          refine Or.inl ⟨_, l9_mul hT (by omega) hk rfl hmul (nI a) (vx x) code b1 he, j', c', s' + 1, x, z, P', upd code' s' (ch bytes E i), said', waitsAt', num', rfl, by omega, b3, by omega, by omega, by rw [cnt_1 (show z ≠ 0 by omega)]; omega, by rw [cnt_1 (show z ≠ 0 by omega), b7], ?_, fun _ => by rw [b7, upd_at, z2], fun k hk => (b8 k (by omega)).trans ((t3 k (by omega)).trans (i8 k hk)), fun y hy => ?_, fun k hk => (b10 k (by omega)).trans ((note_lt (by omega)).trans (i10 k hk)), fun y hy => (b11 y (by omega)).trans ((upd_ne (by omega)).trans (i11 y hy)), ⟨i12.1, Or.inr (by omega), fun e => ?_, fun _ => ?_⟩, ?_, fun d hd => ?_, fun R hR => i14 R (hsign (b13 R ?_))⟩
          · have := seg_up t1 (c + cnt m - c0) c0 (by omega) (by omega)
            have := seg_up b12 (c' - (c + cnt m)) (c + cnt m) (by omega) (by omega)
            have := b8 (c + cnt m) (by omega)
            have := t3 c (by omega)
            omega
          · rw [upd_ne (by have := seg_up b12 (c' - (c + cnt m)) (c + cnt m) (by omega) (by omega); have := b8 (c + cnt m) (by omega); omega)]
            exact (b9 y (by omega)).trans (i9 y hy)
          · rw [b11 w0 (by omega), upd_ne (by rw [cnt_1 e]; omega)]; exact i12.2.2.1 e
          · rw [b11 (w0 + cnt x) (by omega)]; exact upd_at _ _ _
          · have k1 : Seg code' said' P' c0 (c + cnt m) := seg_keep t1 (fun y hy => b9 y (by omega)) (fun k hk => b10 k hk) (fun k hk => b8 k hk)
            exact seg_keep (seg_app k1 b12 b5) (fun y hy => upd_ne (by omega)) (fun _ _ => rfl) (fun _ _ => rfl)
          · have q1 := dep_note i4 (i13d d hd) (by have := i12.2.1; omega) (by omega) (by omega)
            have q2 := b12d (d + 1 + cnt x) (by omega)
            rw [cnt_1 (show z ≠ 0 by omega)]
            exact dep_app (by omega) b5 (dep_keep q1 (fun k _ hk => b10 k hk)) q2
          · rw [cnt_1 (show z ≠ 0 by omega)] at hR; exact hR
      · by_cases hadd : ch bytes E i = 43 ∨ ch bytes E i = 45
        · obtain ⟨z, hz⟩ : ∃ z, (z = 2 ∧ ch bytes E i = 43) ∨ (z = 3 ∧ ch bytes E i = 45) := by
            rcases hadd with h | h
            · exact ⟨2, Or.inl ⟨rfl, h⟩⟩
            · exact ⟨3, Or.inr ⟨rfl, h⟩⟩
          obtain ⟨z1, z2, z3, z4⟩ := sumSign_eq (z := z) (by rcases hz with h | h; exact Or.inl h; exact Or.inr (Or.inl h))
          have hiE : i < E := by
            rcases ch_cases hT i with e | ⟨e, -⟩
            · rw [e] at hadd; exact absurd hadd (by decide)
            · exact e
          have hcl := closes1 (said := said) i12 hNb (show w0 + 2 ≤ 260 by omega) (show c + 1 < 260 by omega)
          have hcd : ∀ y, y < sz → (if x = 0 then code else upd code sz (sgnT x)) y = code y := fun y hy => by
            by_cases e : x = 0
            · rw [if_pos e]
            · rw [if_neg e, upd_ne (by omega)]
          obtain ⟨P2, t1, t2, t3⟩ := seg_closed (code := if x = 0 then code else upd code sz (sgnT x)) (s := sz + cnt x) i4 (seg_keep i13 (fun y hy => hcd y (by omega)) (fun _ _ => rfl) (fun _ _ => rfl)) (by omega) (fun e => by
            have := cnt_1 e
            rw [hcd _ (by omega)]; exact i7 e) (fun e => by rw [if_neg e, i6, upd_at]) i12.1 i12.2.1
          have hsign : ∀ {R}, FacTo tape E (nI v) (nI (i + 1), f, num, nI a, nI (c + cnt m + cnt x), nI (w0 + 1), note (note said c m) (c + cnt m) x, upd waitsAt w0 (nI (z * 1048576))) R → L14To tape E (nI v) (nI i, f, num, nI a, nI c, nI (w0 + cnt x + cnt m), said, waitsAt) R := fun hR => l14_sign hT (by omega) z1 z3 z4 (by rw [if_pos (by omega)]; exact hcl) (by omega) hR
          have hvz : vx z = ch bytes E i := by
            unfold vx; rw [if_neg (by omega)]; exact z2
          rcases hf (i + 1) (c + cnt m + cnt x) (sz + cnt x) (w0 + 1) v (if x = 0 then code else upd code sz (sgnT x)) (note (note said c m) (c + cnt m) x) (upd waitsAt w0 (nI (z * 1048576))) P2 f num (by omega) (by omega) (by omega) (by omega) (by omega) t2 with ⟨q, F, code', s', hq, hs', b1, b2, R, b3, b4⟩ | ⟨j', code', s', c', P', said', waitsAt', num', b1, b2, b3, b4, b5, b6, b7, b8, b9, b10, b11, b12, b12d, b13⟩
          · obtain ⟨r, r1, r2⟩ := fault hq hs' b2 (l9_add hT (by omega) hk rfl hadd (nI a) code i12.1 (by omega) b1) (hsign b3) b4
            exact Or.inr ⟨r, r1, Or.inl r2⟩
          · have hst := l9_add hT (by omega) hk rfl hadd (nI a) code i12.1 (show sz < 640 by omega) b1
            rw [← hvz] at hst
            refine Or.inl ⟨_, hst, j', c', s', z, 0, P', code', said', waitsAt', num', rfl, by omega, b3, by rw [cnt_1 (show z ≠ 0 by omega)]; omega, by omega, by rw [cnt_1 (show z ≠ 0 by omega), cnt_0]; omega, by rw [cnt_0, b7, Nat.add_zero], ?_, fun e => absurd rfl e, fun k hk => (b8 k (by omega)).trans ((t3 k (by omega)).trans (i8 k hk)), fun y hy => (b9 y (by omega)).trans ((hcd y (by omega)).trans (i9 y hy)), fun k hk => (b10 k (by omega)).trans ((note_lt (by omega)).trans ((note_lt (by omega)).trans (i10 k hk))), fun y hy => (b11 y (by omega)).trans ((upd_ne (by omega)).trans (i11 y hy)), ⟨Or.inr (by omega), Or.inl rfl, fun _ => ?_, fun e => absurd rfl e⟩, ?_, fun d hd => ?_, fun R hR => i14 R (hsign (b13 R ?_))⟩
            · have := seg_up t1 (c + cnt m + cnt x - c0) c0 (by omega) (by omega)
              have := seg_up b12 (c' - (c + cnt m + cnt x)) (c + cnt m + cnt x) (by omega) (by omega)
              have := b8 (c + cnt m + cnt x) (by omega)
              omega
            · rw [b11 w0 (by omega)]; exact upd_at _ _ _
            · have k1 : Seg code' said' P' c0 (c + cnt m + cnt x) := seg_keep t1 (fun y hy => b9 y (by omega)) (fun k hk => b10 k hk) (fun k hk => b8 k hk)
              exact seg_app k1 b12 b5
            · have q1 := dep_note (by omega) (dep_note i4 (i13d d hd) (by have := i12.2.1; omega) (by omega) (by omega)) (by have := i12.1; omega) (by omega) (by omega)
              have q2 := b12d (d + 1) (by omega)
              rw [cnt_1 (show z ≠ 0 by omega), cnt_0]
              exact dep_app (by omega) b5 (dep_keep q1 (fun k _ hk => b10 k hk)) q2
            · rw [cnt_1 (show z ≠ 0 by omega), cnt_0, Nat.add_zero] at hR; exact hR
        · -- the end of the sum
          have hne : ¬ ch bytes E i = 42 ∧ ¬ ch bytes E i = 47 ∧ ¬ ch bytes E i = 37 ∧ ¬ ch bytes E i = 43 ∧ ¬ ch bytes E i = 45 := ⟨fun e => hmul (Or.inl e), fun e => hmul (Or.inr (Or.inl e)), fun e => hmul (Or.inr (Or.inr e)), fun e => hadd (Or.inl e), fun e => hadd (Or.inr e)⟩
          have hcd : ∀ y, y < sz → (if x = 0 then code else upd code sz (sgnT x)) y = code y := fun y hy => by
            by_cases e : x = 0
            · rw [if_pos e]
            · rw [if_neg e, upd_ne (by omega)]
          refine Or.inr ⟨_, lp_inr (l9_end hT (by omega) hk rfl hne (nI a) code i12.1 (by omega)), Or.inr ⟨i, if x = 0 then code else upd code sz (sgnT x), sz + cnt x, c, P, said, waitsAt, x, m, num, rfl, by omega, i2, hne, by omega, i4, by omega, by omega, fun e => ?_, fun e => ?_, i8, fun y hy => (hcd y (by omega)).trans (i9 y hy), i10, i11, i12, seg_keep i13 (fun y hy => hcd y (by omega)) (fun _ _ => rfl) (fun _ _ => rfl), i13d, i14⟩⟩
          · have := cnt_1 e
            rw [hcd _ (by omega)]; exact i7 e
          · rw [if_neg e, i6, upd_at]
    · rintro st ⟨i, c, sz, x, m, P, code, said, waitsAt, num, -, i1, i2, -⟩
      omega
    · have := seg_up g12 (c1 - c0) c0 (by omega) (by omega)
      have := g8 c0 (by omega)
      omega
end SV
theorem readSum_spec {bytes tape : Nat → Int32} {E : Nat} (hT : TX bytes tape E) (hE : E ≤ 240) : ∀ n a, a ≤ 6 → 7 ≤ n + a → SumSpec bytes tape E (Law_readSum n) a := by
  intro n
  induction n with
  | zero => intro a h1 h2; omega
  | succ n ih =>
    intro a h1 h2
    exact sum_spec hT hE h1 (fac_spec hT hE h1 (fun h => ih (a + 1) (by omega) (by omega)))
