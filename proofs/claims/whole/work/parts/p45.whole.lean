/-! A WHOLE LAND, read by both -/
abbrev RT8 : Type := Int32 × Int32 × Int32 × (Nat → Int32) × (Nat → Int32) × (Nat → Int32) × (Nat → Int32) × Int32
noncomputable def BhdX (tape : Nat → Int32) (E : Nat) (num : Int32) (part : Nat → Int32) (x6 : (Int32 × Int32 × (Nat → Int32) × (Nat → Int32) × (Nat → Int32) × Int32) ⊕ (Int32 × Int32 × (Nat → Int32) × (Nat → Int32) × (Nat → Int32) × Int32)) : Option ((Int32 × RT8) ⊕ RT8 ⊕ RT8 ⊕ RT8 ⊕ RT8) :=
  sm x6 (fun x6 => some (.inr (.inr (.inr (.inl (x6.1, x6.2.1, num, x6.2.2.1, x6.2.2.2.1, part, x6.2.2.2.2.1, x6.2.2.2.2.2)))))) (fun x6 => Mo_readsWhole_L14_J149 tape x6.1 (nI E) x6.2.1 num x6.2.2.1 x6.2.2.2.1 part x6.2.2.2.2.1 x6.2.2.2.2.2)
/-- what is behind a part leads to r -/
def Bhd (tape : Nat → Int32) (E : Nat) (x : Int32 × Int32 × (Nat → Int32) × (Nat → Int32) × (Nat → Int32) × Int32) (num : Int32) (part : Nat → Int32) (r : RT8 ⊕ RT8 ⊕ RT8 ⊕ RT8) : Prop :=
  ∃ x6 y, lp (Mo_readsWhole_L100 tape (nI E) part) x = some x6 ∧ BhdX tape E num part x6 = some y ∧ ((∃ s, y = .inl s ∧ lp (Mo_readsWhole_L14 tape (nI E)) s = some r) ∨ y = .inr r)
/-- the reference has found fault F -/
def Bad (F : Int32) (r : RT8 ⊕ RT8 ⊕ RT8 ⊕ RT8) : Prop := ∃ p f a b c d e g, (r = .inl (p, f, a, b, c, d, e, g) ∧ F = (-1000) * 5 - p) ∨ r = .inr (.inl (p, F, a, b, c, d, e, g)) ∨ r = .inr (.inr (.inl (p, F, a, b, c, d, e, g))) ∨ (r = .inr (.inr (.inr (p, f, a, b, c, d, e, g))) ∧ ¬ g = 0 ∧ F = (-1000) * 1 - p)
def Row (d n : Nat) (adj : Nat → Nat → Bool) (many nx : Nat → Int32) : Prop := many d = nI n ∧ RMk d n adj nx
def Same (d : Nat) (many nx part many' nx' part' : Nat → Int32) : Prop := ∀ e, e < d → many' e = many e ∧ part' e = part e ∧ ∀ w, w < 12 → nx' (12 * e + w) = nx (12 * e + w)
theorem same_refl (d : Nat) (many nx part : Nat → Int32) : Same d many nx part many nx part := fun _ _ => ⟨rfl, rfl, fun _ _ => rfl⟩
theorem same_trans {d : Nat} {a b c a' b' c' a'' b'' c'' : Nat → Int32} (h1 : Same d a b c a' b' c') (h2 : Same d a' b' c' a'' b'' c'') : Same d a b c a'' b'' c'' := fun e he => ⟨(h2 e he).1.trans (h1 e he).1, (h2 e he).2.1.trans (h1 e he).2.1, fun w hw => ((h2 e he).2.2 w hw).trans ((h1 e he).2.2 w hw)⟩
theorem same_le {d d' : Nat} (h : d' ≤ d) {a b c a' b' c' : Nat → Int32} (h1 : Same d a b c a' b' c') : Same d' a b c a' b' c' := fun e he => h1 e (by omega)
theorem rmk_of {d n : Nat} (hn : n ≤ 12) {adj : Nat → Nat → Bool} {nx nx' : Nat → Int32} (h : ∀ w, w < 12 → nx' (12 * d + w) = nx (12 * d + w)) (hr : RMk d n adj nx) : RMk d n adj nx' := fun w hw => (h w (by omega)).trans (hr w hw)
section WH
variable {bytes tape : Nat → Int32} {E : Nat}
theorem l100_end (hT : TX bytes tape E) {j d : Nat} (hj : j < 1000) (hd : d < 4) (h : ¬ ch bytes E j = 41 ∨ d = 0) (part : Nat → Int32) (f : Int32) (many nx new : Nat → Int32) :
    lp (Mo_readsWhole_L100 tape (nI E) part) (nI j, f, many, nx, new, nI d) = some (.inr (nI j, f, many, nx, new, nI d)) := by
  refine lp_inr ?_
  unfold Mo_readsWhole_L100
  refine (ob_eq (here_eq hT (by omega))).trans ?_
  by_cases h1 : ch bytes E j = 41
  · rw [if_pos h1]
    have hd0 : d = 0 := h.resolve_left (fun z => z h1)
    subst hd0
    exact if_pos (show (nI 0 : Int32) ≤ 0 by decide)
  · exact if_neg h1
theorem aft_star (hT : TX bytes tape E) {j d : Nat} (hj : j < 1000) (hd : d < 4) (h : ch bytes E j = 42) {part : Nat → Int32} {f num : Int32} {many nx new : Nat → Int32} {r : RT8 ⊕ RT8 ⊕ RT8 ⊕ RT8}
    (hr : lp (Mo_readsWhole_L14 tape (nI E)) (1, nI (j + 1), f, num, many, nx, part, new, nI d) = some r) : Bhd tape E (nI j, f, many, nx, new, nI d) num part r := by
  refine ⟨_, _, l100_end hT hj hd (Or.inl (by rw [h]; decide)) part f many nx new, ?_, Or.inl ⟨_, rfl, hr⟩⟩
  show Mo_readsWhole_L14_J149 tape (nI j) (nI E) f num many nx part new (nI d) = _
  unfold Mo_readsWhole_L14_J149 Mo_readsWhole_L14_J163
  refine (ob_eq (here_eq hT (by omega))).trans ((if_pos h).trans ((if_neg one_ne0).trans ?_))
  rw [show nI j + 1 = nI (j + 1) from nI_ad j 1]
theorem aft_end (hT : TX bytes tape E) {j d : Nat} (hj : j < 1000) (hd : d < 4) (h : ¬ ch bytes E j = 42) (h2 : ¬ ch bytes E j = 41 ∨ d = 0) (part : Nat → Int32) (f num : Int32) (many nx new : Nat → Int32) :
    Bhd tape E (nI j, f, many, nx, new, nI d) num part (.inr (.inr (.inr (nI j, f, num, many, nx, part, new, nI d)))) := by
  refine ⟨_, .inl (0, nI j, f, num, many, nx, part, new, nI d), l100_end hT hj hd h2 part f many nx new, ?_, Or.inl ⟨_, rfl, lp_inr ?_⟩⟩
  · show Mo_readsWhole_L14_J149 tape (nI j) (nI E) f num many nx part new (nI d) = _
    unfold Mo_readsWhole_L14_J149 Mo_readsWhole_L14_J163
    exact (ob_eq (here_eq hT (by omega))).trans ((if_neg h).trans (if_pos rfl))
  · unfold Mo_readsWhole_L14
    exact if_pos rfl
theorem l100_close (hT : TX bytes tape E) {j d : Nat} (hj : j < 1000) (hd : d < 3) (h : ch bytes E j = 41) (part : Nat → Int32) (f : Int32) (many nx new : Nat → Int32) :
    Mo_readsWhole_L100 tape (nI E) part (nI j, f, many, nx, new, nI (d + 1)) = ob (Mo_joins f many nx part new (nI d)) fun x2 => if x2.1 = 0 then (some (.inr (.inl (nI (j + 1), x2.2.1, x2.2.2.1, x2.2.2.2.1, x2.2.2.2.2, nI d)))) else (some (.inl (nI (j + 1), x2.2.1, x2.2.2.1, x2.2.2.2.1, x2.2.2.2.2, nI d))) := by
  unfold Mo_readsWhole_L100
  refine (ob_eq (here_eq hT (by omega))).trans ((if_pos h).trans ((if_neg ?_).trans ?_))
  · intro z
    have := (nI_leN (a := d + 1) (b := 0) (by omega) (by decide)).mp z
    omega
  · show (ob (Mo_joins f many nx part new (nI (d + 1) - 1)) fun x2 => if x2.1 = 0 then (some (Sum.inr (Sum.inl (nI j + 1, x2.2.1, x2.2.2.1, x2.2.2.2.1, x2.2.2.2.2, nI (d + 1) - 1)))) else (some (Sum.inl (nI j + 1, x2.2.1, x2.2.2.1, x2.2.2.2.1, x2.2.2.2.2, nI (d + 1) - 1)))) = _
    rw [show nI (d + 1) - 1 = nI d from nI_subN (b := 1) (by omega), show nI j + 1 = nI (j + 1) from nI_ad j 1]
theorem aft_close (hT : TX bytes tape E) {j d : Nat} (hj : j < 1000) (hd : d < 3) (h : ch bytes E j = 41) {part : Nat → Int32} {f num : Int32} {many nx new : Nat → Int32} {f' : Int32} {many' nx' new' : Nat → Int32} (hg : Mo_joins f many nx part new (nI d) = some (1, f', many', nx', new')) {r : RT8 ⊕ RT8 ⊕ RT8 ⊕ RT8}
    (hr : Bhd tape E (nI (j + 1), f', many', nx', new', nI d) num part r) : Bhd tape E (nI j, f, many, nx, new, nI (d + 1)) num part r := by
  obtain ⟨x6, y, h1, h2, h3⟩ := hr
  refine ⟨x6, y, lp_inl ?_ h1, h2, h3⟩
  exact (l100_close hT hj hd h part f many nx new).trans ((ob_eq hg).trans (if_neg one_ne0))
theorem aft_closebad (hT : TX bytes tape E) {j d : Nat} (hj : j < 1000) (hd : d < 3) (h : ch bytes E j = 41) {part : Nat → Int32} {f : Int32} (num : Int32) {many nx new : Nat → Int32} {F : Int32} {many' nx' new' : Nat → Int32} (hg : Mo_joins f many nx part new (nI d) = some (0, F, many', nx', new')) :
    Bhd tape E (nI j, f, many, nx, new, nI (d + 1)) num part (.inr (.inr (.inl (nI (j + 1), F, num, many', nx', part, new', nI d)))) :=
  ⟨.inl (nI (j + 1), F, many', nx', new', nI d), _, lp_inr ((l100_close hT hj hd h part f many nx new).trans ((ob_eq hg).trans (if_pos rfl))), rfl, Or.inr rfl⟩
/-- a plain part, by both -/
theorem plain_ok (hT : TX bytes tape E) (hE : E ≤ 260) {i d : Nat} (hi : i < 300) (hd : d < 3) (wp : Int32) (np : Nat → Int32) (f num : Int32) (many nx part new : Nat → Int32) :
    (∃ q F w' n' p' num' m' x' z', q < 400 ∧ LandReader_readShape bytes (nI E) (nI i) 0 wp np (ch bytes E i) = some (0, nI q, F, w', n') ∧ ¬ F = 0 ∧ Mo_readsPlain tape (nI i) (nI E) f num many nx part new (nI d) = some (0, p', F, num', m', x', z')) ∨
    ∃ j m adj np' nx' num', i + 2 ≤ j ∧ j ≤ E ∧ 1 ≤ m ∧ m ≤ 12 ∧ Sy adj ∧ CM m adj np' ∧ LandReader_readShape bytes (nI E) (nI i) 0 wp np (ch bytes E i) = some (nI E, nI j, 0, nI m, np') ∧ RMk (d + 1) m adj nx' ∧ (∀ k, k < 12 * (d + 1) → nx' k = nx k) ∧
      Mo_readsPlain tape (nI i) (nI E) f num many nx part new (nI d) = ob (Mo_joins f (upd many (d + 1) (nI m)) nx' part new (nI d)) fun x3 => gd (isB x3.1) (some (x3.1, nI j, x3.2.1, num', x3.2.2.1, x3.2.2.2.1, x3.2.2.2.2)) := by
  generalize hc : ch bytes E i = c
  have hhere : Mo_here tape (nI i) (nI E) = some c := hc ▸ here_eq hT (by omega)
  -- with a letter that tells a shape
  have main : ∀ (lo : Nat), 1 ≤ lo → lo ≤ 3 → (c = 82 → lo = 3) →
      (∀ r, (ob (Tape_digits bytes (nI E) (nI (i + 1)) 0 2) fun x2 => LandReader_readShape_J85 c (nI (i + 1)) x2.1 (nI lo) bytes x2.2.1 x2.2.2.1 x2.2.2.2 wp np) = some r → LandReader_readShape bytes (nI E) (nI i) 0 wp np c = some r) →
      (Mo_readsPlain tape (nI i) (nI E) f num many nx part new (nI d) = Mo_readsPlain_J71 c (nI lo) tape (nI (i + 1)) (nI E) f num many nx part new (nI d)) →
      ((∃ q F w' n' p' num' m' x' z', q < 400 ∧ LandReader_readShape bytes (nI E) (nI i) 0 wp np c = some (0, nI q, F, w', n') ∧ ¬ F = 0 ∧ Mo_readsPlain tape (nI i) (nI E) f num many nx part new (nI d) = some (0, p', F, num', m', x', z')) ∨
    ∃ j m adj np' nx' num', i + 2 ≤ j ∧ j ≤ E ∧ 1 ≤ m ∧ m ≤ 12 ∧ Sy adj ∧ CM m adj np' ∧ LandReader_readShape bytes (nI E) (nI i) 0 wp np c = some (nI E, nI j, 0, nI m, np') ∧ RMk (d + 1) m adj nx' ∧ (∀ k, k < 12 * (d + 1) → nx' k = nx k) ∧
      Mo_readsPlain tape (nI i) (nI E) f num many nx part new (nI d) = ob (Mo_joins f (upd many (d + 1) (nI m)) nx' part new (nI d)) fun x3 => gd (isB x3.1) (some (x3.1, nI j, x3.2.1, num', x3.2.2.1, x3.2.2.2.1, x3.2.2.2.2))) := by
    intro lo hl1 hl3 h82 hcls href
    obtain ⟨D, d1, d2, d3⟩ := dig_ex (ch bytes E) (i + 1) 2
    obtain ⟨p, n', hin⟩ := within_eq hT (i := i + 1) (by omega) d1 d2 d3 f num (nI lo) 12
    have hdg := digits_eq hT (i := i + 1) (m := 2) (by omega) (by omega) d1 d2 d3
    have hdec : ∀ q, q < D → ∃ d, d ≤ 9 ∧ ch bytes E (i + 1 + q) = nI (48 + d) := fun q hq => (isD_lt hT (d2 q hq)).2
    have hv := dval_lt hdec
    have hv2 : dval (ch bytes E) (i + 1) D < 100 := by
      have : (10 : Nat) ^ D ≤ 10 ^ 2 := Nat.pow_le_pow_right (by decide) d1
      omega
    generalize hvv : dval (ch bytes E) (i + 1) D = v at hin hdg hv2
    -- a dead tape keeps its fault
    have dead : ∀ (v : Nat) (p F : Int32), v < 100 → ¬ F = 0 → ∃ w' n', LandReader_readShape_J85 c (nI (i + 1)) (nI v) (nI lo) bytes 0 p F wp np = some (0, p, F, w', n') := by
      intro v p F hv hF
      unfold LandReader_readShape_J85 LandReader_readShape_J99
      by_cases c1 : v < lo
      · exact ⟨wp, np, (if_pos ((nI_ltN (by omega) (by omega)).mpr c1)).trans ((ob_eq (failN hF _ _)).trans rfl)⟩
      · by_cases c2 : v ≤ 12
        · obtain ⟨nx', g1, -⟩ := shape_cls c (n := v) c2 (by omega) (fun z => by have := h82 z; omega) wp np
          exact ⟨nI v, nx', (if_neg (fun z => c1 ((nI_ltN (by omega) (by omega)).mp z))).trans ((if_pos ((nI_leN (b := 12) (by omega) (by decide)).mpr c2)).trans ((ob_eq g1).trans rfl))⟩
        · exact ⟨wp, np, (if_neg (fun z => c1 ((nI_ltN (by omega) (by omega)).mp z))).trans ((if_neg (fun z => c2 ((nI_leN (b := 12) (by omega) (by decide)).mp z))).trans ((ob_eq (failN hF _ _)).trans rfl))⟩
    have refbad : ∀ {p F n' : Int32}, Mo_readsWithin tape (nI (i + 1)) (nI E) f num (nI lo) 12 = some (0, p, F, n') → Mo_readsPlain tape (nI i) (nI E) f num many nx part new (nI d) = some (0, p, F, n', many, nx, new) := by
      intro p F n' h
      rw [href]
      unfold Mo_readsPlain_J71
      exact (ob_eq h).trans (if_pos rfl)
    by_cases e : D = 0
    · left
      rw [if_pos e] at hin hdg
      have hF : ¬ flt 1 (i + 1) = 0 := flt_ne (by omega) (by omega)
      obtain ⟨w', n'', g⟩ := dead 0 (nI (i + 1)) (flt 1 (i + 1)) (by omega) hF
      exact ⟨i + 1, flt 1 (i + 1), w', n'', _, _, _, _, _, by omega, hcls _ ((ob_eq hdg).trans g), hF, refbad hin⟩
    · rw [if_neg e] at hin hdg
      by_cases e2 : isD (ch bytes E (i + 1 + D)) = true
      · left
        rw [if_pos e2] at hin hdg
        have hF : ¬ flt 2 (i + 1 + D) = 0 := flt_ne (by omega) (by omega)
        obtain ⟨w', n'', g⟩ := dead v (nI (i + 1 + D)) (flt 2 (i + 1 + D)) hv2 hF
        exact ⟨i + 1 + D, flt 2 (i + 1 + D), w', n'', _, _, _, _, _, by omega, hcls _ ((ob_eq hdg).trans g), hF, refbad hin⟩
      · rw [if_neg e2] at hin hdg
        have hF : ¬ flt 3 (i + 1) = 0 := flt_ne (by omega) (by omega)
        by_cases c1 : v < lo
        · left
          have c1' : nI v < nI lo := (nI_ltN (by omega) (by omega)).mpr c1
          rw [if_neg (fun z => z.1 c1')] at hin
          refine ⟨i + 1 + D, flt 3 (i + 1), wp, np, _, _, _, _, _, by omega, hcls _ ((ob_eq hdg).trans ?_), hF, refbad hin⟩
          unfold LandReader_readShape_J85 LandReader_readShape_J99
          exact (if_pos c1').trans ((ob_eq (fail0 _ _ _)).trans rfl)
        · have c1' : ¬ nI v < nI lo := fun z => c1 ((nI_ltN (by omega) (by omega)).mp z)
          by_cases c2 : v ≤ 12
          · right
            have c2' : nI v ≤ 12 := (nI_leN (b := 12) (by omega) (by decide)).mpr c2
            rw [if_pos ⟨c1', c2'⟩] at hin
            obtain ⟨np', g1, g2⟩ := shape_cls c (n := v) c2 (by omega) (fun z => by have := h82 z; omega) wp np
            obtain ⟨nx', g3, g4, g5⟩ := shape_ref c (n := v) (d := d + 1) c2 (by omega) many nx
            have hlast := (isD_lt hT (d2 (D - 1) (by omega))).1
            refine ⟨i + 1 + D, v, shp c v, np', nx', nI v, by omega, by omega, by omega, c2, shp_sy c v, g2, hcls _ ((ob_eq hdg).trans ?_), g4, fun k hk => g5 k (Or.inl hk), ?_⟩
            · unfold LandReader_readShape_J85
              exact (if_neg c1').trans ((if_pos c2').trans ((ob_eq g1).trans rfl))
            · rw [href]
              unfold Mo_readsPlain_J71
              refine (ob_eq hin).trans ((if_neg one_ne0).trans ?_)
              rw [show nI d + 1 = nI (d + 1) from nI_ad d 1]
              exact ob_eq g3
          · left
            have c2' : ¬ nI v ≤ 12 := fun z => c2 ((nI_leN (b := 12) (by omega) (by decide)).mp z)
            rw [if_neg (fun z => c2' z.2)] at hin
            refine ⟨i + 1 + D, flt 3 (i + 1), wp, np, _, _, _, _, _, by omega, hcls _ ((ob_eq hdg).trans ?_), hF, refbad hin⟩
            unfold LandReader_readShape_J85 LandReader_readShape_J99
            exact (if_neg c1').trans ((if_neg c2').trans ((ob_eq (fail0 _ _ _)).trans rfl))
  have e1 : nI i + 1 = nI (i + 1) := nI_ad i 1
  have hsk : Tape_skip (nI i) = some (nI (i + 1)) := by unfold Tape_skip; rw [e1]
  by_cases l : c = 76 ∨ c = 82 ∨ c = 83 ∨ c = 75
  · have hto : LandReader_readShape bytes (nI E) (nI i) 0 wp np c = LandReader_readShape_J40 c bytes (nI E) (nI i) 0 wp np := by
      unfold LandReader_readShape
      rcases l with h | h | h | h
      · exact if_pos h
      · exact (if_neg (by rw [h]; decide)).trans (if_pos h)
      · exact (if_neg (by rw [h]; decide)).trans ((if_neg (by rw [h]; decide)).trans (if_pos h))
      · exact (if_neg (by rw [h]; decide)).trans ((if_neg (by rw [h]; decide)).trans ((if_neg (by rw [h]; decide)).trans (if_pos h)))
    have hro : Mo_readsPlain tape (nI i) (nI E) f num many nx part new (nI d) = Mo_readsPlain_J39 c tape (nI i) (nI E) f num many nx part new (nI d) := by
      unfold Mo_readsPlain
      refine (ob_eq hhere).trans ?_
      rcases l with h | h | h | h
      · exact if_pos h
      · exact (if_neg (by rw [h]; decide)).trans (if_pos h)
      · exact (if_neg (by rw [h]; decide)).trans ((if_neg (by rw [h]; decide)).trans (if_pos h))
      · exact (if_neg (by rw [h]; decide)).trans ((if_neg (by rw [h]; decide)).trans ((if_neg (by rw [h]; decide)).trans (if_pos h)))
    by_cases h82 : c = 82
    · refine main 3 (by omega) (by omega) (fun _ => rfl) (fun r hr => ?_) ?_
      · rw [hto]; unfold LandReader_readShape_J40
        refine (ob_eq hsk).trans ?_
        obtain ⟨x2, hx2⟩ : ∃ x2, Tape_digits bytes (nI E) (nI (i + 1)) 0 2 = some x2 := by
          cases hd : Tape_digits bytes (nI E) (nI (i + 1)) 0 2 with
          | none => rw [hd] at hr; cases hr
          | some x => exact ⟨x, rfl⟩
        rw [ob_eq hx2] at hr
        exact (ob_eq hx2).trans ((if_pos h82).trans hr)
      · rw [hro]; unfold Mo_readsPlain_J39
        rw [if_pos h82, e1]; rfl
    · by_cases h83 : c = 83
      · refine main 2 (by omega) (by omega) (fun z => absurd z h82) (fun r hr => ?_) ?_
        · rw [hto]; unfold LandReader_readShape_J40
          refine (ob_eq hsk).trans ?_
          obtain ⟨x2, hx2⟩ : ∃ x2, Tape_digits bytes (nI E) (nI (i + 1)) 0 2 = some x2 := by
            cases hd : Tape_digits bytes (nI E) (nI (i + 1)) 0 2 with
            | none => rw [hd] at hr; cases hr
            | some x => exact ⟨x, rfl⟩
          rw [ob_eq hx2] at hr
          exact (ob_eq hx2).trans ((if_neg h82).trans ((if_pos h83).trans hr))
        · rw [hro]; unfold Mo_readsPlain_J39
          rw [if_neg h82, if_pos h83, e1]; rfl
      · refine main 1 (by omega) (by omega) (fun z => absurd z h82) (fun r hr => ?_) ?_
        · rw [hto]; unfold LandReader_readShape_J40
          refine (ob_eq hsk).trans ?_
          obtain ⟨x2, hx2⟩ : ∃ x2, Tape_digits bytes (nI E) (nI (i + 1)) 0 2 = some x2 := by
            cases hd : Tape_digits bytes (nI E) (nI (i + 1)) 0 2 with
            | none => rw [hd] at hr; cases hr
            | some x => exact ⟨x, rfl⟩
          rw [ob_eq hx2] at hr
          exact (ob_eq hx2).trans ((if_neg h82).trans ((if_neg h83).trans hr))
        · rw [hro]; unfold Mo_readsPlain_J39
          rw [if_neg h82, if_neg h83, e1]; rfl
  · left
    have n1 : ¬ c = 76 := fun z => l (Or.inl z)
    have n2 : ¬ c = 82 := fun z => l (Or.inr (Or.inl z))
    have n3 : ¬ c = 83 := fun z => l (Or.inr (Or.inr (Or.inl z)))
    have n4 : ¬ c = 75 := fun z => l (Or.inr (Or.inr (Or.inr z)))
    refine ⟨i, flt 1 i, wp, np, nI i, num, many, nx, new, by omega, ?_, flt_ne (by omega) (by omega), ?_⟩
    · unfold LandReader_readShape
      exact (if_neg n1).trans ((if_neg n2).trans ((if_neg n3).trans ((if_neg n4).trans ((ob_eq (fail0 _ _ _)).trans rfl))))
    · unfold Mo_readsPlain
      exact (ob_eq hhere).trans ((if_neg n1).trans ((if_neg n2).trans ((if_neg n3).trans ((if_neg n4).trans rfl))))
/-- the reference behind a part at depth d that began at i -/
def PartTo (tape : Nat → Int32) (E d i j m : Nat) (adj : Nat → Nat → Bool) (f num : Int32) (many nx part new : Nat → Int32) : Prop :=
  ∃ num' many' nx' part' new', Row (d + 1) m adj many' nx' ∧ Same d many nx part many' nx' part' ∧ many' d = many d ∧ (∀ w, w < 12 → nx' (12 * d + w) = nx (12 * d + w)) ∧ part' d = nI i ∧
    (∀ many'' nx'' new'', Mo_joins f many' nx' part' new' (nI d) = some (1, f, many'', nx'', new'') → ∀ r, Bhd tape E (nI j, f, many'', nx'', new'', nI d) num' part' r → lp (Mo_readsWhole_L14 tape (nI E)) (1, nI i, f, num, many, nx, part, new, nI d) = some r) ∧
    ∀ F many'' nx'' new'', Mo_joins f many' nx' part' new' (nI d) = some (0, F, many'', nx'', new'') → ∃ r, lp (Mo_readsWhole_L14 tape (nI E)) (1, nI i, f, num, many, nx, part, new, nI d) = some r ∧ Bad F r
/-- the reference behind a whole at depth d -/
def WholeTo (tape : Nat → Int32) (E d i j n : Nat) (adj : Nat → Nat → Bool) (f num : Int32) (many nx part new : Nat → Int32) : Prop :=
  ∃ num' many' nx' part' new', Row d n adj many' nx' ∧ Same d many nx part many' nx' part' ∧ ∀ r, Bhd tape E (nI j, f, many', nx', new', nI d) num' part' r → lp (Mo_readsWhole_L14 tape (nI E)) (1, nI i, f, num, many, nx, part, new, nI d) = some r
def LoopBad (tape : Nat → Int32) (E d i : Nat) (f num : Int32) (many nx part new : Nat → Int32) (F : Int32) : Prop := ∃ r, lp (Mo_readsWhole_L14 tape (nI E)) (1, nI i, f, num, many, nx, part, new, nI d) = some r ∧ Bad F r
theorem l14_plain (hT : TX bytes tape E) {i d : Nat} (hi : i < 300) (hd : d < 3) (hc : ¬ ch bytes E i = 40) (f num : Int32) (many nx part new : Nat → Int32) :
    Mo_readsWhole_L14 tape (nI E) (1, nI i, f, num, many, nx, part, new, nI d) = ob (Mo_readsPlain tape (nI i) (nI E) f num many nx (upd part d (nI i)) new (nI d)) fun x5 => if x5.1 = 0 then (some (.inr (.inr (.inl (x5.2.1, x5.2.2.1, x5.2.2.2.1, x5.2.2.2.2.1, x5.2.2.2.2.2.1, upd part d (nI i), x5.2.2.2.2.2.2, nI d))))) else (ob (lp (Mo_readsWhole_L100 tape (nI E) (upd part d (nI i))) (x5.2.1, x5.2.2.1, x5.2.2.2.2.1, x5.2.2.2.2.2.1, x5.2.2.2.2.2.2, nI d)) fun x6 => BhdX tape E x5.2.2.2.1 (upd part d (nI i)) x6) := by
  unfold Mo_readsWhole_L14
  refine (if_neg one_ne0).trans ((gd_eq (ixN (by omega) (by decide))).trans ((ob_eq (here_eq hT (by omega))).trans ((if_neg hc).trans ?_)))
  show (ob (Mo_readsPlain tape (nI i) (nI E) f num many nx (upd part (nI d).toNatClampNeg (nI i)) new (nI d)) _) = _
  rw [nI_clamp (by omega)]
  rfl
/-- a plain part -/
theorem part_plain (hT : TX bytes tape E) (hE : E ≤ 260) {i d : Nat} (hi : i < 300) (hd : d < 3) (hc : ¬ ch bytes E i = 40) (wp : Int32) (np : Nat → Int32) (f num : Int32) (many nx part new : Nat → Int32) :
    (∃ q F w' n', q < 400 ∧ LandReader_readShape bytes (nI E) (nI i) 0 wp np (ch bytes E i) = some (0, nI q, F, w', n') ∧ ¬ F = 0 ∧ LoopBad tape E d i f num many nx part new F) ∨
    ∃ j m adj np', i + 2 ≤ j ∧ j ≤ E ∧ 1 ≤ m ∧ m ≤ 12 ∧ Sy adj ∧ CM m adj np' ∧ LandReader_readShape bytes (nI E) (nI i) 0 wp np (ch bytes E i) = some (nI E, nI j, 0, nI m, np') ∧ PartTo tape E d i j m adj f num many nx part new := by
  have hL := l14_plain hT hi hd hc f num many nx part new
  rcases plain_ok hT hE hi hd wp np f num many nx (upd part d (nI i)) new with ⟨q, F, w', n', p', num', m', x', z', hq, h1, h2, h3⟩ | ⟨j, m, adj, np', nx', num', h1, h2, h3, h4, h5, h6, h7, h8, h9, h10⟩
  · left
    refine ⟨q, F, w', n', hq, h1, h2, _, lp_inr (hL.trans ((ob_eq h3).trans (if_pos rfl))), ?_⟩
    exact ⟨p', 0, num', m', x', _, z', nI d, Or.inr (Or.inl rfl)⟩
  · right
    refine ⟨j, m, adj, np', h1, h2, h3, h4, h5, h6, h7, num', upd many (d + 1) (nI m), nx', upd part d (nI i), new, ⟨upd_at _ _ _, h8⟩, fun e he => ⟨upd_ne (by omega), upd_ne (by omega), fun w hw => h9 _ (by omega)⟩, upd_ne (by omega), fun w hw => h9 _ (by omega), upd_at _ _ _, ?_, ?_⟩
    · intro many'' nx'' new'' hj r hr
      have hp := h10.trans ((ob_eq hj).trans (gd_eq (show isB 1 = true from rfl)))
      obtain ⟨x6, y, a1, a2, a3⟩ := hr
      have hstep : Mo_readsWhole_L14 tape (nI E) (1, nI i, f, num, many, nx, part, new, nI d) = some y := hL.trans ((ob_eq hp).trans ((if_neg one_ne0).trans ((ob_eq a1).trans a2)))
      rcases a3 with ⟨s, rfl, a4⟩ | rfl
      · exact lp_inl hstep a4
      · exact lp_inr hstep
    · intro F many'' nx'' new'' hj
      have hp := h10.trans ((ob_eq hj).trans (gd_eq (show isB 0 = true from rfl)))
      refine ⟨_, lp_inr (hL.trans ((ob_eq hp).trans (if_pos rfl))), ?_⟩
      exact ⟨nI j, 0, num', many'', nx'', _, new'', nI d, Or.inr (Or.inl rfl)⟩
/-- a part in brackets, its inside known -/
theorem part_in (hT : TX bytes tape E) (hE : E ≤ 260) {i d : Nat} (hi : i < 300) (hd : d < 2) (hc : ch bytes E i = 40) (f num : Int32) (many nx part new : Nat → Int32) :
    (∀ F, LoopBad tape E (d + 1) (i + 1) f num (upd many (d + 1) 0) nx (upd part d (nI i)) new F → LoopBad tape E d i f num many nx part new F) ∧
    ∀ j m adj, j < 300 → m ≤ 12 → WholeTo tape E (d + 1) (i + 1) j m adj f num (upd many (d + 1) 0) nx (upd part d (nI i)) new → ¬ ch bytes E j = 42 →
      (¬ ch bytes E j = 41 → LoopBad tape E d i f num many nx part new (flt 1 j)) ∧ (ch bytes E j = 41 → PartTo tape E d i (j + 1) m adj f num many nx part new) := by
  have hstep : Mo_readsWhole_L14 tape (nI E) (1, nI i, f, num, many, nx, part, new, nI d) = some (.inl (1, nI (i + 1), f, num, upd many (d + 1) 0, nx, upd part d (nI i), new, nI (d + 1))) := by
    unfold Mo_readsWhole_L14
    refine (if_neg one_ne0).trans ((gd_eq (ixN (by omega) (by decide))).trans ((ob_eq (here_eq hT (by omega))).trans ((if_pos hc).trans ((if_neg (neN (b := 2) (by omega) (by decide) (by omega))).trans ?_))))
    show gd (ix (nI d + 1) 4) (some (Sum.inl (1, nI i + 1, f, num, upd many (nI d + 1).toNatClampNeg 0, nx, upd part (nI d).toNatClampNeg (nI i), new, nI d + 1))) = _
    rw [show nI d + 1 = nI (d + 1) from nI_ad d 1, show nI i + 1 = nI (i + 1) from nI_ad i 1, gd_eq (ixN (by omega) (by decide)), nI_clamp (by omega), nI_clamp (by omega)]
  refine ⟨fun F ⟨r, h1, h2⟩ => ⟨r, lp_inl hstep h1, h2⟩, fun j m adj hj hm ⟨num', many', nx', part', new', h1, h2, h3⟩ h42 => ⟨fun h41 => ?_, fun h41 => ?_⟩⟩
  · refine ⟨_, lp_inl hstep (h3 _ (aft_end hT (by omega) (by omega) h42 (Or.inl h41) part' f num' many' nx' new')), ?_⟩
    exact ⟨nI j, f, num', many', nx', part', new', nI (d + 1), Or.inr (Or.inr (Or.inr ⟨rfl, ne0N (by omega) (by omega), rfl⟩))⟩
  · have hdd := h2 d (by omega)
    refine ⟨num', many', nx', part', new', h1, fun e he => ?_, hdd.1.trans (upd_ne (by omega)), hdd.2.2, hdd.2.1.trans (upd_at _ _ _), ?_, ?_⟩
    · have := h2 e (by omega)
      exact ⟨this.1.trans (upd_ne (by omega)), this.2.1.trans (upd_ne (by omega)), this.2.2⟩
    · intro many'' nx'' new'' hg r hr
      exact lp_inl hstep (h3 r (aft_close hT (by omega) (by omega) h41 hg hr))
    · intro F many'' nx'' new'' hg
      exact ⟨_, lp_inl hstep (h3 _ (aft_closebad hT (by omega) (by omega) h41 num' hg)), _, 0, _, _, _, _, _, _, Or.inr (Or.inr (Or.inl rfl))⟩
/-- brackets too deep -/
theorem part_deep (hT : TX bytes tape E) {i : Nat} (hi : i < 300) (hc : ch bytes E i = 40) (f num : Int32) (many nx part new : Nat → Int32) : LoopBad tape E 2 i f num many nx part new (flt 5 i) := by
  refine ⟨_, lp_inr ?_, nI i, f, num, many, nx, upd part 2 (nI i), new, nI 2, Or.inl ⟨rfl, rfl⟩⟩
  unfold Mo_readsWhole_L14
  exact (if_neg one_ne0).trans ((gd_eq (show ix (nI 2) 4 = true from rfl)).trans ((ob_eq (here_eq hT (by omega))).trans ((if_pos hc).trans (if_pos rfl))))
/-- the reference before the k-th part -/
def Before (tape : Nat → Int32) (E d i0 : Nat) (f : Int32) (num0 : Int32) (many0 nx0 part0 new0 : Nat → Int32) (k i n : Nat) (adj : Nat → Nat → Bool) (num : Int32) (many nx part new : Nat → Int32) : Prop :=
  (k = 0 → many d = 0) ∧ (0 < k → 1 ≤ n ∧ n ≤ 12 ∧ Sy adj ∧ Row d n adj many nx) ∧ Same d many0 nx0 part0 many nx part ∧ (∀ r, lp (Mo_readsWhole_L14 tape (nI E)) (1, nI i, f, num, many, nx, part, new, nI d) = some r → lp (Mo_readsWhole_L14 tape (nI E)) (1, nI i0, f, num0, many0, nx0, part0, new0, nI d) = some r)
/-- a part more, joined by the reference -/
theorem joined_to (hT : TX bytes tape E) {d i0 : Nat} (hd : d < 3) {f num0 : Int32} {many0 nx0 part0 new0 : Nat → Int32} {k i j n m : Nat} {adj B : Nat → Nat → Bool} {num : Int32} {many nx part new : Nat → Int32} (hb : Before tape E d i0 f num0 many0 nx0 part0 new0 k i n adj num many nx part new) (hj : j < 300) (hm1 : 1 ≤ m) (hm : m ≤ 12) (sB : Sy B) (hp : PartTo tape E d i j m B f num many nx part new) :
    (0 < k → ¬ n * m ≤ 12 → LoopBad tape E d i0 f num0 many0 nx0 part0 new0 (flt 6 i)) ∧
    (k = 0 ∨ n * m ≤ 12 → (¬ ch bytes E j = 42 → WholeTo tape E d i0 j (if k = 0 then m else n * m) (if k = 0 then B else adjP m adj B) f num0 many0 nx0 part0 new0) ∧
      (ch bytes E j = 42 → ∃ num' many' nx' part' new', Before tape E d i0 f num0 many0 nx0 part0 new0 (k + 1) (j + 1) (if k = 0 then m else n * m) (if k = 0 then B else adjP m adj B) num' many' nx' part' new')) := by
  obtain ⟨b1, b2, b3, b4⟩ := hb
  obtain ⟨num', many', nx', part', new', p1, p2, p3, p4, p5, p6, p7⟩ := hp
  constructor
  · intro hk hnm
    obtain ⟨n1, n2, n3, n4⟩ := b2 hk
    obtain ⟨r, r1, r2⟩ := p7 _ _ _ _ (joins_big hd hnm (by omega) n2 hm (p3.trans n4.1) p1.1 p5 f)
    exact ⟨r, b4 r r1, r2⟩
  · intro hk
    have hjn : ∃ next' nn', Mo_joins f many' nx' part' new' (nI d) = some (1, f, upd many' d (nI (if k = 0 then m else n * m)), next', nn') ∧ RMk d (if k = 0 then m else n * m) (if k = 0 then B else adjP m adj B) next' ∧ (∀ q, q < 12 * d ∨ 12 * d + 12 ≤ q → next' q = nx' q) ∧ 1 ≤ (if k = 0 then m else n * m) ∧ (if k = 0 then m else n * m) ≤ 12 ∧ Sy (if k = 0 then B else adjP m adj B) := by
      by_cases hk0 : k = 0
      · rw [if_pos hk0, if_pos hk0]
        obtain ⟨next', g1, g2, g3⟩ := joins_first hd hm (part := part') (nn := new') (p3.trans (b1 hk0)) p1.1 p1.2 f
        exact ⟨next', new', g1, g2, g3, hm1, hm, sB⟩
      · rw [if_neg hk0, if_neg hk0]
        obtain ⟨n1, n2, n3, n4⟩ := b2 (by omega)
        have hnm : n * m ≤ 12 := hk.resolve_left hk0
        obtain ⟨next', nn', g1, g2, g3⟩ := joins_prod hd hnm (by omega) n2 (by omega) hm (part := part') (nn := new') (p3.trans n4.1) p1.1 (rmk_of n2 p4 n4.2) p1.2 f
        exact ⟨next', nn', g1, g2, g3, Nat.mul_pos (by omega) (by omega), hnm, adjP_sy n3 sB⟩
    obtain ⟨next', nn', g1, g2, g3, g4, g5, g6⟩ := hjn
    have hsame : Same d many0 nx0 part0 (upd many' d (nI (if k = 0 then m else n * m))) next' part' := by
      refine same_trans b3 (fun e he => ?_)
      have := p2 e he
      exact ⟨(upd_ne (by omega)).trans this.1, this.2.1, fun w hw => (g3 _ (by omega)).trans (this.2.2 w hw)⟩
    refine ⟨fun h42 => ⟨num', _, next', part', nn', ⟨upd_at _ _ _, g2⟩, hsame, fun r hr => b4 r (p6 _ _ _ g1 r hr)⟩, fun h42 => ⟨num', upd many' d (nI (if k = 0 then m else n * m)), next', part', nn', ?_⟩⟩
    exact ⟨fun z => by omega, fun _ => ⟨g4, g5, g6, upd_at _ _ _, g2⟩, hsame, fun r hr => b4 r (p6 _ _ _ g1 r (aft_star hT (by omega) (by omega) h42 hr))⟩
end WH
