/-! LANDNUMBER -/
theorem jump1 {x : Int32} (h : x < 0) : ¬ x = 0 := fun e => by rw [e] at h; exact absurd h (by decide)
/-- the first well that has a refusal, or none -/
theorem refusal_ok {n : Nat} {nx : Nat → Nat} (hG : GoodG n nx) {ways : Nat → Int32} (hr : RW n nx ways) :
    (∃ w why, w < n ∧ Numbers_refusal (nI n) ways = some why ∧ ¬ why = 0 ∧ Numbers_refusalAt (nI n) ways (nI w) = some why ∧ ∀ u, u < w → Numbers_refusalAt (nI n) ways (nI u) = some 0) ∨ (Numbers_refusal (nI n) ways = some 0 ∧ ∀ u, u < n → Numbers_refusalAt (nI n) ways (nI u) = some 0) := by
  have n12 := hG.1
  obtain ⟨r, r1, r2⟩ := lp_inv (f := Numbers_refusal_L2 (nI n) ways) (fun k s => s = nI k ∧ ∀ u, u < k → Numbers_refusalAt (nI n) ways (nI u) = some 0) n
    (fun r => (∃ w why, w < n ∧ r = Sum.inl why ∧ ¬ why = 0 ∧ Numbers_refusalAt (nI n) ways (nI w) = some why ∧ ∀ u, u < w → Numbers_refusalAt (nI n) ways (nI u) = some 0) ∨ (r = Sum.inr () ∧ ∀ u, u < n → Numbers_refusalAt (nI n) ways (nI u) = some 0))
    (by
      rintro k s hk ⟨rfl, e2⟩
      obtain ⟨why, q⟩ := why_ex hG hk hr
      have hhead : Numbers_refusal_L2 (nI n) ways (nI k) = if why = 0 then some (.inl (nI k + 1)) else some (.inr (.inl why)) := by
        unfold Numbers_refusal_L2
        rw [if_pos ((nI_ltN (by omega) (by omega)).mpr hk), ob_eq q]
      by_cases z : why = 0
      · left
        refine ⟨_, hhead.trans (if_pos z), nI_ad k 1, fun u hu => ?_⟩
        by_cases y : u = k
        · rw [y, q, z]
        · exact e2 u (by omega)
      · right
        exact ⟨_, hhead.trans (if_neg z), Or.inl ⟨k, why, hk, rfl, z, q, e2⟩⟩)
    (by
      rintro s ⟨rfl, e2⟩
      refine ⟨_, ?_, Or.inr ⟨rfl, e2⟩⟩
      unfold Numbers_refusal_L2
      exact if_neg (fun z => by have := (nI_ltN (by omega) (by omega)).mp z; omega))
    0 0 (Nat.zero_le _) ⟨rfl, fun u hu => by omega⟩
  have hh : Numbers_refusal (nI n) ways = sm r (fun x1 => some x1) (fun _ => some 0) := by
    unfold Numbers_refusal
    rw [ob_eq r1]
  rcases r2 with ⟨w, why, a1, rfl, a2, a3, a4⟩ | ⟨rfl, a1⟩
  · exact Or.inl ⟨w, why, a1, hh, a2, a3, a4⟩
  · exact Or.inr ⟨hh, a1⟩
abbrev T19 := (Nat → Int32) × (Nat → Int32) × (Nat → Int32) × Int32 × (Nat → Int32) × Nat × (Nat → Int32) × Nat × (Nat → Int32) × (Nat → Int32) × (Nat → Int32) × (Nat → Int32) × (Nat → Int32) × Int32 × Int32 × Int32 × Int32 × Nat × Nat
def SZl (n : Nat) (nx : Nat → Nat) (nf : Nat) (y : T19) : Prop :=
  MNs n nx y.1 y.2.1 y.2.2.1 ∧ SZ2 y.2.2.2.2.2.1 y.2.2.2.2.2.2.2.1 ∧ nf ≤ y.2.2.2.2.2.1 ∧ y.2.2.2.2.2.2.2.2.2.2.2.2.2.2.2.2.2.1 ≤ 24 ∧ y.2.2.2.2.2.2.2.2.2.2.2.2.2.2.2.2.2.2 + 3 * nf ≤ 3 * y.2.2.2.2.2.1
abbrev T10m := (Nat → Int32) × (Nat → Int32) × (Nat → Int32) × (Nat → Int32) × (Nat → Int32) × Int32 × Int32 × Int32 × Int32 × Int32
/-- no refusal: both loops side by side -/
theorem ofLand_all {n : Nat} {nx : Nat → Nat} (hG : GoodG n nx) {next nextTo ways far : Nat → Int32} (hx : ∀ w, w < 12 → next w = nI (nx w)) (hx2 : ∀ w, w < 12 → nextTo w = nI (nx w)) (hr : RW n nx ways) (hf : RW n nx far) {bc bs : Nat} (hbc : 26 ≤ bc) (hbs : 196608 ≤ bs) {nf nm : Nat} (hz : SZ2 nf nm) {told lay rows : Nat → Int32} (hMN : MNs n nx told lay rows) (hall : ∀ u, u < n → Numbers_refusalAt (nI n) ways (nI u) = some 0)
    (gw : Int32) (fo ma sh0 fi0 two full change : Nat → Int32) (mv wn sz ls : Int32) (μ : T10m) (hn0 : 0 < n) :
    ∃ (M g : Nat) (y : T19) (μ' : T10m), lp (Numbers_ofLand_L8 bc bs (nI n) next ways) (0, 0, told, lay, rows, gw, fo, nf, ma, nm, sh0, fi0, two, full, change, mv, wn, sz, ls, 0, 0) = some (nI M, y) ∧ SZl n nx nf y ∧ y.2.2.2.1 = nI g ∧ M < 65 ∧
      lp (Mo_numberOfLand_L8 nextTo (nI n) far) (0, 0, μ) = some (Sum.inr (nI M, μ')) ∧ μ'.2.2.2.2.2.2.2.2.2 = nI g := by
  have n12 := hG.1
  obtain ⟨r, r', q1, q2, q3⟩ := lp_sim (f := Numbers_ofLand_L8 bc bs (nI n) next ways) (g := Mo_numberOfLand_L8 nextTo (nI n) far)
    (fun k s u => s.2.1 = nI k ∧ u.2.1 = nI k ∧ ∃ M, s.1 = nI M ∧ u.1 = nI M ∧ M < 65 ∧ (k = 0 → M = 0) ∧ (0 < k → ∃ g : Nat, s.2.2.2.2.2.1 = nI g ∧ u.2.2.2.2.2.2.2.2.2.2.2 = nI g) ∧ MNs n nx s.2.2.1 s.2.2.2.1 s.2.2.2.2.1 ∧ SZ2 s.2.2.2.2.2.2.2.1 s.2.2.2.2.2.2.2.2.2.1 ∧ nf ≤ s.2.2.2.2.2.2.2.1 ∧ s.2.2.2.2.2.2.2.2.2.2.2.2.2.2.2.2.2.2.2.1 ≤ 2 * k ∧ s.2.2.2.2.2.2.2.2.2.2.2.2.2.2.2.2.2.2.2.2 + 3 * nf ≤ 3 * s.2.2.2.2.2.2.2.1) n
    (fun r r' => ∃ (M g : Nat) (y : T19) (μ' : T10m), r = (nI M, y) ∧ SZl n nx nf y ∧ y.2.2.2.1 = nI g ∧ M < 65 ∧ r' = Sum.inr (nI M, μ') ∧ μ'.2.2.2.2.2.2.2.2.2 = nI g)
    (by
      rintro k ⟨s1, s2, told, lay, rows, gw, fo, nf1, ma, nm1, sh0, fi0, two, full, change, mv, wn, sz, ls, kc, ks⟩ ⟨u1, u2, shm, wim, nim, hem, ivm, bim, vm, vy, vg, lb⟩ hk ⟨e1, e2, M, e3, e4, e5, e6, e7, e8, e9, e10, e11, e12⟩
      dsimp only at e1 e2 e3 e4 e7 e8 e9 e10 e11 e12
      subst e1; subst e2; subst e3; subst e4
      left
      have hnf1 : nf1 ≤ 65536 := by rcases e9.1 with z | z <;> omega
      obtain ⟨why, y, x2, f1, f2, f3⟩ := ofWell_ok hG hx hx2 hr hf hk (bc := bc - kc) (bs := bs - ks) (by omega) (by omega) e9 e8 fo ma sh0 fi0 two full change mv wn sz ls shm wim nim hem ivm bim vm vy vg
      rw [hall k hk] at f2
      cases f2
      rcases f3 with ⟨z, -⟩ | ⟨-, T, LV, G, g1, g2, g3, g4, -, -, -, -, -, g9, g10⟩
      · exact absurd rfl z
      · obtain ⟨p1, p2, p3, p4, p5⟩ := g3
        have hnf2 : y.2.2.2.2.1 ≤ 65536 := by rcases p2.1 with z | z <;> omega
        obtain ⟨y1, y2, y3, y4, y5, y6, y7, y8, y9, y10, y11, y12, y13, y14, y15, y16, y17, y18⟩ := y
        dsimp only at p1 p2 p3 p4 p5 hnf2 g4
        have hcu : cuOk bc bs kc ks y17 y18 = true := cuOk_yes (by omega) (by omega)
        obtain ⟨m1, m2, m3, m4, m5, m6, m7, m8, m9⟩ := x2
        dsimp only at g9
        subst g9
        have hC : Numbers_ofLand_L8 bc bs (nI n) next ways (nI M, nI k, told, lay, rows, gw, fo, nf1, ma, nm1, sh0, fi0, two, full, change, mv, wn, sz, ls, kc, ks) = if nI (T + 1) ≤ nI M then some (.inl (nI M, nI k + 1, y1, y2, y3, gw, y4, y5, y6, y7, y8, y9, y10, y11, y12, y13, y14, y15, y16, kc + y17, ks + y18)) else some (.inl (nI (T + 1), nI k + 1, y1, y2, y3, nI k, y4, y5, y6, y7, y8, y9, y10, y11, y12, y13, y14, y15, y16, kc + y17, ks + y18)) := by
          unfold Numbers_ofLand_L8
          dsimp only
          rw [if_neg (nI_pos (show M < 2 ^ 31 by omega)), if_pos ((nI_ltN (by omega) (by omega)).mpr hk), ob_eq g2]
          dsimp only
          rw [gd_eq hcu, gd_eq (ixN (show k < 12 by omega) (by omega)), nI_clamp (show k < 2 ^ 31 by omega), g4]
          rfl
        have hR : Mo_numberOfLand_L8 nextTo (nI n) far (nI M, nI k, shm, wim, nim, hem, ivm, bim, vm, vy, vg, lb) = if nI (T + 1) ≤ nI M then some (.inl (nI M, nI k + 1, m1, m2, m3, m4, m5, m6, nI T, m8, m9, lb)) else some (.inl (nI (T + 1), nI k + 1, m1, m2, m3, m4, m5, m6, nI T, m8, m9, nI k)) := by
          unfold Mo_numberOfLand_L8
          dsimp only
          rw [if_pos ((nI_ltN (by omega) (by omega)).mpr hk), ob_eq f1]
          dsimp only
          rw [if_pos rfl, show nI T + 1 = nI (T + 1) from nI_ad T 1]
          rfl
        by_cases hle : T + 1 ≤ M
        · have hle' := (nI_leN (a := T + 1) (b := M) (by omega) (by omega)).mpr hle
          refine ⟨_, _, hC.trans (if_pos hle'), hR.trans (if_pos hle'), nI_ad k 1, nI_ad k 1, M, rfl, rfl, e5, fun z => by omega, fun _ => e7 (by
            by_cases z : k = 0
            · have := e6 z; omega
            · omega), p1, p2, by show nf ≤ y5; omega, by show kc + y17 ≤ _; omega, by show ks + y18 + 3 * nf ≤ 3 * y5; omega⟩
        · have hle' : ¬ nI (T + 1) ≤ nI M := fun z => hle ((nI_leN (by omega) (by omega)).mp z)
          refine ⟨_, _, hC.trans (if_neg hle'), hR.trans (if_neg hle'), nI_ad k 1, nI_ad k 1, T + 1, rfl, rfl, by omega, fun z => by omega, fun _ => ⟨k, rfl, rfl⟩, p1, p2, by show nf ≤ y5; omega, by show kc + y17 ≤ _; omega, by show ks + y18 + 3 * nf ≤ 3 * y5; omega⟩)
    (by
      rintro ⟨s1, s2, told, lay, rows, gw, fo, nf1, ma, nm1, sh0, fi0, two, full, change, mv, wn, sz, ls, kc, ks⟩ ⟨u1, u2, μ⟩ ⟨e1, e2, M, e3, e4, e5, e6, e7, e8, e9, e10, e11, e12⟩
      dsimp only at e1 e2 e3 e4 e7 e8 e9 e10 e11 e12
      subst e1; subst e2; subst e3; subst e4
      obtain ⟨g, g1, g2⟩ := e7 hn0
      refine ⟨_, _, ?_, ?_, M, g, (told, lay, rows, gw, fo, nf1, ma, nm1, sh0, fi0, two, full, change, mv, wn, sz, ls, kc, ks), μ, rfl, ⟨e8, e9, e10, by show kc ≤ 24; omega, e12⟩, g1, e5, rfl, g2⟩
      · unfold Numbers_ofLand_L8
        dsimp only
        rw [if_neg (nI_pos (show M < 2 ^ 31 by omega)), if_neg (fun z => by have := (nI_ltN (by omega) (by omega)).mp z; omega)]
      · unfold Mo_numberOfLand_L8
        exact if_neg (fun z => by have := (nI_ltN (by omega) (by omega)).mp z; omega))
    0 (0, 0, told, lay, rows, gw, fo, nf, ma, nm, sh0, fi0, two, full, change, mv, wn, sz, ls, 0, 0) (0, 0, μ) (Nat.zero_le _) ⟨rfl, rfl, 0, rfl, rfl, by omega, fun _ => rfl, fun z => by omega, hMN, hz, Nat.le_refl _, Nat.zero_le _, by show 0 + 3 * nf ≤ 3 * nf; omega⟩
  obtain ⟨M, g, y, μ', rfl, a1, a2, a3, rfl, a4⟩ := q3
  exact ⟨M, g, y, μ', q1, a1, a2, a3, q2, a4⟩
/-- a refusal: the reference comes to it -/
theorem ofLand_ref {n : Nat} {nx : Nat → Nat} (hG : GoodG n nx) {nextTo ways far : Nat → Int32} (hx2 : ∀ w, w < 12 → nextTo w = nI (nx w)) (hr : RW n nx ways) (hf : RW n nx far) {w : Nat} (hw : w < n) {why : Int32} (h0 : ¬ why = 0) (hat : Numbers_refusalAt (nI n) ways (nI w) = some why) (hbe : ∀ u, u < w → Numbers_refusalAt (nI n) ways (nI u) = some 0) (μ : T10m) :
    ∃ μ' : T10m, lp (Mo_numberOfLand_L8 nextTo (nI n) far) (0, 0, μ) = some (Sum.inl (why, μ')) := by
  have n12 := hG.1
  obtain ⟨r, r1, μ', rfl⟩ := lp_inv (f := Mo_numberOfLand_L8 nextTo (nI n) far) (fun k s => s.2.1 = nI k) w (fun r => ∃ μ' : T10m, r = Sum.inl (why, μ'))
    (by
      rintro k ⟨s1, s2, shm, wim, nim, hem, ivm, bim, vm, vy, vg, lb⟩ hk e1
      have e1 : s2 = nI k := e1
      subst e1
      left
      obtain ⟨why', sh, ni, he, iv, wi, bi, vm', vy', vg', q1, q2, -⟩ := laysVain_ok hG hx2 (show k < n by omega) hr hf shm wim nim hem ivm bim vm vy vg
      rw [hbe k hk] at q1
      cases q1
      have hR : Mo_numberOfLand_L8 nextTo (nI n) far (s1, nI k, shm, wim, nim, hem, ivm, bim, vm, vy, vg, lb) = if vm' + 1 ≤ s1 then some (.inl (s1, nI k + 1, sh, wi, ni, he, iv, bi, vm', vy', vg', lb)) else some (.inl (vm' + 1, nI k + 1, sh, wi, ni, he, iv, bi, vm', vy', vg', nI k)) := by
        unfold Mo_numberOfLand_L8
        dsimp only
        rw [if_pos ((nI_ltN (by omega) (by omega)).mpr (by omega)), ob_eq q2]
        dsimp only
        rw [if_pos rfl]
        rfl
      by_cases z : vm' + 1 ≤ s1
      · exact ⟨_, hR.trans (if_pos z), nI_ad k 1⟩
      · exact ⟨_, hR.trans (if_neg z), nI_ad k 1⟩)
    (by
      rintro ⟨s1, s2, shm, wim, nim, hem, ivm, bim, vm, vy, vg, lb⟩ e1
      have e1 : s2 = nI w := e1
      subst e1
      obtain ⟨why', sh, ni, he, iv, wi, bi, vm', vy', vg', q1, q2, -⟩ := laysVain_ok hG hx2 hw hr hf shm wim nim hem ivm bim vm vy vg
      rw [hat] at q1
      cases q1
      refine ⟨_, ?_, (sh, wi, ni, he, iv, bi, vm', vy', vg', lb), rfl⟩
      unfold Mo_numberOfLand_L8
      dsimp only
      rw [if_pos ((nI_ltN (by omega) (by omega)).mpr hw), ob_eq q2]
      dsimp only
      rw [if_neg h0])
    0 (0, 0, μ) (Nat.zero_le _) rfl
  exact ⟨μ', r1⟩
theorem landNumber_ok {n : Nat} {nx : Nat → Nat} (hG : GoodG n nx) {next nextTo ways : Nat → Int32} (hx : ∀ w, w < 12 → next w = nI (nx w)) (hx2 : ∀ w, w < 12 → nextTo w = nI (nx w)) (hr : RW n nx ways) {bc bs : Nat} (hbc : 26 ≤ bc) (hbs : 196608 ≤ bs) {nf nm : Nat} (hz : SZ2 nf nm) {told lay rows : Nat → Int32} (hMN : MNs n nx told lay rows)
    (gw : Int32) (fo ma sh0 fi0 two full change : Nat → Int32) (mv wn sz ls : Int32) (far line : Nat → Int32) (μ : T10m) (a1 : Int32) :
    ∃ r y x, Dj_landNumber bc bs (nI n) next ways told lay rows gw fo nf ma nm sh0 fi0 two full change mv wn sz ls a1 = some (r, y) ∧ SZl n nx nf y ∧ Mo_landNumber nextTo (nI n) far line μ.1 μ.2.1 μ.2.2.1 μ.2.2.2.1 μ.2.2.2.2.1 μ.2.2.2.2.2.1 μ.2.2.2.2.2.2.1 μ.2.2.2.2.2.2.2.1 μ.2.2.2.2.2.2.2.2.1 μ.2.2.2.2.2.2.2.2.2 a1 = some (r, x) := by
  have n12 := hG.1
  have hsame : SZl n nx nf (told, lay, rows, gw, fo, nf, ma, nm, sh0, fi0, two, full, change, mv, wn, sz, ls, 0, 0) := ⟨hMN, hz, Nat.le_refl _, Nat.zero_le _, by show 0 + 3 * nf ≤ 3 * nf; omega⟩
  by_cases k1 : a1 < 0
  · refine ⟨-1, _, (far, line, μ), ?_, hsame, ?_⟩
    · unfold Dj_landNumber
      rw [if_pos k1]
    · unfold Mo_landNumber
      rw [ob_eq (Mo_in_no1 k1), if_pos rfl]
  · by_cases k2 : a1 ≤ 1
    · by_cases hn0 : n = 0
      · subst hn0
        refine ⟨-3, _, (far, line, μ), ?_, hsame, ?_⟩
        · unfold Dj_landNumber
          rw [if_neg k1, if_pos k2, if_pos (show nI 0 = 0 from rfl)]
        · unfold Mo_landNumber
          rw [ob_eq (Mo_in_yes k1 k2), if_neg one_ne0, if_pos (show nI 0 = 0 from rfl)]
      · have hne : ¬ nI n = 0 := fun z => hn0 ((nI_inj (b := 0) (by omega) (by omega)).mp z)
        obtain ⟨far', line', l1, l2⟩ := laysSteps_ok hG hx2 far line
        rcases refusal_ok hG hr with ⟨w, why, w1, w2, w3, w4, w5⟩ | ⟨w2, w5⟩
        · have hneg : why < 0 := by
            obtain ⟨why', sh, wi, bi, q1, -, q3⟩ := refuse_ok hG w1 hr hr (fun _ => 0) (fun _ => 0) 0
            rw [w4] at q1
            cases q1
            rcases q3 with e | e | ⟨e, -⟩
            · rw [e]; decide
            · rw [e]; decide
            · exact absurd e w3
          obtain ⟨μ', m1⟩ := ofLand_ref hG hx2 hr l2 w1 w3 w4 w5 μ
          refine ⟨why, _, (far', line', μ'), ?_, hsame, ?_⟩
          · unfold Dj_landNumber Dj_landNumber_J44
            rw [if_neg k1, if_pos k2, if_neg hne]
            have hL : Numbers_ofLand (bc - 0) (bs - 0) told lay rows gw fo nf ma nm sh0 fi0 two full change mv wn sz ls (nI n) next ways = some (why, told, lay, rows, gw, fo, nf, ma, nm, sh0, fi0, two, full, change, mv, wn, sz, ls, 0, 0) := by
              unfold Numbers_ofLand
              rw [ob_eq w2, ob_eq (lp_inr (show Numbers_ofLand_L8 _ _ _ _ _ _ = _ by unfold Numbers_ofLand_L8; exact if_pos hneg))]
            rw [ob_eq hL]
            dsimp only
            rw [gd_eq (cuOk_yes (by omega) (by omega)), if_pos hneg]
          · unfold Mo_landNumber Mo_landNumber_J34
            rw [ob_eq (Mo_in_yes k1 k2), if_neg one_ne0, if_neg hne]
            have hL : Mo_numberOfLand nextTo (nI n) far line μ.1 μ.2.1 μ.2.2.1 μ.2.2.2.1 μ.2.2.2.2.1 μ.2.2.2.2.2.1 μ.2.2.2.2.2.2.1 μ.2.2.2.2.2.2.2.1 μ.2.2.2.2.2.2.2.2.1 μ.2.2.2.2.2.2.2.2.2 = some (why, far', line', μ') := by
              unfold Mo_numberOfLand
              rw [ob_eq l1]
              show ob (lp (Mo_numberOfLand_L8 nextTo (nI n) far') (0, 0, μ)) _ = _
              rw [ob_eq m1]
              rfl
            rw [ob_eq hL]
            dsimp only
            rw [if_pos hneg]
        · obtain ⟨M, g, y, μ', b1, b2, b3, b4, b5, b6⟩ := ofLand_all hG hx hx2 hr l2 hbc hbs hz hMN w5 gw fo ma sh0 fi0 two full change mv wn sz ls μ (by omega)
          have hcl : Numbers_ofLand (bc - 0) (bs - 0) told lay rows gw fo nf ma nm sh0 fi0 two full change mv wn sz ls (nI n) next ways = some (nI M, y) := by
            unfold Numbers_ofLand
            rw [ob_eq w2, Nat.sub_zero, Nat.sub_zero, ob_eq b1]
          have hL : Mo_numberOfLand nextTo (nI n) far line μ.1 μ.2.1 μ.2.2.1 μ.2.2.2.1 μ.2.2.2.2.1 μ.2.2.2.2.2.1 μ.2.2.2.2.2.2.1 μ.2.2.2.2.2.2.2.1 μ.2.2.2.2.2.2.2.2.1 μ.2.2.2.2.2.2.2.2.2 = some (nI M, far', line', μ') := by
            unfold Mo_numberOfLand
            rw [ob_eq l1]
            show ob (lp (Mo_numberOfLand_L8 nextTo (nI n) far') (0, 0, μ)) _ = _
            rw [ob_eq b5]
            rfl
          obtain ⟨p1, p2, p3, p4, p5⟩ := b2
          have hnf2 : y.2.2.2.2.2.1 ≤ 65536 := by rcases p2.1 with z | z <;> omega
          have hcu : cuOk bc bs 0 0 y.2.2.2.2.2.2.2.2.2.2.2.2.2.2.2.2.2.1 y.2.2.2.2.2.2.2.2.2.2.2.2.2.2.2.2.2.2 = true := cuOk_yes (by omega) (by omega)
          have hM0 : ¬ nI M < 0 := nI_pos (by omega)
          by_cases a0 : a1 = 0
          · refine ⟨nI M, y, (far', line', μ'), ?_, ⟨p1, p2, p3, p4, p5⟩, ?_⟩
            · unfold Dj_landNumber Dj_landNumber_J44
              rw [if_neg k1, if_pos k2, if_neg hne, ob_eq hcl]
              dsimp only
              rw [gd_eq hcu, if_neg hM0, if_pos a0, Nat.zero_add, Nat.zero_add]
            · unfold Mo_landNumber Mo_landNumber_J34
              rw [ob_eq (Mo_in_yes k1 k2), if_neg one_ne0, if_neg hne, ob_eq hL]
              dsimp only
              rw [if_neg hM0, if_pos a0]
          · refine ⟨nI g, y, (far', line', μ'), ?_, ⟨p1, p2, p3, p4, p5⟩, ?_⟩
            · unfold Dj_landNumber Dj_landNumber_J44
              rw [if_neg k1, if_pos k2, if_neg hne, ob_eq hcl]
              dsimp only
              rw [gd_eq hcu, if_neg hM0, if_neg a0, Nat.zero_add, Nat.zero_add, ← b3]
            · unfold Mo_landNumber Mo_landNumber_J34
              rw [ob_eq (Mo_in_yes k1 k2), if_neg one_ne0, if_neg hne, ob_eq hL]
              dsimp only
              rw [if_neg hM0, if_neg a0, ← b6]
    · refine ⟨-1, _, (far, line, μ), ?_, hsame, ?_⟩
      · unfold Dj_landNumber
        rw [if_neg k1, if_neg k2]
      · unfold Mo_landNumber
        rw [ob_eq (Mo_in_no2 k2), if_pos rfl]
