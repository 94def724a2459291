/-! PRODUCT: two lands are read -/
theorem Mo_readsTwo_L21_ok {n : Nat} (hn : n ≤ 12) (src dst : Nat → Int32) : ∃ d, lp (Mo_readsTwo_L21 src (nI n)) (0, dst) = some d ∧ ∀ w, w < n → d w = src w := by
  refine lp_inv (f := Mo_readsTwo_L21 src (nI n)) (fun k s => s.1 = nI k ∧ ∀ w, w < k → s.2 w = src w) n (fun r => ∀ w, w < n → r w = src w) ?_ ?_ 0 (0, dst) (Nat.zero_le _) ⟨rfl, fun w hw => by omega⟩
  · rintro k ⟨s1, d⟩ hk ⟨e1, e2⟩
    have e1 : s1 = nI k := e1
    subst e1
    left
    refine ⟨(nI k + 1, upd d k (src k)), ?_, nI_ad k 1, fun w hw => ?_⟩
    · unfold Mo_readsTwo_L21
      show (if nI k < nI n then _ else _) = _
      rw [if_pos ((nI_ltN (by omega) (by omega)).mpr hk)]
      dsimp only
      rw [gd_eq (ixN (by omega) (by omega)), gd_eq (ixN (by omega) (by omega)), nI_clamp (show k < 2 ^ 31 by omega)]
    · show upd d k _ w = _
      by_cases e : w = k
      · rw [e, upd_at]
      · rw [upd_ne e]; exact e2 w (by omega)
  · rintro ⟨s1, d⟩ ⟨e1, e2⟩
    have e1 : s1 = nI n := e1
    subst e1
    refine ⟨d, ?_, e2⟩
    unfold Mo_readsTwo_L21
    exact if_neg (fun z => by have := (nI_ltN (by omega) (by omega)).mp z; omega)
theorem Mo_readsTwo_L84_ok (v1 : Int32) {n : Nat} (hn : n ≤ 12) (src dst : Nat → Int32) : ∃ d, lp (Mo_readsTwo_L84 v1 src (nI n)) (0, dst) = some d ∧ ∀ w, w < n → d w = src w := by
  refine lp_inv (f := Mo_readsTwo_L84 v1 src (nI n)) (fun k s => s.1 = nI k ∧ ∀ w, w < k → s.2 w = src w) n (fun r => ∀ w, w < n → r w = src w) ?_ ?_ 0 (0, dst) (Nat.zero_le _) ⟨rfl, fun w hw => by omega⟩
  · rintro k ⟨s1, d⟩ hk ⟨e1, e2⟩
    have e1 : s1 = nI k := e1
    subst e1
    left
    refine ⟨(nI k + 1, upd d k (src k)), ?_, nI_ad k 1, fun w hw => ?_⟩
    · unfold Mo_readsTwo_L84
      show (if nI k < nI n then _ else _) = _
      rw [if_pos ((nI_ltN (by omega) (by omega)).mpr hk)]
      dsimp only
      rw [gd_eq (ixN (by omega) (by omega)), gd_eq (ixN (by omega) (by omega)), nI_clamp (show k < 2 ^ 31 by omega)]
    · show upd d k _ w = _
      by_cases e : w = k
      · rw [e, upd_at]
      · rw [upd_ne e]; exact e2 w (by omega)
  · rintro ⟨s1, d⟩ ⟨e1, e2⟩
    have e1 : s1 = nI n := e1
    subst e1
    refine ⟨d, ?_, e2⟩
    unfold Mo_readsTwo_L84
    exact if_neg (fun z => by have := (nI_ltN (by omega) (by omega)).mp z; omega)
theorem Mo_laysProduct_L22_ok {n : Nat} (hn : n ≤ 12) (src dst : Nat → Int32) : ∃ d, lp (Mo_laysProduct_L22 src (nI n)) (0, dst) = some d ∧ (∀ w, w < n → d (w) = src w) ∧ ∀ j, ¬ (j < n) → d j = dst j := by
  refine lp_inv (f := Mo_laysProduct_L22 src (nI n)) (fun k s => s.1 = nI k ∧ (∀ w, w < k → s.2 (w) = src w) ∧ ∀ j, ¬ (j < n) → s.2 j = dst j) n (fun r => (∀ w, w < n → r (w) = src w) ∧ ∀ j, ¬ (j < n) → r j = dst j) ?_ ?_ 0 (0, dst) (Nat.zero_le _) ⟨rfl, fun w hw => by omega, fun _ _ => rfl⟩
  · rintro k ⟨s1, d⟩ hk ⟨e1, e2, e3⟩
    have e1 : s1 = nI k := e1
    subst e1
    left
    refine ⟨(nI k + 1, upd d k (src k)), ?_, nI_ad k 1, fun w hw => ?_, fun j hj => ?_⟩
    · unfold Mo_laysProduct_L22
      show (if nI k < nI n then _ else _) = _
      rw [if_pos ((nI_ltN (by omega) (by omega)).mpr hk)]
      dsimp only
      rw [gd_eq (ixN (by omega) (by omega)), gd_eq (ixN (by omega) (by omega)), nI_clamp (show k < 2 ^ 31 by omega)]
    · show upd d k _ (w) = _
      by_cases e : w = k
      · rw [e, upd_at]
      · rw [upd_ne (by omega)]; exact e2 w (by omega)
    · show upd d k _ j = _
      rw [upd_ne (by omega)]; exact e3 j hj
  · rintro ⟨s1, d⟩ ⟨e1, e2⟩
    have e1 : s1 = nI n := e1
    subst e1
    refine ⟨d, ?_, e2⟩
    unfold Mo_laysProduct_L22
    exact if_neg (fun z => by have := (nI_ltN (by omega) (by omega)).mp z; omega)
theorem Mo_laysProduct_L50_ok {n : Nat} (hn : n ≤ 12) (src dst : Nat → Int32) : ∃ d, lp (Mo_laysProduct_L50 src (nI n)) (0, dst) = some d ∧ (∀ w, w < n → d (12 + w) = src w) ∧ ∀ j, ¬ (12 ≤ j ∧ j < 12 + n) → d j = dst j := by
  refine lp_inv (f := Mo_laysProduct_L50 src (nI n)) (fun k s => s.1 = nI k ∧ (∀ w, w < k → s.2 (12 + w) = src w) ∧ ∀ j, ¬ (12 ≤ j ∧ j < 12 + n) → s.2 j = dst j) n (fun r => (∀ w, w < n → r (12 + w) = src w) ∧ ∀ j, ¬ (12 ≤ j ∧ j < 12 + n) → r j = dst j) ?_ ?_ 0 (0, dst) (Nat.zero_le _) ⟨rfl, fun w hw => by omega, fun _ _ => rfl⟩
  · rintro k ⟨s1, d⟩ hk ⟨e1, e2, e3⟩
    have e1 : s1 = nI k := e1
    subst e1
    left
    refine ⟨(nI k + 1, upd d (12 + k) (src k)), ?_, nI_ad k 1, fun w hw => ?_, fun j hj => ?_⟩
    · unfold Mo_laysProduct_L50
      show (if nI k < nI n then _ else _) = _
      rw [if_pos ((nI_ltN (by omega) (by omega)).mpr hk)]
      dsimp only
      rw [show (12 : Int32) + nI k = nI (12 + k) from nI_ad 12 k, gd_eq (ixN (by omega) (by omega)), gd_eq (ixN (by omega) (by omega)), nI_clamp (show k < 2 ^ 31 by omega), nI_clamp (show 12 + k < 2 ^ 31 by omega)]
    · show upd d (12 + k) _ (12 + w) = _
      by_cases e : w = k
      · rw [e, upd_at]
      · rw [upd_ne (by omega)]; exact e2 w (by omega)
    · show upd d (12 + k) _ j = _
      rw [upd_ne (by omega)]; exact e3 j hj
  · rintro ⟨s1, d⟩ ⟨e1, e2⟩
    have e1 : s1 = nI n := e1
    subst e1
    refine ⟨d, ?_, e2⟩
    unfold Mo_laysProduct_L50
    exact if_neg (fun z => by have := (nI_ltN (by omega) (by omega)).mp z; omega)
theorem Mo_product_L54_ok (src dst : Nat → Int32) : ∃ d, lp (Mo_product_L54 src) (0, dst) = some d ∧ ∀ w, w < 12 → d w = src w := by
  refine lp_inv (f := Mo_product_L54 src) (fun k s => s.1 = nI k ∧ ∀ w, w < k → s.2 w = src w) 12 (fun r => ∀ w, w < 12 → r w = src w) ?_ ?_ 0 (0, dst) (Nat.zero_le _) ⟨rfl, fun w hw => by omega⟩
  · rintro k ⟨s1, d⟩ hk ⟨e1, e2⟩
    have e1 : s1 = nI k := e1
    subst e1
    left
    refine ⟨(nI k + 1, upd d k (src k)), ?_, nI_ad k 1, fun w hw => ?_⟩
    · unfold Mo_product_L54
      show (if nI k < 12 then _ else _) = _
      rw [if_pos (show nI k < 12 from (nI_ltN (b := 12) (by omega) (by omega)).mpr hk)]
      dsimp only
      rw [gd_eq (ixN (by omega) (by omega)), gd_eq (ixN (by omega) (by omega)), nI_clamp (show k < 2 ^ 31 by omega)]
    · show upd d k _ w = _
      by_cases e : w = k
      · rw [e, upd_at]
      · rw [upd_ne e]; exact e2 w (by omega)
  · rintro ⟨s1, d⟩ ⟨e1, e2⟩
    have e1 : s1 = nI 12 := e1
    subst e1
    refine ⟨d, ?_, e2⟩
    unfold Mo_product_L54
    show (if nI 12 < 12 then _ else _) = _
    rw [if_neg (by decide)]
section TWO
variable {bytes tape : Nat → Int32} {E : Nat}
abbrev T16c := Int32 × (Nat → Int32) × Int32 × (Nat → Int32) × Int32 × (Nat → Int32) × Int32 × (Nat → Int32) × Int32 × (Nat → Int32) × Int32 × (Nat → Int32) × Int32 × (Nat → Int32) × Int32 × (Nat → Int32)
abbrev T10r := Int32 × (Nat → Int32) × (Nat → Int32) × (Nat → Int32) × (Nat → Int32) × Int32 × (Nat → Int32) × (Nat → Int32) × Int32 × Int32
theorem two_both (hT : TX bytes tape E) (hE : E ≤ 60) (w0 : Int32) (n0 : Nat → Int32) (w1 : Int32) (n1 : Nat → Int32) (w2 : Int32) (n2 : Nat → Int32) (wp : Int32) (np : Nat → Int32) (wx : Int32) (xx : Nat → Int32) (wa : Int32) (na : Nat → Int32) (wb : Int32) (nb : Nat → Int32) (wq : Int32) (nq : Nat → Int32) (f num : Int32) (many nx part new : Nat → Int32) (dep : Int32) (fN sN : Nat → Int32) (fM sM : Int32) :
    (∃ (e a F : Int32) (tl : T16c) (p : Int32) (tr : T10r), LandReader_readTwo bytes (nI E) 0 0 w0 n0 w1 n1 w2 n2 wp np wx xx wa na wb nb wq nq = some (e, a, F, tl) ∧ ¬ F = 0 ∧ Mo_readsTwo tape 0 (nI E) f num many nx part new dep fN sN fM sM = some (0, p, F, tr)) ∨
    ∃ n m A B e a r0 r1 r2 r3 r4 r5 r6 r7 r8 r9 xA xB xP p num' many' nx' part' new' dp' fN' sN', 1 ≤ n ∧ n ≤ 12 ∧ 1 ≤ m ∧ m ≤ 12 ∧ n * m ≤ 12 ∧ Sy A ∧ Sy B ∧ CM n A xA ∧ CM m B xB ∧ CM (n * m) (adjP m A B) xP ∧
      LandReader_readTwo bytes (nI E) 0 0 w0 n0 w1 n1 w2 n2 wp np wx xx wa na wb nb wq nq = some (e, a, 0, r0, r1, r2, r3, r4, r5, r6, r7, r8, r9, nI n, xA, nI m, xB, nI (n * m), xP) ∧
      Mo_readsTwo tape 0 (nI E) f num many nx part new dep fN sN fM sM = some (1, p, f, num', many', nx', part', new', dp', fN', sN', nI n, nI m) ∧ (∀ w, w < n → fN' w = nI (nxOf n A w)) ∧ ∀ w, w < m → sN' w = nI (nxOf m B w) := by
  have hix0 : ix 0 4 = true := rfl
  rcases whole_both hT hE (i := 0) (by omega) w0 n0 w1 n1 w2 n2 wp np wx xx f num many nx part new dep with ⟨q, F, w', n', ⟨a1', b1', a2', b2', ap', bp', ax', bx'⟩, p', num', many', nx', part', new', dp', hq, g1, g2, g3⟩ | ⟨j, n, A, nn, ⟨a1', b1', a2', b2', ap', bp', ax', bx'⟩, num', many', nx', part', new', dp', j1, j2, n1', n12, sA, cA, g1, g2, g3, g4⟩
  · left
    obtain ⟨xA, hbec⟩ : ∃ x, Land_become wa na w' n' = some x := by
      unfold Land_become
      exact ⟨_, gd_eq (show cpOk 0 0 12 12 12 = true from rfl)⟩
    refine ⟨0, nI q, F, (w', n', a1', b1', a2', b2', ap', bp', ax', bx', xA.1, xA.2, wb, nb, wq, nq), p', (num', many', nx', part', new', dp', fN, sN, fM, sM), ?_, g2, ?_⟩
    · unfold LandReader_readTwo
      refine (ob_eq g1).trans ?_
      dsimp only
      rw [ob_eq hbec, if_neg g2]
    · unfold Mo_readsTwo
      refine (ob_eq g3).trans ?_
      dsimp only
      rw [if_pos rfl]
  · obtain ⟨xA, m1, cA2⟩ := become_ok wa na cA
    obtain ⟨fN', c1, c2⟩ := Mo_readsTwo_L21_ok n12 nx' fN
    have hfN : ∀ w, w < n → fN' w = nI (nxOf n A w) := fun w hw => by
      rw [c2 w hw]
      have := g4 w hw
      rw [Nat.mul_zero, Nat.zero_add] at this
      exact this
    have hpk := peek_eq (bytes := bytes) (E := E) (by omega) (i := j) (by omega)
    have hhr := here_eq hT (i := j) (by omega)
    by_cases hc : ch bytes E j = 44
    · have t1 : Tape_take bytes (nI E) (nI j) 0 44 = some (1, nI E, nI (j + 1), 0) := by
        unfold Tape_take
        rw [ob_eq hpk, if_pos hc, show nI j + 1 = nI (j + 1) from nI_ad j 1]
      have t2 : Mo_takes tape (nI j) (nI E) f 44 = some (1, nI (j + 1), f) := by
        unfold Mo_takes
        rw [ob_eq hhr, if_pos hc, show nI j + 1 = nI (j + 1) from nI_ad j 1]
      have hjE : j + 1 ≤ E := by
        unfold ch at hc
        by_cases z : j < E
        · omega
        · rw [if_neg z] at hc; exact absurd hc (by decide)
      rcases whole_both hT hE (i := j + 1) hjE (nI n) nn a1' b1' a2' b2' ap' bp' ax' bx' f num' many' nx' part' new' dp' with ⟨q, F, w', n', ⟨a1'', b1'', a2'', b2'', ap'', bp'', ax'', bx''⟩, p', num'', many'', nx'', part'', new'', dp'', hq, h1, h2, h3⟩ | ⟨j', m, B, nn', ⟨a1'', b1'', a2'', b2'', ap'', bp'', ax'', bx''⟩, num'', many'', nx'', part'', new'', dp'', k1, k2, m1', m12, sB, cB, h1, h2, h3, h4⟩
      · left
        obtain ⟨⟨xB1, xB2⟩, hbec⟩ : ∃ x, Land_become wb nb w' n' = some x := by
          unfold Land_become
          exact ⟨_, gd_eq (show cpOk 0 0 12 12 12 = true from rfl)⟩
        refine ⟨0, nI q, F, (w', n', a1'', b1'', a2'', b2'', ap'', bp'', ax'', bx'', nI n, xA, xB1, xB2, wq, nq), p', (num'', many'', nx'', part'', new'', dp'', fN', sN, nI n, sM), ?_, h2, ?_⟩
        · unfold LandReader_readTwo
          refine (ob_eq g1).trans ?_
          dsimp only
          rw [ob_eq m1]
          dsimp only
          rw [if_pos rfl, ob_eq t1]
          dsimp only
          rw [if_neg one_ne0, ob_eq h1]
          dsimp only
          rw [ob_eq hbec]
          dsimp only
          rw [if_neg h2]
          unfold LandReader_readTwo_J100 LandReader_readTwo_J125
          rw [ob_eq (show Tape_atEnd 0 (nI q) = some 1 from if_neg (nI_pos (by omega))), if_neg one_ne0, if_neg h2]
        · unfold Mo_readsTwo
          refine (ob_eq g2).trans ?_
          dsimp only
          rw [if_neg one_ne0, gd_eq hix0, show ((0 : Int32).toNatClampNeg) = 0 from rfl]
          simp only [g3]
          rw [ob_eq c1, ob_eq t2]
          dsimp only
          rw [if_neg one_ne0, ob_eq h3]
          dsimp only
          rw [if_pos rfl]
      · obtain ⟨xB, m2, cB2⟩ := become_ok wb nb cB
        obtain ⟨sN', d1, d2⟩ := Mo_readsTwo_L84_ok (nI (j + 1)) m12 nx'' sN
        have hsN : ∀ w, w < m → sN' w = nI (nxOf m B w) := fun w hw => by
          rw [d2 w hw]
          have := h4 w hw
          rw [Nat.mul_zero, Nat.zero_add] at this
          exact this
        have hcls : ∀ Z, (if nI n * nI m ≤ 12 then LandReader_readTwo_J100 bytes (nI E) (nI j') 0 (nI m) nn' a1'' b1'' a2'' b2'' ap'' bp'' ax'' bx'' (nI n) xA (nI m) xB wq nq else ob (Tape_fail (nI E) 0 6 (nI (j + 1))) fun x6 => LandReader_readTwo_J125 bytes x6.1 (nI j') x6.2 (nI m) nn' a1'' b1'' a2'' b2'' ap'' bp'' ax'' bx'' (nI n) xA (nI m) xB wq nq) = Z → LandReader_readTwo bytes (nI E) 0 0 w0 n0 w1 n1 w2 n2 wp np wx xx wa na wb nb wq nq = Z := fun Z hZ => by
          rw [← hZ]
          unfold LandReader_readTwo
          refine (ob_eq g1).trans ?_
          dsimp only
          rw [ob_eq m1]
          dsimp only
          rw [if_pos rfl, ob_eq t1]
          dsimp only
          rw [if_neg one_ne0, ob_eq h1]
          dsimp only
          rw [ob_eq m2]
          dsimp only
          rw [if_pos rfl]
        have href : ∀ Z, (if nI n * nI m ≤ 12 then (if nI j' = nI E then Mo_readsTwo_J155 tape (nI j') (nI E) f num'' many'' nx'' part'' new'' dp'' fN' sN' (nI n) (nI m) else ob (Mo_wrongAt f 1 (nI j')) fun x8 => if x8.1 = 0 then some (0, nI j', x8.2, num'', many'', nx'', part'', new'', dp'', fN', sN', nI n, nI m) else Mo_readsTwo_J155 tape (nI j') (nI E) x8.2 num'' many'' nx'' part'' new'' dp'' fN' sN' (nI n) (nI m)) else ob (Mo_wrongAt f 6 (nI (j + 1))) fun x11 => gd (isB x11.1) (some (x11.1, nI j', x11.2, num'', many'', nx'', part'', new'', dp'', fN', sN', nI n, nI m))) = Z → Mo_readsTwo tape 0 (nI E) f num many nx part new dep fN sN fM sM = Z := fun Z hZ => by
          rw [← hZ]
          unfold Mo_readsTwo
          refine (ob_eq g2).trans ?_
          dsimp only
          rw [if_neg one_ne0, gd_eq hix0, show ((0 : Int32).toNatClampNeg) = 0 from rfl]
          simp only [g3]
          rw [ob_eq c1, ob_eq t2]
          dsimp only
          rw [if_neg one_ne0, ob_eq h2]
          dsimp only
          rw [if_neg one_ne0, gd_eq hix0]
          simp only [h3]
          rw [ob_eq d1]
        have hmul : nI n * nI m = nI (n * m) := nI_mulN n m
        have hlt : n * m ≤ 12 * 12 := Nat.mul_le_mul n12 m12
        by_cases hnm : n * m ≤ 12
        · have hle : nI n * nI m ≤ 12 := by rw [hmul]; exact (nI_leN (b := 12) (by omega) (by omega)).mpr hnm
          by_cases hend : j' = E
          · right
            obtain ⟨xP, p1, p2⟩ := prod_cls hnm n12 m12 sA cA2 sB cB2 wq nq
            refine ⟨n, m, A, B, nI E, nI j', nI m, nn', a1'', b1'', a2'', b2'', ap'', bp'', ax'', bx'', xA, xB, xP, nI j', num'', many'', nx'', part'', new'', dp'', fN', sN', n1', n12, m1', m12, hnm, sA, sB, cA2, cB2, p2, hcls _ ?_, href _ ?_, hfN, hsN⟩
            · rw [if_pos hle]
              unfold LandReader_readTwo_J100 LandReader_readTwo_J125
              rw [ob_eq (show Tape_atEnd (nI E) (nI j') = some 1 from if_neg (fun z => by have := (nI_ltN (by omega) (by omega)).mp z; omega)), if_neg one_ne0, if_pos rfl, ob_eq p1]
            · rw [if_pos hle, if_pos (by rw [hend])]
              rfl
          · left
            have hF := flt_ne (a := 1) (i := j') (by omega) (by omega)
            refine ⟨0, nI j', flt 1 j', (nI m, nn', a1'', b1'', a2'', b2'', ap'', bp'', ax'', bx'', nI n, xA, nI m, xB, wq, nq), nI j', (num'', many'', nx'', part'', new'', dp'', fN', sN', nI n, nI m), hcls _ ?_, hF, href _ ?_⟩
            · rw [if_pos hle]
              unfold LandReader_readTwo_J100 LandReader_readTwo_J125
              rw [ob_eq (show Tape_atEnd (nI E) (nI j') = some 0 from if_pos ((nI_ltN (by omega) (by omega)).mpr (by omega))), if_pos rfl, ob_eq (fail0 _ _ _)]
              dsimp only
              exact if_neg hF
            · rw [if_pos hle, if_neg (fun z => hend ((nI_inj (by omega) (by omega)).mp z))]
              rfl
        · left
          have hle : ¬ nI n * nI m ≤ 12 := by rw [hmul]; exact fun z => hnm ((nI_leN (b := 12) (by omega) (by omega)).mp z)
          have hF := flt_ne (a := 6) (i := j + 1) (by omega) (by omega)
          refine ⟨0, nI j', flt 6 (j + 1), (nI m, nn', a1'', b1'', a2'', b2'', ap'', bp'', ax'', bx'', nI n, xA, nI m, xB, wq, nq), nI j', (num'', many'', nx'', part'', new'', dp'', fN', sN', nI n, nI m), hcls _ ?_, hF, href _ ?_⟩
          · rw [if_neg hle, ob_eq (fail0 _ _ _)]
            unfold LandReader_readTwo_J125
            dsimp only
            exact if_neg hF
          · rw [if_neg hle]
            rfl
    · left
      have hF := flt_ne (a := 1) (i := j) (by omega) (by omega)
      refine ⟨0, nI j, flt 1 j, (nI n, nn, a1', b1', a2', b2', ap', bp', ax', bx', nI n, xA, wb, nb, wq, nq), nI j, (num', many', nx', part', new', dp', fN', sN, nI n, sM), ?_, hF, ?_⟩
      · unfold LandReader_readTwo
        refine (ob_eq g1).trans ?_
        dsimp only
        rw [ob_eq m1]
        dsimp only
        have t1 : Tape_take bytes (nI E) (nI j) 0 44 = some (0, 0, nI j, flt 1 j) := by
          unfold Tape_take
          rw [ob_eq hpk, if_neg hc, ob_eq (fail0 _ _ _)]
          rfl
        rw [if_pos rfl, ob_eq t1]
        dsimp only
        rw [if_pos rfl]
      · have t2 : Mo_takes tape (nI j) (nI E) f 44 = some (0, nI j, flt 1 j) := by
          unfold Mo_takes
          rw [ob_eq hhr, if_neg hc]
          rfl
        unfold Mo_readsTwo
        refine (ob_eq g2).trans ?_
        dsimp only
        rw [if_neg one_ne0, gd_eq hix0, show ((0 : Int32).toNatClampNeg) = 0 from rfl]
        simp only [g3]
        rw [ob_eq c1, ob_eq t2]
        dsimp only
        rw [if_pos rfl]
end TWO
