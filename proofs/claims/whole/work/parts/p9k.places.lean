/-! SYMMETRIES: the class's search -/
theorem cmp_zero (x y : Int64) : lg_cmp x y = 0 ↔ x = y := by
  unfold lg_cmp
  by_cases h : x > y
  · rw [if_pos h]
    constructor
    · intro z; exact absurd z (by decide)
    · intro z; rw [z] at h; exact (Int64.lt_irrefl (show y < y from h)).elim
  · rw [if_neg h]
    by_cases e : x = y
    · rw [if_pos e]; exact ⟨fun _ => e, fun _ => rfl⟩
    · rw [if_neg e]; exact ⟨fun z => absurd z (by decide), fun z => absurd z e⟩
def pgS (n : Nat) (nx ord : Nat → Nat) (lv : Nat) (q : Nat → Nat) : Prop := (∀ i, i < lv → q (ord i) < n) ∧ (∀ i j, i < lv → j < lv → q (ord i) = q (ord j) → i = j) ∧ ∀ i j, i < lv → j < lv → (nx (q (ord i))).testBit (q (ord j)) = (nx (ord i)).testBit (ord j)
def exC (n : Nat) (nx ord : Nat → Nat) (lv : Nat) (q : Nat → Nat) : Prop := ∃ σ, auS n nx σ ∧ ∀ i, i < lv → σ (ord i) = q (ord i)
def fiC (n : Nat) (nx ord : Nat → Nat) (lv : Nat) (q : Nat → Nat) (w : Nat) : Prop := loS n nx (ord lv) = loS n nx w ∧ (∀ i, i < lv → ¬ q (ord i) = w) ∧ ∀ i, i < lv → (nx (ord lv)).testBit (ord i) = (nx (q (ord i))).testBit w
def usS (ord q : Nat → Nat) (lv w : Nat) : Prop := ∃ i, i < lv ∧ q (ord i) = w
section PLA
variable {n : Nat} {nx ord : Nat → Nat} {next order twins : Nat → Int32} {looks : Nat → Int64}
theorem fitting_ok (hG : GoodG n nx) (hx : ∀ w, w < 12 → next w = nI (nx w)) (hB : beS n nx ord order looks twins) {lv : Nat} (hlv : lv < n) {q : Nat → Nat} (hq : ∀ i, i < lv → q (ord i) < n) {images : Nat → Int32} (him : ∀ i, i < lv → images i = nI (q (ord i))) :
    Symmetry_fitting order images looks (nI n) next (nI lv) (nI (mkP n (usS ord q lv))) = some (nI (mkP n (fiC n nx ord lv q))) := by
  have n12 := hG.1
  obtain ⟨hor, hord, hlo, htw⟩ := hB
  have h2n : 2 ^ n ≤ 2 ^ 12 := Nat.pow_le_pow_right (by omega) n12
  have h32 : ∀ P, mkP n P < 2 ^ 32 := fun P => Nat.lt_of_lt_of_le (mkP_lt n P) (by omega)
  have hol := hor.1 lv hlv
  obtain ⟨r, r1, r2⟩ := lp_inv (f := Symmetry_fitting_L13 (nI lv) (nI (mkP n (usS ord q lv))) (nI (ord lv)) looks (nI n)) (fun k s => s.2 = nI k ∧ s.1 = nI (mkP n (fun w => w < k ∧ loS n nx (ord lv) = loS n nx w))) n (fun r => r = nI (mkP n (fun w => loS n nx (ord lv) = loS n nx w)))
    (by
      rintro k ⟨s1, s2⟩ hk ⟨e1, e2⟩
      dsimp only at e1 e2
      subst e1; subst e2
      left
      have hhead : Symmetry_fitting_L13 (nI lv) (nI (mkP n (usS ord q lv))) (nI (ord lv)) looks (nI n) (nI (mkP n (fun w => w < k ∧ loS n nx (ord lv) = loS n nx w)), nI k) = if lg_cmp (loS n nx (ord lv)) (loS n nx k) = 0 then some (.inl (nI (mkP n (fun w => w < k ∧ loS n nx (ord lv) = loS n nx w)) ||| nI (2 ^ k), nI k + 1)) else some (.inl (nI (mkP n (fun w => w < k ∧ loS n nx (ord lv) = loS n nx w)) ||| 0, nI k + 1)) := by
        unfold Symmetry_fitting_L13 Symmetry_fitting_L13_J52
        dsimp only
        rw [if_pos ((nI_ltN (by omega) (by omega)).mpr hk), gd_eq (ixN (show ord lv < 12 by omega) (by omega)), gd_eq (ixN (show k < 12 by omega) (by omega)), nI_clamp (show ord lv < 2 ^ 31 by omega), nI_clamp (show k < 2 ^ 31 by omega), hlo _ hol, hlo k hk, shl_nI (show k < 32 by omega)]
      by_cases z : loS n nx (ord lv) = loS n nx k
      · refine ⟨_, hhead.trans (if_pos ((cmp_zero _ _).mpr z)), nI_ad k 1, ?_⟩
        show nI (mkP n _) ||| nI (2 ^ k) = _
        rw [mkP_one hk, mkP_or n12]
        congr 1
        refine mkP_congr (fun w _ => ?_)
        constructor
        · rintro (y | y)
          · exact ⟨by omega, y.2⟩
          · rw [y]; exact ⟨by omega, z⟩
        · rintro ⟨y1, y2⟩
          by_cases y : w = k
          · exact Or.inr y
          · exact Or.inl ⟨by omega, y2⟩
      · refine ⟨_, hhead.trans (if_neg (fun y => z ((cmp_zero _ _).mp y))), nI_ad k 1, ?_⟩
        show nI (mkP n _) ||| 0 = _
        rw [show (0 : Int32) = nI (mkP n (fun _ => False)) by rw [mkP_none]; rfl, mkP_or n12]
        congr 1
        refine mkP_congr (fun w _ => ?_)
        constructor
        · rintro (y | y)
          · exact ⟨by omega, y.2⟩
          · exact y.elim
        · rintro ⟨y1, y2⟩
          by_cases y : w = k
          · rw [y] at y2; exact absurd y2 z
          · exact Or.inl ⟨by omega, y2⟩)
    (by
      rintro ⟨s1, s2⟩ ⟨e1, e2⟩
      dsimp only at e1 e2
      subst e1
      refine ⟨s1, ?_, e2.trans ?_⟩
      · unfold Symmetry_fitting_L13
        exact if_neg (fun z => by have := (nI_ltN (by omega) (by omega)).mp z; omega)
      · congr 1
        exact mkP_congr (fun w hw => ⟨fun y => y.2, fun y => ⟨hw, y⟩⟩))
    0 (0, 0) (Nat.zero_le _) ⟨rfl, by
      show (0 : Int32) = nI _
      rw [mkP_congr (Q := fun _ => False) (fun w _ => ⟨fun y => by omega, False.elim⟩), mkP_none]
      rfl⟩
  have hand : r &&& (nI (mkP n (usS ord q lv)) ^^^ (-1)) = nI (mkP n (fun w => loS n nx (ord lv) = loS n nx w ∧ ¬ usS ord q lv w ∧ ∀ i, i < 0 → (nx (ord lv)).testBit (ord i) = (nx (q (ord i))).testBit w)) := by
    rw [r2, nand_nI (h32 _) (h32 _)]
    congr 1
    apply bits_eq
    intro i
    rw [less_bit, Bool.and_eq_true, Bool.not_eq_true', mkP_bit, mkP_bit]
    constructor
    · rintro ⟨⟨y1, y2⟩, y3⟩
      refine ⟨y1, y2, fun y => ?_, fun j hj => by omega⟩
      rw [(mkP_bit n (usS ord q lv) i).mpr ⟨y1, y⟩] at y3
      cases y3
    · rintro ⟨y1, y2, y3, -⟩
      refine ⟨⟨y1, y2⟩, ?_⟩
      cases hb : (mkP n (usS ord q lv)).testBit i with
      | false => rfl
      | true => exact absurd ((mkP_bit _ _ _).mp hb).2 y3
  obtain ⟨r', t1, t2⟩ := lp_inv (f := Symmetry_fitting_L72 (nI lv) (nI (ord lv)) order images (nI n) next) (fun k s => s.2 = nI k ∧ s.1 = nI (mkP n (fun w => loS n nx (ord lv) = loS n nx w ∧ ¬ usS ord q lv w ∧ ∀ i, i < k → (nx (ord lv)).testBit (ord i) = (nx (q (ord i))).testBit w))) lv (fun r => r = nI (mkP n (fiC n nx ord lv q)))
    (by
      rintro k ⟨s1, s2⟩ hk ⟨e1, e2⟩
      dsimp only at e1 e2
      subst e1; subst e2
      left
      have hqk := hq k hk
      have hok := hor.1 k (by omega)
      have hnl := hG.2.1 (q (ord k))
      have hhead : Symmetry_fitting_L72 (nI lv) (nI (ord lv)) order images (nI n) next (nI (mkP n (fun w => loS n nx (ord lv) = loS n nx w ∧ ¬ usS ord q lv w ∧ ∀ i, i < k → (nx (ord lv)).testBit (ord i) = (nx (q (ord i))).testBit w)), nI k) = if (if (nx (ord lv)).testBit (ord k) then (1 : Int32) else 0) = 0 then some (.inl (nI (mkP n (fun w => loS n nx (ord lv) = loS n nx w ∧ ¬ usS ord q lv w ∧ ∀ i, i < k → (nx (ord lv)).testBit (ord i) = (nx (q (ord i))).testBit w)) &&& (nI (nx (q (ord k))) ^^^ (-1)), nI k + 1)) else some (.inl (nI (mkP n (fun w => loS n nx (ord lv) = loS n nx w ∧ ¬ usS ord q lv w ∧ ∀ i, i < k → (nx (ord lv)).testBit (ord i) = (nx (q (ord i))).testBit w)) &&& nI (nx (q (ord k))), nI k + 1)) := by
        unfold Symmetry_fitting_L72 Symmetry_fitting_L72_J124
        dsimp only
        rw [if_pos ((nI_ltN (by omega) (by omega)).mpr hk), gd_eq (ixN (show k < 12 by omega) (by omega)), nI_clamp (show k < 2 ^ 31 by omega), him k hk, gd_eq (ixN (show q (ord k) < 12 by omega) (by omega)), gd_eq (ixN (show k < 12 by omega) (by omega)), hord k (by omega), ob_eq (areNext_in hG hx hol hok), nI_clamp (show q (ord k) < 2 ^ 31 by omega), hx (q (ord k)) (by omega)]
      cases hb : (nx (ord lv)).testBit (ord k) with
      | false =>
        refine ⟨_, hhead.trans (by rw [hb]; exact if_pos rfl), nI_ad k 1, ?_⟩
        show nI (mkP n _) &&& (nI (nx (q (ord k))) ^^^ (-1)) = _
        rw [nand_nI (h32 _) (by omega)]
        congr 1
        apply bits_eq
        intro i
        rw [less_bit, Bool.and_eq_true, Bool.not_eq_true', mkP_bit, mkP_bit]
        constructor
        · rintro ⟨⟨y1, y2, y3, y4⟩, y5⟩
          refine ⟨y1, y2, y3, fun j hj => ?_⟩
          by_cases y : j = k
          · rw [y, hb, y5]
          · exact y4 j (by omega)
        · rintro ⟨y1, y2, y3, y4⟩
          exact ⟨⟨y1, y2, y3, fun j hj => y4 j (by omega)⟩, by rw [← y4 k (by omega), hb]⟩
      | true =>
        refine ⟨_, hhead.trans (by rw [hb]; exact if_neg (by decide)), nI_ad k 1, ?_⟩
        show nI (mkP n _) &&& nI (nx (q (ord k))) = _
        rw [and_nI (h32 _) (by omega)]
        congr 1
        apply bits_eq
        intro i
        rw [Nat.testBit_and, Bool.and_eq_true, mkP_bit, mkP_bit]
        constructor
        · rintro ⟨⟨y1, y2, y3, y4⟩, y5⟩
          refine ⟨y1, y2, y3, fun j hj => ?_⟩
          by_cases y : j = k
          · rw [y, hb, y5]
          · exact y4 j (by omega)
        · rintro ⟨y1, y2, y3, y4⟩
          exact ⟨⟨y1, y2, y3, fun j hj => y4 j (by omega)⟩, by rw [← y4 k (by omega), hb]⟩)
    (by
      rintro ⟨s1, s2⟩ ⟨e1, e2⟩
      dsimp only at e1 e2
      subst e1
      refine ⟨s1, ?_, e2.trans ?_⟩
      · unfold Symmetry_fitting_L72
        exact if_neg (fun z => by have := (nI_ltN (by omega) (by omega)).mp z; omega)
      · congr 1
        exact mkP_congr (fun w hw => ⟨fun y => ⟨y.1, fun i hi e => y.2.1 ⟨i, hi, e⟩, y.2.2⟩, fun y => ⟨y.1, fun ⟨i, hi, e⟩ => y.2.1 i hi e, y.2.2⟩⟩))
    0 (r &&& (nI (mkP n (usS ord q lv)) ^^^ (-1)), 0) (Nat.zero_le _) ⟨rfl, hand⟩
  unfold Symmetry_fitting
  rw [gd_eq (ixN (show lv < 12 by omega) (by omega)), nI_clamp (show lv < 2 ^ 31 by omega), hord lv hlv, ob_eq r1, ob_eq t1, t2]
theorem at_ord (hor : orS n ord) {lv i w : Nat} {q : Nat → Nat} (hlv : lv < n) (hi : i < lv) : atS q (ord lv) w (ord i) = q (ord i) := atS_ne (fun e => by have := hor.2 i lv (by omega) hlv e; omega)
theorem pg_up (hG : GoodG n nx) (hor : orS n ord) {lv w : Nat} (hlv : lv < n) {q : Nat → Nat} (h : pgS n nx ord lv q) (hw : w < n) (hf : fiC n nx ord lv q w) : pgS n nx ord (lv + 1) (atS q (ord lv) w) := by
  have hsy := hG.2.2.2.1
  have hir := hG.2.2.2.2
  obtain ⟨h1, h2, h3⟩ := h
  have hv : ∀ i, i < lv + 1 → (i = lv ∧ atS q (ord lv) w (ord i) = w) ∨ (i < lv ∧ atS q (ord lv) w (ord i) = q (ord i)) := fun i hi => by
    by_cases e : i = lv
    · exact Or.inl ⟨e, by rw [e, atS_at]⟩
    · exact Or.inr ⟨by omega, at_ord hor hlv (by omega)⟩
  refine ⟨fun i hi => ?_, fun a b ha hb e => ?_, fun a b ha hb => ?_⟩
  · rcases hv i hi with ⟨-, e⟩ | ⟨e1, e⟩
    · rw [e]; exact hw
    · rw [e]; exact h1 i e1
  · rcases hv a ha with ⟨a1, a2⟩ | ⟨a1, a2⟩
    · rcases hv b hb with ⟨b1, b2⟩ | ⟨b1, b2⟩
      · omega
      · rw [a2, b2] at e; exact absurd e.symm (hf.2.1 b b1)
    · rcases hv b hb with ⟨b1, b2⟩ | ⟨b1, b2⟩
      · rw [a2, b2] at e; exact absurd e (hf.2.1 a a1)
      · rw [a2, b2] at e; exact h2 a b a1 b1 e
  · rcases hv a ha with ⟨a1, a2⟩ | ⟨a1, a2⟩
    · rcases hv b hb with ⟨b1, b2⟩ | ⟨b1, b2⟩
      · rw [a2, b2, a1, b1, hir, hir]
      · rw [a2, b2, a1, hsy w (q (ord b))]; exact (hf.2.2 b b1).symm
    · rcases hv b hb with ⟨b1, b2⟩ | ⟨b1, b2⟩
      · rw [a2, b2, b1, hsy (ord a) (ord lv)]; exact (hf.2.2 a a1).symm
      · rw [a2, b2]; exact h3 a b a1 b1
theorem us_up (hor : orS n ord) {lv w : Nat} (hlv : lv < n) (hw : w < n) (n12 : n ≤ 12) {q : Nat → Nat} : nI (mkP n (usS ord q lv)) ||| nI (2 ^ w) = nI (mkP n (usS ord (atS q (ord lv) w) (lv + 1))) := by
  rw [mkP_one hw, mkP_or n12]
  congr 1
  refine mkP_congr (fun x _ => ?_)
  constructor
  · rintro (⟨i, i1, i2⟩ | y)
    · exact ⟨i, by omega, by rw [at_ord hor hlv i1]; exact i2⟩
    · exact ⟨lv, by omega, by rw [atS_at]; exact y.symm⟩
  · rintro ⟨i, i1, i2⟩
    by_cases e : i = lv
    · rw [e, atS_at] at i2; exact Or.inr i2.symm
    · rw [at_ord hor hlv (by omega)] at i2; exact Or.inl ⟨i, by omega, i2⟩
/-- what a laying does at the next level -/
theorem ex_fit (hG : GoodG n nx) (hor : orS n ord) {lv : Nat} (hlv : lv < n) {q σ : Nat → Nat} (h1 : auS n nx σ) (h2 : ∀ i, i < lv → σ (ord i) = q (ord i)) : fiC n nx ord lv q (σ (ord lv)) ∧ exC n nx ord (lv + 1) (atS q (ord lv) (σ (ord lv))) := by
  have hol := hor.1 lv hlv
  refine ⟨⟨(lo_au h1 hol).symm, fun i hi e => ?_, fun i hi => ?_⟩, σ, h1, fun i hi => ?_⟩
  · rw [← h2 i hi] at e
    have := hor.2 i lv (by omega) hlv (h1.2.1 _ _ (hor.1 i (by omega)) hol e)
    omega
  · rw [← h2 i hi]
    rw [h1.2.2 (ord i) (ord lv) (hor.1 i (by omega)) hol]
    exact hG.2.2.2.1 _ _
  · by_cases e : i = lv
    · rw [e, atS_at]
    · rw [at_ord hor hlv (by omega)]; exact h2 i (by omega)
theorem canGoOn_ok (hG : GoodG n nx) (hx : ∀ w, w < 12 → next w = nI (nx w)) (hB : beS n nx ord order looks twins) : ∀ m lv, lv + m = n → ∀ F, m < F → ∀ (q : Nat → Nat) (images : Nat → Int32), pgS n nx ord lv q → (∀ i, i < lv → images i = nI (q (ord i))) →
    ∃ b images', Symmetry_canGoOn F order images looks twins (nI n) next (nI lv) (nI (mkP n (usS ord q lv))) = some (b, images') ∧ (∀ i, i < lv → images' i = images i) ∧ ((b = 1 ∧ exC n nx ord lv q) ∨ (b = 0 ∧ ¬ exC n nx ord lv q)) := by
  have n12 := hG.1
  obtain ⟨hor, hord, hlo, htw⟩ := id hB
  have h2n : 2 ^ n ≤ 2 ^ 12 := Nat.pow_le_pow_right (by omega) n12
  have h32 : ∀ P, mkP n P < 2 ^ 31 := fun P => Nat.lt_of_lt_of_le (mkP_lt n P) (by omega)
  intro m
  induction m with
  | zero =>
    intro lv hm F hF q images hq him
    have e : lv = n := by omega
    subst e
    obtain ⟨F, rfl⟩ : ∃ F', F = F' + 1 := ⟨F - 1, by omega⟩
    refine ⟨1, images, ?_, fun _ _ => rfl, Or.inl ⟨rfl, q, ⟨fun w hw => ?_, fun a b ha hb e => ?_, fun a b ha hb => ?_⟩, fun _ _ => rfl⟩⟩
    · show Symmetry_canGoOnO (Symmetry_canGoOn F) order images looks twins (nI lv) next (nI lv) (nI (mkP lv (usS ord q lv))) = _
      unfold Symmetry_canGoOnO
      exact if_neg (fun z => by have := (nI_ltN (by omega) (by omega)).mp z; omega)
    · obtain ⟨i, i1, i2⟩ := inj_onto hor.1 hor.2 hw
      rw [← i2]; exact hq.1 i i1
    · obtain ⟨i, i1, i2⟩ := inj_onto hor.1 hor.2 ha
      obtain ⟨j, j1, j2⟩ := inj_onto hor.1 hor.2 hb
      rw [← i2, ← j2] at e
      rw [← i2, ← j2, hq.2.1 i j i1 j1 e]
    · obtain ⟨i, i1, i2⟩ := inj_onto hor.1 hor.2 ha
      obtain ⟨j, j1, j2⟩ := inj_onto hor.1 hor.2 hb
      rw [← i2, ← j2]; exact hq.2.2 i j i1 j1
  | succ m ih =>
    intro lv hm F hF q images hq him
    obtain ⟨F, rfl⟩ : ∃ F', F = F' + 1 := ⟨F - 1, by omega⟩
    have hlv : lv < n := by omega
    have hfit := fitting_ok hG hx hB hlv hq.1 him
    obtain ⟨r, r1, im', r2, r3⟩ := lp_inv (f := Symmetry_canGoOnO_L26 (Symmetry_canGoOn F) (nI lv) (nI (mkP n (usS ord q lv))) (nI (mkP n (fiC n nx ord lv q))) order looks twins (nI n) next)
      (fun k s => s.2.1 = nI k ∧ (∀ i, i < lv → s.2.2 i = images i) ∧ (∀ w, w < k → fiC n nx ord lv q w → ¬ exC n nx ord (lv + 1) (atS q (ord lv) w)) ∧ ∃ FA : Nat → Prop, s.1 = nI (mkP n FA) ∧ ∀ u, FA u → u < n ∧ fiC n nx ord lv q u ∧ ¬ exC n nx ord (lv + 1) (atS q (ord lv) u)) n
      (fun r => ∃ im', ((r = Sum.inl im' ∧ exC n nx ord lv q) ∨ (r = Sum.inr im' ∧ ¬ exC n nx ord lv q)) ∧ ∀ i, i < lv → im' i = images i)
      (by
        rintro k ⟨s1, s2, im⟩ hk ⟨e1, e2, e3, FA, e4, e5⟩
        dsimp only at e1 e2 e4
        subst e1; subst e4
        have hbit : ((nI (mkP n (fiC n nx ord lv q)) >>> (nI k &&& 31)) &&& 1) = if (mkP n (fiC n nx ord lv q)).testBit k then 1 else 0 := bit_nI (h32 _) (by omega)
        have hskip : ¬ exC n nx ord (lv + 1) (atS q (ord lv) k) ∨ ¬ fiC n nx ord lv q k → ∀ w, w < k + 1 → fiC n nx ord lv q w → ¬ exC n nx ord (lv + 1) (atS q (ord lv) w) := fun h w hw hf => by
          by_cases y : w = k
          · rw [y] at hf ⊢
            exact h.resolve_right (fun z => z hf)
          · exact e3 w (by omega) hf
        by_cases hf : fiC n nx ord lv q k
        · have hb1 : (mkP n (fiC n nx ord lv q)).testBit k = true := (mkP_bit _ _ _).mpr ⟨hk, hf⟩
          rw [hb1, if_pos rfl] at hbit
          have hand : nI (mkP n FA) &&& nI (mkP n (twS nx k)) = nI (mkP n FA &&& mkP n (twS nx k)) := and_nI (by have := h32 FA; omega) (by have := h32 (twS nx k); omega)
          by_cases z : mkP n FA &&& mkP n (twS nx k) = 0
          · -- it is tried
            have hpg := pg_up hG hor hlv hq hk hf
            obtain ⟨b, im2, q1, q2, q3⟩ := ih (lv + 1) (by omega) F (by omega) (atS q (ord lv) k) (upd im lv (nI k)) hpg (fun i hi => by
              by_cases y : i = lv
              · rw [y, upd_at, atS_at]
              · rw [upd_ne y, at_ord hor hlv (by omega), e2 i (by omega)]; exact him i (by omega))
            have hag : ∀ i, i < lv → im2 i = images i := fun i hi => by rw [q2 i (by omega), upd_ne (by omega)]; exact e2 i hi
            have hhead : Symmetry_canGoOnO_L26 (Symmetry_canGoOn F) (nI lv) (nI (mkP n (usS ord q lv))) (nI (mkP n (fiC n nx ord lv q))) order looks twins (nI n) next (nI (mkP n FA), nI k, im) = if b = 0 then some (.inl (nI (mkP n FA) ||| nI (2 ^ k), nI k + 1, im2)) else some (.inr (.inl im2)) := by
              unfold Symmetry_canGoOnO_L26 Symmetry_canGoOnO_L26_J95
              dsimp only
              rw [if_pos ((nI_ltN (by omega) (by omega)).mpr hk), hbit, if_neg one_ne0, gd_eq (ixN (show k < 12 by omega) (by omega)), nI_clamp (show k < 2 ^ 31 by omega), htw k hk, hand, z, if_pos (show nI 0 = 0 from rfl), gd_eq (ixN (show lv < 12 by omega) (by omega)), nI_clamp (show lv < 2 ^ 31 by omega), show nI lv + 1 = nI (lv + 1) from nI_ad lv 1, shl_nI (show k < 32 by omega), us_up hor hlv hk n12, ob_eq q1]
            rcases q3 with ⟨rfl, σ, s1, s2⟩ | ⟨rfl, hno⟩
            · right
              exact ⟨_, hhead.trans (if_neg one_ne0), im2, Or.inl ⟨rfl, σ, s1, fun i hi => by rw [s2 i (by omega), at_ord hor hlv hi]⟩, hag⟩
            · left
              refine ⟨_, hhead.trans (if_pos rfl), nI_ad k 1, hag, hskip (Or.inl hno), fun w => FA w ∨ w = k, ?_, fun u hu => ?_⟩
              · show nI (mkP n FA) ||| nI (2 ^ k) = _
                rw [mkP_one hk, mkP_or n12]
              · rcases hu with hu | hu
                · exact e5 u hu
                · rw [hu]; exact ⟨hk, hf, hno⟩
          · -- a twin did not do
            left
            have hu : ∃ u, FA u ∧ twS nx k u := by
              refine Classical.byContradiction (fun hno => z (zero_of_bits (fun i => ?_)))
              rw [Nat.testBit_and]
              cases hb : (mkP n FA).testBit i with
              | false => rfl
              | true =>
                cases hb2 : (mkP n (twS nx k)).testBit i with
                | false => rfl
                | true => exact absurd ⟨i, ((mkP_bit _ _ _).mp hb).2, ((mkP_bit _ _ _).mp hb2).2⟩ hno
            obtain ⟨u, u1, u2⟩ := hu
            obtain ⟨v1, v2, v3⟩ := e5 u u1
            have hno : ¬ exC n nx ord (lv + 1) (atS q (ord lv) k) := fun ⟨σ, s1, s2⟩ => by
              refine v3 ⟨fun w => swS u k (σ w), au_comp (au_sw hG v1 hk u2) s1, fun i hi => ?_⟩
              show swS u k (σ (ord i)) = _
              by_cases y : i = lv
              · rw [s2 i hi, y, atS_at, atS_at, sw_w]
              · rw [s2 i hi, at_ord hor hlv (by omega), at_ord hor hlv (by omega)]
                exact sw_o (v2.2.1 i (by omega)) (hf.2.1 i (by omega))
            refine ⟨(nI (mkP n FA), nI k + 1, im), ?_, nI_ad k 1, e2, hskip (Or.inl hno), FA, rfl, e5⟩
            have hlt : mkP n FA &&& mkP n (twS nx k) < 2 ^ 31 := Nat.lt_of_le_of_lt Nat.and_le_left (h32 FA)
            unfold Symmetry_canGoOnO_L26 Symmetry_canGoOnO_L26_J95
            dsimp only
            rw [if_pos ((nI_ltN (by omega) (by omega)).mpr hk), hbit, if_neg one_ne0, gd_eq (ixN (show k < 12 by omega) (by omega)), nI_clamp (show k < 2 ^ 31 by omega), htw k hk, hand, if_neg (show ¬ nI (mkP n FA &&& mkP n (twS nx k)) = 0 from fun y => z ((nI_inj (b := 0) hlt (by omega)).mp y))]
        · left
          have hb0 : (mkP n (fiC n nx ord lv q)).testBit k = false := by
            cases hb : (mkP n (fiC n nx ord lv q)).testBit k with
            | false => rfl
            | true => exact absurd ((mkP_bit _ _ _).mp hb).2 hf
          rw [hb0, if_neg (by decide)] at hbit
          refine ⟨(nI (mkP n FA), nI k + 1, im), ?_, nI_ad k 1, e2, hskip (Or.inr hf), FA, rfl, e5⟩
          unfold Symmetry_canGoOnO_L26 Symmetry_canGoOnO_L26_J95
          dsimp only
          rw [if_pos ((nI_ltN (by omega) (by omega)).mpr hk), hbit, if_pos rfl])
      (by
        rintro ⟨s1, s2, im⟩ ⟨e1, e2, e3, FA, e4, e5⟩
        dsimp only at e1 e2 e4
        subst e1; subst e4
        refine ⟨Sum.inr im, ?_, im, Or.inr ⟨rfl, fun ⟨σ, s1, s2⟩ => ?_⟩, e2⟩
        · unfold Symmetry_canGoOnO_L26
          exact if_neg (fun z => by have := (nI_ltN (by omega) (by omega)).mp z; omega)
        · obtain ⟨f1, f2⟩ := ex_fit hG hor hlv s1 s2
          exact e3 _ (s1.1 _ (hor.1 lv hlv)) f1 f2)
      0 (0, 0, images) (Nat.zero_le _) ⟨rfl, fun _ _ => rfl, fun w hw => by omega, fun _ => False, by
        show (0 : Int32) = nI _
        rw [mkP_none]; rfl, fun u hu => hu.elim⟩
    have hhead : Symmetry_canGoOn (F + 1) order images looks twins (nI n) next (nI lv) (nI (mkP n (usS ord q lv))) = sm r (fun x2 => some (1, x2)) (fun x2 => some (0, x2)) := by
      show Symmetry_canGoOnO (Symmetry_canGoOn F) order images looks twins (nI n) next (nI lv) (nI (mkP n (usS ord q lv))) = _
      unfold Symmetry_canGoOnO
      rw [if_pos ((nI_ltN (by omega) (by omega)).mpr hlv), ob_eq hfit, ob_eq r1]
    rcases r2 with ⟨rfl, z⟩ | ⟨rfl, z⟩
    · exact ⟨1, im', hhead, r3, Or.inl ⟨rfl, z⟩⟩
    · exact ⟨0, im', hhead, r3, Or.inr ⟨rfl, z⟩⟩
/-- the places of the one at a level while all ahead of it stay -/
def plS (n : Nat) (nx ord : Nat → Nat) (lv w : Nat) : Prop := ∃ σ, auS n nx σ ∧ (∀ i, i < lv → σ (ord i) = ord i) ∧ σ (ord lv) = w
theorem places_ok (hG : GoodG n nx) (hx : ∀ w, w < 12 → next w = nI (nx w)) (hB : beS n nx ord order looks twins) {lv : Nat} (hlv : lv < n) (images : Nat → Int32) : ∃ images', Symmetry_places order images looks twins (nI n) next (nI lv) = some (nI (mkP n (plS n nx ord lv)), images') := by
  have n12 := hG.1
  obtain ⟨hor, hord, hlo, htw⟩ := id hB
  have h2n : 2 ^ n ≤ 2 ^ 12 := Nat.pow_le_pow_right (by omega) n12
  have h32 : ∀ P, mkP n P < 2 ^ 31 := fun P => Nat.lt_of_lt_of_le (mkP_lt n P) (by omega)
  obtain ⟨⟨us, im⟩, r1, r2, r3⟩ := lp_inv (f := Symmetry_places_L4 (nI lv) order) (fun k s => s.2.1 = nI k ∧ s.1 = nI (mkP n (usS ord (fun w => w) k)) ∧ ∀ i, i < k → s.2.2 i = nI (ord i)) lv (fun r => r.1 = nI (mkP n (usS ord (fun w => w) lv)) ∧ ∀ i, i < lv → r.2 i = nI (ord i))
    (by
      rintro k ⟨s1, s2, im⟩ hk ⟨e1, e2, e3⟩
      dsimp only at e1 e2 e3
      subst e1; subst e2
      left
      have hok := hor.1 k (by omega)
      refine ⟨(nI (mkP n (usS ord (fun w => w) k)) ||| nI (2 ^ ord k), nI k + 1, upd im k (nI (ord k))), ?_, nI_ad k 1, ?_, fun i hi => ?_⟩
      · unfold Symmetry_places_L4
        dsimp only
        rw [if_pos ((nI_ltN (by omega) (by omega)).mpr hk), gd_eq (ixN (show k < 12 by omega) (by omega)), gd_eq (ixN (show k < 12 by omega) (by omega)), gd_eq (ixN (show k < 12 by omega) (by omega)), nI_clamp (show k < 2 ^ 31 by omega), hord k (by omega), shl_nI (show ord k < 32 by omega)]
      · show nI (mkP n _) ||| nI (2 ^ ord k) = _
        rw [mkP_one hok, mkP_or n12]
        congr 1
        refine mkP_congr (fun x _ => ?_)
        constructor
        · rintro (⟨i, i1, i2⟩ | y)
          · exact ⟨i, by omega, i2⟩
          · exact ⟨k, by omega, y.symm⟩
        · rintro ⟨i, i1, i2⟩
          by_cases e : i = k
          · rw [e] at i2; exact Or.inr i2.symm
          · exact Or.inl ⟨i, by omega, i2⟩
      · show upd im k _ i = _
        by_cases y : i = k
        · rw [y, upd_at]
        · rw [upd_ne y]; exact e3 i (by omega))
    (by
      rintro ⟨s1, s2, im⟩ ⟨e1, e2, e3⟩
      dsimp only at e1 e2 e3
      subst e1
      refine ⟨(s1, im), ?_, e2, e3⟩
      unfold Symmetry_places_L4
      exact if_neg (fun z => by have := (nI_ltN (by omega) (by omega)).mp z; omega))
    0 (0, 0, images) (Nat.zero_le _) ⟨rfl, by
      show (0 : Int32) = nI _
      rw [mkP_congr (Q := fun _ => False) (fun w _ => ⟨fun ⟨i, i1, _⟩ => by omega, False.elim⟩), mkP_none]
      rfl, fun i hi => by omega⟩
  dsimp only at r2 r3
  subst r2
  have hpg : pgS n nx ord lv (fun w => w) := ⟨fun i hi => hor.1 i (by omega), fun i j hi hj e => hor.2 i j (by omega) (by omega) e, fun _ _ _ _ => rfl⟩
  have hfit := fitting_ok hG hx hB hlv (q := fun w => w) hpg.1 (images := im) r3
  have hpl : ∀ w, w < n → (plS n nx ord lv w ↔ exC n nx ord (lv + 1) (atS (fun w => w) (ord lv) w)) := fun w hw => by
    constructor
    · rintro ⟨σ, s1, s2, s3⟩
      have := (ex_fit hG hor hlv (q := fun w => w) s1 s2).2
      rw [s3] at this
      exact this
    · rintro ⟨σ, s1, s2⟩
      refine ⟨σ, s1, fun i hi => ?_, ?_⟩
      · rw [s2 i (by omega), at_ord hor hlv hi]
      · rw [s2 lv (by omega), atS_at]
  have hplf : ∀ w, plS n nx ord lv w → fiC n nx ord lv (fun w => w) w := fun w ⟨σ, s1, s2, s3⟩ => by
    have := (ex_fit hG hor hlv (q := fun w => w) s1 s2).1
    rw [s3] at this
    exact this
  obtain ⟨⟨ab, im2⟩, t1, t2⟩ := lp_inv (f := Symmetry_places_L51 (nI lv) (nI (mkP n (usS ord (fun w => w) lv))) (nI (mkP n (fiC n nx ord lv (fun w => w)))) order looks twins (nI n) next) (fun k s => s.2.1 = nI k ∧ s.1 = nI (mkP n (fun w => w < k ∧ plS n nx ord lv w)) ∧ ∀ i, i < lv → s.2.2 i = nI (ord i)) n (fun r => r.1 = nI (mkP n (plS n nx ord lv)))
    (by
      rintro k ⟨s1, s2, im⟩ hk ⟨e1, e2, e3⟩
      dsimp only at e1 e2 e3
      subst e1; subst e2
      left
      have hbit : ((nI (mkP n (fiC n nx ord lv (fun w => w))) >>> (nI k &&& 31)) &&& 1) = if (mkP n (fiC n nx ord lv (fun w => w))).testBit k then 1 else 0 := bit_nI (h32 _) (by omega)
      have hyes : plS n nx ord lv k → nI (mkP n (fun w => w < k ∧ plS n nx ord lv w)) ||| nI (2 ^ k) = nI (mkP n (fun w => w < k + 1 ∧ plS n nx ord lv w)) := fun z => by
        rw [mkP_one hk, mkP_or n12]
        congr 1
        refine mkP_congr (fun w _ => ?_)
        constructor
        · rintro (y | y)
          · exact ⟨by omega, y.2⟩
          · rw [y]; exact ⟨by omega, z⟩
        · rintro ⟨y1, y2⟩
          by_cases y : w = k
          · exact Or.inr y
          · exact Or.inl ⟨by omega, y2⟩
      have hno : ¬ plS n nx ord lv k → nI (mkP n (fun w => w < k ∧ plS n nx ord lv w)) = nI (mkP n (fun w => w < k + 1 ∧ plS n nx ord lv w)) := fun z => by
        congr 1
        refine mkP_congr (fun w _ => ?_)
        constructor
        · exact fun y => ⟨by omega, y.2⟩
        · rintro ⟨y1, y2⟩
          by_cases y : w = k
          · rw [y] at y2; exact absurd y2 z
          · exact ⟨by omega, y2⟩
      have him : ∀ i, i < lv → upd im lv (nI k) i = nI (ord i) := fun i hi => by rw [upd_ne (by omega)]; exact e3 i hi
      have hupd : upd im (nI lv).toNatClampNeg (nI k) = upd im lv (nI k) := by rw [nI_clamp (by omega)]
      by_cases hf : fiC n nx ord lv (fun w => w) k
      · have hb1 : (mkP n (fiC n nx ord lv (fun w => w))).testBit k = true := (mkP_bit _ _ _).mpr ⟨hk, hf⟩
        rw [hb1, if_pos rfl] at hbit
        by_cases z : k = ord lv
        · have hp : plS n nx ord lv k := ⟨fun w => w, au_id, fun _ _ => rfl, z.symm⟩
          refine ⟨(nI (mkP n (fun w => w < k ∧ plS n nx ord lv w)) ||| nI (2 ^ k), nI k + 1, upd im lv (nI k)), ?_, nI_ad k 1, hyes hp, him⟩
          unfold Symmetry_places_L51 Symmetry_places_L51_J109 Symmetry_places_L51_J117 Symmetry_places_L51_J119
          dsimp only
          rw [if_pos ((nI_ltN (by omega) (by omega)).mpr hk), hbit, if_neg one_ne0, gd_eq (ixN (show lv < 12 by omega) (by omega)), gd_eq (ixN (show lv < 12 by omega) (by omega)), hupd, nI_clamp (show lv < 2 ^ 31 by omega), hord lv hlv, if_pos (by rw [z]), shl_nI (show k < 32 by omega)]
        · have hpg2 := pg_up hG hor hlv hpg hk hf
          obtain ⟨b, im2, q1, q2, q3⟩ := canGoOn_ok hG hx hB (n - (lv + 1)) (lv + 1) (by omega) 13 (by omega) (atS (fun w => w) (ord lv) k) (upd im lv (nI k)) hpg2 (fun i hi => by
            by_cases y : i = lv
            · rw [y, upd_at, atS_at]
            · rw [upd_ne y, at_ord hor hlv (by omega)]; exact e3 i (by omega))
          have hag : ∀ i, i < lv → im2 i = nI (ord i) := fun i hi => by rw [q2 i (by omega)]; exact him i hi
          have hhead : Symmetry_places_L51 (nI lv) (nI (mkP n (usS ord (fun w => w) lv))) (nI (mkP n (fiC n nx ord lv (fun w => w)))) order looks twins (nI n) next (nI (mkP n (fun w => w < k ∧ plS n nx ord lv w)), nI k, im) = if b = 0 then some (.inl (nI (mkP n (fun w => w < k ∧ plS n nx ord lv w)) ||| 0, nI k + 1, im2)) else some (.inl (nI (mkP n (fun w => w < k ∧ plS n nx ord lv w)) ||| nI (2 ^ k), nI k + 1, im2)) := by
            unfold Symmetry_places_L51 Symmetry_places_L51_J109 Symmetry_places_L51_J117 Symmetry_places_L51_J119
            dsimp only
            rw [if_pos ((nI_ltN (by omega) (by omega)).mpr hk), hbit, if_neg one_ne0, gd_eq (ixN (show lv < 12 by omega) (by omega)), gd_eq (ixN (show lv < 12 by omega) (by omega)), hupd, nI_clamp (show lv < 2 ^ 31 by omega), hord lv hlv, if_neg (fun y => z ((nI_inj (by omega) (by have := hor.1 lv hlv; omega)).mp y)), show nI lv + 1 = nI (lv + 1) from nI_ad lv 1, shl_nI (show k < 32 by omega), us_up hor hlv hk n12, ob_eq q1]
          rcases q3 with ⟨rfl, y⟩ | ⟨rfl, y⟩
          · exact ⟨_, hhead.trans (if_neg one_ne0), nI_ad k 1, hyes ((hpl k hk).mpr y), hag⟩
          · refine ⟨_, hhead.trans (if_pos rfl), nI_ad k 1, ?_, hag⟩
            show nI (mkP n _) ||| 0 = _
            rw [← hno (fun z => y ((hpl k hk).mp z))]
            rw [show (0 : Int32) = nI (mkP n (fun _ => False)) by rw [mkP_none]; rfl, mkP_or n12]
            congr 1
            exact mkP_congr (fun w _ => ⟨fun y => y.resolve_right id, Or.inl⟩)
      · have hb0 : (mkP n (fiC n nx ord lv (fun w => w))).testBit k = false := by
          cases hb : (mkP n (fiC n nx ord lv (fun w => w))).testBit k with
          | false => rfl
          | true => exact absurd ((mkP_bit _ _ _).mp hb).2 hf
        rw [hb0, if_neg (by decide)] at hbit
        refine ⟨(nI (mkP n (fun w => w < k ∧ plS n nx ord lv w)), nI k + 1, im), ?_, nI_ad k 1, hno (fun z => hf (hplf k z)), e3⟩
        unfold Symmetry_places_L51 Symmetry_places_L51_J119
        dsimp only
        rw [if_pos ((nI_ltN (by omega) (by omega)).mpr hk), hbit, if_pos rfl])
    (by
      rintro ⟨s1, s2, im⟩ ⟨e1, e2, e3⟩
      dsimp only at e1 e2 e3
      subst e1
      refine ⟨(s1, im), ?_, e2.trans ?_⟩
      · unfold Symmetry_places_L51
        exact if_neg (fun z => by have := (nI_ltN (by omega) (by omega)).mp z; omega)
      · congr 1
        exact mkP_congr (fun w hw => ⟨fun y => y.2, fun y => ⟨hw, y⟩⟩))
    0 (0, 0, im) (Nat.zero_le _) ⟨rfl, by
      show (0 : Int32) = nI _
      rw [mkP_congr (Q := fun _ => False) (fun w _ => ⟨fun y => by omega, False.elim⟩), mkP_none]
      rfl, r3⟩
  dsimp only at t2
  subst t2
  refine ⟨im2, ?_⟩
  unfold Symmetry_places
  rw [ob_eq r1]
  dsimp only
  rw [ob_eq hfit, ob_eq t1]
end PLA
