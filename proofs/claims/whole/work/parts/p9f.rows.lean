/-! FEWEST: all rows of so many jars, both side by side -/
def fuS (n : Nat) (nx g : Nat → Nat) : Prop := ∀ w, w < n → rsS n nx g w
/-- the row of this rank reaches all -/
def frS (n : Nat) (nx : Nat → Nat) (r : Nat) : Prop := ∃ h, SG n h ∧ rkS h n n = r ∧ fuS n nx h
noncomputable def cfS (n : Nat) (nx : Nat → Nat) (r0 : Nat) : Nat → Nat := totS (fun x => @ite Nat (frS n nx (r0 + x)) (Classical.propDecidable _) 1 0)
theorem fr_row {n : Nat} {nx g : Nat → Nat} (hg : SG n g) : frS n nx (rkS g n n) ↔ fuS n nx g := by
  constructor
  · rintro ⟨h, h1, h2, h3⟩
    rw [← rk_eq h1 hg h2]; exact h3
  · exact fun h => ⟨g, hg, rfl, h⟩
theorem cf_succ (n : Nat) (nx : Nat → Nat) (r0 x : Nat) : (frS n nx (r0 + x) → cfS n nx r0 (x + 1) = cfS n nx r0 x + 1) ∧ (¬ frS n nx (r0 + x) → cfS n nx r0 (x + 1) = cfS n nx r0 x) := by
  have e : cfS n nx r0 (x + 1) = cfS n nx r0 x + @ite Nat (frS n nx (r0 + x)) (Classical.propDecidable _) 1 0 := rfl
  constructor
  · intro h; rw [e, if_pos h]
  · intro h; rw [e, if_neg h]; rfl
theorem cf_le (n : Nat) (nx : Nat → Nat) (r0 : Nat) : ∀ x, cfS n nx r0 x ≤ x := by
  intro x
  induction x with
  | zero => exact Nat.le_refl _
  | succ x ih =>
    by_cases h : frS n nx (r0 + x)
    · rw [(cf_succ n nx r0 x).1 h]; omega
    · rw [(cf_succ n nx r0 x).2 h]; omega
/-- the best so far: the first that reaches all -/
def bsS (n : Nat) (nx : Nat → Nat) (T x : Nat) (best laidBest : Nat → Int32) : Prop :=
  cfS n nx (rbS n T) x = 0 ∨ ∃ b, SG n b ∧ totS b 8 = T ∧ fuS n nx b ∧ rowIs n best b ∧ rowIs n laidBest b ∧ ∀ x', x' < x → frS n nx (rbS n T + x') → rkS b n n ≤ rbS n T + x'
abbrev TCl := Int32 × (Nat → Int32) × (Nat → Int32) × (Nat → Int32) × Int32
abbrev TRf := Int32 × Int32 × (Nat → Int32) × (Nat → Int32) × (Nat → Int32) × (Nat → Int32) × (Nat → Int32) × Int32 × (Nat → Int32) × (Nat → Int32)
theorem rows_both {n : Nat} {nx : Nat → Nat} (hG : GoodG n nx) {next nextTo below : Nat → Int32} (hx : ∀ w, w < 12 → next w = nI (nx w)) (hx2 : ∀ w, w < 12 → nextTo w = nI (nx w)) (hn : 1 ≤ n) (h7 : n ≤ 7) (hb : RBk below) {T : Nat} (hT : T ≤ n) {nr : Nat} (hnr : rbS n (n + 1) ≤ nr) (hnr2 : nr < 2 ^ 31)
    {row best reached laid laidBest : Nat → Int32} {g0 : Nat → Nat} (hg0 : SG n g0) (ht0 : totS g0 8 = T) (hk0 : rkS g0 n n = rbS n T) (hrow : rowIs n row g0) (hlaid : rowIs n laid g0) (hrd : ∀ h, SG n h → rkS h n n < rbS n T → reached (rkS h n n) = nI (mskS n nx h))
    {L : List Int32} {sf sa so : Nat → Int32} {st : Int32} (hH : HT L sf sa so st) (fa mt : Nat → Int32) :
    ∃ row' best' reached' sf' sa' so' fa' mt' st' laid' laidBest' L', lp (Fewest_tryAll_L47 (nI n) (nI (rbS n (T + 1))) below nr (nI n) next) (nI (rbS n T), row, best, reached, 0) = some (row', best', reached', nI (cfS n nx (rbS n T) (rbS n (T + 1) - rbS n T))) ∧
      lp (Mo_waysOf_L35 nextTo (nI n)) (0, 1, sf, sa, so, fa, mt, st, laid, laidBest) = some (nI (cfS n nx (rbS n T) (rbS n (T + 1) - rbS n T)), sf', sa', so', fa', mt', st', laid', laidBest') ∧ HT L' sf' sa' so' st' ∧ bsS n nx T (rbS n (T + 1) - rbS n T) best' laidBest' ∧ ∀ h, SG n h → rkS h n n < rbS n (T + 1) → reached' (rkS h n n) = nI (mskS n nx h) := by
  have n12 := hG.1
  have hrb := (rb_bound n (by omega) (T + 1) (by omega)).1
  have hmono : rbS n T ≤ rbS n (T + 1) := rbS_mono (by omega)
  have hmono2 : rbS n (T + 1) ≤ nr := Nat.le_trans (rbS_mono (by omega)) hnr
  have hfull : ((1 : Int32) <<< (nI n &&& 31)) - 1 = nI (2 ^ n - 1) := by
    rw [shl_nI (by omega)]
    exact nI_subN (b := 1) (Nat.pow_pos (by omega))
  have h31 : ∀ P, mkP n P < 2 ^ 31 := fun P => Nat.lt_of_lt_of_le (mkP_lt n P) (Nat.pow_le_pow_right (by omega) (by omega))
  have h2n : 2 ^ n ≤ 2 ^ 7 := Nat.pow_le_pow_right (by omega) h7
  have hN : rbS n T < rbS n (T + 1) := by rw [← hk0]; exact rk_lt (by omega) hg0 (by omega)
  obtain ⟨r, r', q1, q2, q3⟩ := lp_sim (f := Fewest_tryAll_L47 (nI n) (nI (rbS n (T + 1))) below nr (nI n) next) (g := Mo_waysOf_L35 nextTo (nI n))
    (fun x (s : TCl) (u : TRf) => s.1 = nI (rbS n T + x) ∧ s.2.2.2.2 = nI (cfS n nx (rbS n T) x) ∧ u.1 = nI (cfS n nx (rbS n T) x) ∧ (∃ L', HT L' u.2.2.1 u.2.2.2.1 u.2.2.2.2.1 u.2.2.2.2.2.2.2.1) ∧ bsS n nx T x s.2.2.1 u.2.2.2.2.2.2.2.2.2 ∧ (∀ h, SG n h → rkS h n n < rbS n T + x → s.2.2.2.1 (rkS h n n) = nI (mskS n nx h)) ∧
      ((u.2.1 = 1 ∧ ∃ g, SG n g ∧ totS g 8 = T ∧ rkS g n n = rbS n T + x ∧ rowIs n s.2.1 g ∧ rowIs n u.2.2.2.2.2.2.2.2.1 g) ∨ (u.2.1 = 0 ∧ rbS n T + x = rbS n (T + 1)))) (rbS n (T + 1) - rbS n T)
    (fun r r' => r.2.2.2 = nI (cfS n nx (rbS n T) (rbS n (T + 1) - rbS n T)) ∧ r'.1 = nI (cfS n nx (rbS n T) (rbS n (T + 1) - rbS n T)) ∧ (∃ L', HT L' r'.2.1 r'.2.2.1 r'.2.2.2.1 r'.2.2.2.2.2.2.1) ∧ bsS n nx T (rbS n (T + 1) - rbS n T) r.2.1 r'.2.2.2.2.2.2.2.2 ∧ ∀ h, SG n h → rkS h n n < rbS n (T + 1) → r.2.2.1 (rkS h n n) = nI (mskS n nx h))
    (by
      rintro x ⟨s1, ro, be, re, la⟩ ⟨u1, u2, sf, sa, so, fa, mt, st, ld, lb⟩ hk ⟨e1, e2, e3, ⟨L, e4⟩, e5, e6, e7⟩
      dsimp only at e1 e2 e3 e4 e5 e6 e7
      subst e1; subst e2; subst e3
      rcases e7 with ⟨rfl, g, g1, g2, g3, g4, g5⟩ | ⟨-, z⟩
      case inr => omega
      left
      have hcle := cf_le n nx (rbS n T) x
      obtain ⟨ro1, a1, a2⟩ := reachedFrom_ok hG hx h7 hb g1 (reached := re) (nr := nr) hnr2 (fun h h1 h2 => by
        have h3 := rk_lt (show n ≤ 8 by omega) h1 (s := T) (by omega)
        exact ⟨by omega, e6 h h1 (by omega)⟩) g4
      obtain ⟨b, sf', sa', so', fa', mt', st', L', c1, c2, c3⟩ := reachesAll_ok hG h7 hn hx2 g1 g5 e4 fa mt
      have hrank := rk_lt (show n ≤ 8 by omega) g1 (s := T + 1) (by omega)
      have hre' : ∀ h, SG n h → rkS h n n < rbS n T + (x + 1) → upd re (rbS n T + x) (nI (mskS n nx g)) (rkS h n n) = nI (mskS n nx h) := fun h h1 h2 => by
        by_cases y : rkS h n n = rbS n T + x
        · rw [y, upd_at, rk_eq h1 g1 (by omega)]
        · rw [upd_ne y]; exact e6 h h1 (by omega)
      -- the next row
      have hnext : ∃ ro2 ld2 go, Fewest_goToLesserRow ro1 (nI n) = some ro2 ∧ Mo_nextRow (nI n) ld = some (go, ld2) ∧ ((go = 1 ∧ ∃ g', SG n g' ∧ totS g' 8 = T ∧ rkS g' n n = rbS n T + (x + 1) ∧ rowIs n ro2 g' ∧ rowIs n ld2 g') ∨ (go = 0 ∧ rbS n T + (x + 1) = rbS n (T + 1))) := by
        rcases lesser_ok hn h7 g1 a2 with ⟨i, ro2, i1, i2, i3⟩ | ⟨i1, i2⟩
        · rcases next_ok hn h7 g1 g5 with ⟨j, ld2, j1, j2, j3⟩ | ⟨j1, j2⟩
          · have := pos_uniq i1 j1
            subst this
            obtain ⟨k1, k2⟩ := les_SG (show n ≤ 8 by omega) g1 i1
            exact ⟨ro2, ld2, 1, i2, j2, Or.inl ⟨rfl, lesS n i g, k1, by omega, by rw [(les_rank i1).1]; omega, i3, j3⟩⟩
          · have := j1 i (by have := i1.1; omega)
            have := i1.2.1
            omega
        · rcases next_ok hn h7 g1 g5 with ⟨j, ld2, j1, j2, j3⟩ | ⟨j1, j2⟩
          · have := i1 j (by have := j1.1; omega)
            have := j1.2.1
            omega
          · have h1 := rk_last hn i1
            have h2 := tot_n8 (show n ≤ 8 by omega) g1
            rw [show totS g n = T by omega] at h1
            exact ⟨ro1, ld, 0, i2, j2, Or.inr ⟨rfl, by omega⟩⟩
      obtain ⟨ro2, ld2, go, m1, m2, m3⟩ := hnext
      have hrk : frS n nx (rbS n T + x) ↔ fuS n nx g := by rw [← g3]; exact fr_row g1
      have hmf : nI (mskS n nx g) = nI (2 ^ n - 1) ↔ fuS n nx g := ⟨fun z => mkP_all.mp ((nI_inj (h31 _) (by omega)).mp z), fun z => by unfold mskS; rw [mkP_all.mpr z]⟩
      have hcl : ∀ (be2 : Nat → Int32) (la2 : Int32), (nI (mskS n nx g) = nI (2 ^ n - 1) → la2 = nI (cfS n nx (rbS n T) x) + 1 ∧ be2 = if nI (cfS n nx (rbS n T) x) = 0 then va_cpy ro1 be 0 0 7 else be) → (¬ nI (mskS n nx g) = nI (2 ^ n - 1) → la2 = nI (cfS n nx (rbS n T) x) ∧ be2 = be) → Fewest_tryAll_L47 (nI n) (nI (rbS n (T + 1))) below nr (nI n) next (nI (rbS n T + x), ro, be, re, nI (cfS n nx (rbS n T) x)) = some (.inl (nI (rbS n T + x) + 1, ro2, be2, upd re (rbS n T + x) (nI (mskS n nx g)), la2)) := by
        intro be2 la2 y1 y2
        have hixr : ix (nI (rbS n T + x)) nr = true := ixN (by omega) hnr2
        unfold Fewest_tryAll_L47 Fewest_tryAll_L47_J113 Fewest_tryAll_L47_J123
        dsimp only
        rw [if_pos ((nI_ltN (by omega) (by omega)).mpr (by omega)), if_pos (show nI (rbS n T + x) < Int32.ofNat nr from (nI_ltN (by omega) hnr2).mpr (by omega)), ob_eq a1]
        dsimp only
        rw [gd_eq hixr, gd_eq hixr, nI_clamp (show rbS n T + x < 2 ^ 31 by omega), upd_at, hfull, gd_eq (show cpOk 0 0 7 7 7 = true from rfl)]
        by_cases z : nI (mskS n nx g) = nI (2 ^ n - 1)
        · obtain ⟨w1, w2⟩ := y1 z
          rw [if_pos z, w1, w2]
          by_cases z2 : nI (cfS n nx (rbS n T) x) = 0
          · rw [if_pos z2, if_pos z2]; exact ob_eq m1
          · rw [if_neg z2, if_neg z2]; exact ob_eq m1
        · obtain ⟨w1, w2⟩ := y2 z
          rw [if_neg z, w1, w2]; exact ob_eq m1
      by_cases hf : fuS n nx g
      · -- it reaches all
        have hb1 : b = 1 := by
          rcases c3 with z | z
          · exact z.1
          · exact absurd hf z.2
        subst hb1
        have hcf := (cf_succ n nx (rbS n T) x).1 (hrk.mpr hf)
        have hlb : ∃ lb2, lp (Mo_waysOf_L49 (nI (cfS n nx (rbS n T) x)) (nI n) ld) (0, lb) = some lb2 ∧ (cfS n nx (rbS n T) x = 0 → rowIs n lb2 g) ∧ (¬ cfS n nx (rbS n T) x = 0 → lb2 = lb) := by
          by_cases z : cfS n nx (rbS n T) x = 0
          · rw [z]
            obtain ⟨lb2, w1, w2⟩ := lp_inv (f := Mo_waysOf_L49 (nI 0) (nI n) ld) (fun k v => v.1 = nI k ∧ ∀ w, w < k → v.2 w = nI (g w)) n (fun r => ∀ w, w < n → r w = nI (g w))
              (by
                rintro k ⟨v1, lb⟩ hk ⟨f1, f2⟩
                have f1 : v1 = nI k := f1
                subst f1
                left
                have hix : ix (nI k) 7 = true := ixN (by omega) (by omega)
                refine ⟨(nI k + 1, upd lb k (nI (g k))), ?_, nI_ad k 1, fun w hw => ?_⟩
                · unfold Mo_waysOf_L49
                  show (if nI k < nI n then _ else _) = _
                  rw [if_pos ((nI_ltN (by omega) (by omega)).mpr hk), if_pos (show nI 0 = 0 from rfl)]
                  dsimp only
                  rw [gd_eq hix, gd_eq hix, nI_clamp (show k < 2 ^ 31 by omega), g5 k hk]
                · show upd lb k _ w = _
                  by_cases y : w = k
                  · rw [y, upd_at]
                  · rw [upd_ne y]; exact f2 w (by omega))
              (by
                rintro ⟨v1, lb⟩ ⟨f1, f2⟩
                have f1 : v1 = nI n := f1
                subst f1
                refine ⟨lb, ?_, f2⟩
                unfold Mo_waysOf_L49
                exact if_neg (fun z => by have := (nI_ltN (by omega) (by omega)).mp z; omega))
              0 (0, lb) (Nat.zero_le _) ⟨rfl, fun w hw => by omega⟩
            exact ⟨lb2, w1, fun _ => w2, fun y => absurd rfl y⟩
          · refine ⟨lb, lp_inr ?_, fun y => absurd y z, fun _ => rfl⟩
            unfold Mo_waysOf_L49
            show (if (0 : Int32) < nI n then _ else _) = _
            rw [if_pos (show (0 : Int32) < nI n from (nI_ltN (a := 0) (b := n) (by omega) (by omega)).mpr (by omega)), if_neg (show ¬ nI (cfS n nx (rbS n T) x) = 0 from fun y => z ((nI_inj (a := cfS n nx (rbS n T) x) (b := 0) (by omega) (by omega)).mp y))]
        obtain ⟨lb2, l1, l2, l3⟩ := hlb
        refine ⟨_, (nI (cfS n nx (rbS n T) x) + 1, go, sf', sa', so', fa', mt', st', ld2, lb2), hcl _ _ (fun _ => ⟨rfl, rfl⟩) (fun z => absurd (hmf.mpr hf) z), ?_, ?_, ?_, ?_, ⟨L', c2⟩, ?_, hre', m3⟩
        · unfold Mo_waysOf_L35 Mo_waysOf_L35_J82 Mo_waysOf_L35_J86
          dsimp only
          rw [if_neg one_ne0, ob_eq c1]
          dsimp only
          rw [if_neg one_ne0, ob_eq l1, ob_eq m2]
        · exact nI_ad _ 1
        · show nI (cfS n nx (rbS n T) x) + 1 = _
          rw [hcf]; exact nI_ad _ 1
        · show nI (cfS n nx (rbS n T) x) + 1 = _
          rw [hcf]; exact nI_ad _ 1
        · right
          by_cases z : cfS n nx (rbS n T) x = 0
          · refine ⟨g, g1, g2, hf, ?_, l2 z, fun x' hx' hfr => ?_⟩
            · show rowIs n (if nI (cfS n nx (rbS n T) x) = 0 then va_cpy ro1 be 0 0 7 else be) g
              rw [if_pos (by rw [z]; rfl)]
              intro w hw
              rw [cpy_n (show w < 7 by omega)]
              exact a2 w hw
            · by_cases y : x' = x
              · rw [y]; omega
              · exfalso
                have key : ∀ y, x' < y → 1 ≤ cfS n nx (rbS n T) y := by
                  intro y
                  induction y with
                  | zero => intro h; omega
                  | succ y ih =>
                    intro h
                    by_cases e : x' = y
                    · subst e; rw [(cf_succ n nx (rbS n T) x').1 hfr]; omega
                    · have := ih (by omega)
                      by_cases e2 : frS n nx (rbS n T + y)
                      · rw [(cf_succ n nx (rbS n T) y).1 e2]; omega
                      · rw [(cf_succ n nx (rbS n T) y).2 e2]; exact this
                have := key x (by omega)
                omega
          · rcases e5 with y | ⟨b, b1, b2, b3, b4, b5, b6⟩
            · exact absurd y z
            · refine ⟨b, b1, b2, b3, ?_, ?_, fun x' hx' hfr => ?_⟩
              · show rowIs n (if nI (cfS n nx (rbS n T) x) = 0 then va_cpy ro1 be 0 0 7 else be) b
                rw [if_neg (show ¬ nI (cfS n nx (rbS n T) x) = 0 from fun y => z ((nI_inj (a := cfS n nx (rbS n T) x) (b := 0) (by omega) (by omega)).mp y))]
                exact b4
              · show rowIs n lb2 b
                rw [l3 z]; exact b5
              · by_cases y : x' = x
                · -- the first is no later
                  have hex : ∃ x'', x'' < x ∧ frS n nx (rbS n T + x'') := by
                    refine Classical.byContradiction (fun hno => z ?_)
                    have : ∀ y, y ≤ x → cfS n nx (rbS n T) y = 0 := by
                      intro y
                      induction y with
                      | zero => intro _; rfl
                      | succ y ih =>
                        intro h
                        rw [(cf_succ n nx (rbS n T) y).2 (fun q => hno ⟨y, by omega, q⟩)]
                        exact ih (by omega)
                    exact this x (Nat.le_refl _)
                  obtain ⟨x'', v1, v2⟩ := hex
                  have := b6 x'' v1 v2
                  omega
                · exact b6 x' (by omega) hfr
      · have hb0 : b = 0 := by
          rcases c3 with z | z
          · exact absurd z.2 hf
          · exact z.1
        subst hb0
        have hcf := (cf_succ n nx (rbS n T) x).2 (fun z => hf (hrk.mp z))
        refine ⟨_, (nI (cfS n nx (rbS n T) x), go, sf', sa', so', fa', mt', st', ld2, lb), hcl be (nI (cfS n nx (rbS n T) x)) (fun z => absurd (hmf.mp z) hf) (fun _ => ⟨rfl, rfl⟩), ?_, nI_ad _ 1, ?_, ?_, ⟨L', c2⟩, ?_, hre', m3⟩
        · unfold Mo_waysOf_L35 Mo_waysOf_L35_J86
          dsimp only
          rw [if_neg one_ne0, ob_eq c1]
          dsimp only
          rw [if_pos rfl, ob_eq m2]
        · show nI _ = _
          rw [hcf]
        · show nI _ = _
          rw [hcf]
        · unfold bsS
          rw [hcf]
          rcases e5 with y | ⟨b, b1, b2, b3, b4, b5, b6⟩
          · exact Or.inl y
          · refine Or.inr ⟨b, b1, b2, b3, b4, b5, fun x' hx' hfr => ?_⟩
            by_cases y : x' = x
            · rw [y] at hfr; exact absurd (hrk.mp hfr) hf
            · exact b6 x' (by omega) hfr)
    (by
      rintro ⟨s1, ro, be, re, la⟩ ⟨u1, u2, sf, sa, so, fa, mt, st, ld, lb⟩ ⟨e1, e2, e3, e4, e5, e6, e7⟩
      dsimp only at e1 e2 e3 e4 e5 e6 e7
      have hNe : rbS n T + (rbS n (T + 1) - rbS n T) = rbS n (T + 1) := by omega
      rw [hNe] at e1 e6
      rcases e7 with ⟨-, g, g1, g2, g3, -, -⟩ | ⟨rfl, -⟩
      · exfalso
        have := rk_lt (show n ≤ 8 by omega) g1 (s := T + 1) (by omega)
        omega
      · subst e1
        refine ⟨(ro, be, re, la), (u1, sf, sa, so, fa, mt, st, ld, lb), ?_, ?_, e2, e3, e4, e5, e6⟩
        · unfold Fewest_tryAll_L47
          exact if_neg (fun z => by have := (nI_ltN (by omega) (by omega)).mp z; omega)
        · unfold Mo_waysOf_L35
          exact if_pos rfl)
    0 (nI (rbS n T), row, best, reached, 0) (0, 1, sf, sa, so, fa, mt, st, laid, laidBest) (Nat.zero_le _) ⟨rfl, rfl, rfl, ⟨L, hH⟩, Or.inl rfl, hrd, Or.inl ⟨rfl, g0, hg0, ht0, hk0, hrow, hlaid⟩⟩
  obtain ⟨ro, be, re, la⟩ := r
  obtain ⟨u1, sf', sa', so', fa', mt', st', ld, lb⟩ := r'
  obtain ⟨w1, w2, ⟨L', w3⟩, w4, w5⟩ := q3
  have w1 : la = nI (cfS n nx (rbS n T) (rbS n (T + 1) - rbS n T)) := w1
  have w2 : u1 = nI (cfS n nx (rbS n T) (rbS n (T + 1) - rbS n T)) := w2
  subst w1; subst w2
  exact ⟨ro, be, re, sf', sa', so', fa', mt', st', ld, lb, L', q1, q2, w3, w4, w5⟩
