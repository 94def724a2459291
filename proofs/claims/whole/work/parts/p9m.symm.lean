/-! SYMMETRIES: both answer alike -/
section SYM
variable {n : Nat} {nx : Nat → Nat} {next nextTo ways : Nat → Int32}
theorem howMany_ok (hG : GoodG n nx) (hx : ∀ w, w < 12 → next w = nI (nx w)) (hr : RW n nx ways) (order images : Nat → Int32) (looks : Nat → Int64) (twins : Nat → Int32) :
    ∃ y, Symmetry_howMany order images looks twins (nI n) next ways = some (nI (ppS (fun i => cnP (plS n nx (fun i => i) i) n) n), y) := by
  have n12 := hG.1
  obtain ⟨ord, od, lo, tw, b1, b2, b3⟩ := begin_ok hG hx hr (start := 0) (by omega) (by omega) order looks twins
  have h2n : 2 ^ n ≤ 2 ^ 12 := Nat.pow_le_pow_right (by omega) n12
  obtain ⟨⟨al, im⟩, r1, r2⟩ := lp_inv (f := Symmetry_howMany_L10 od lo tw (nI n) next) (fun k s => s.2.1 = nI k ∧ s.1 = nI (ppS (fun i => cnP (plS n nx ord i) n) k)) n (fun r => r.1 = nI (ppS (fun i => cnP (plS n nx ord i) n) n))
    (by
      rintro k ⟨s1, s2, im⟩ hk ⟨e1, e2⟩
      dsimp only at e1 e2
      subst e1; subst e2
      left
      obtain ⟨im2, p1⟩ := places_ok hG hx b2 hk im
      have hlt := mkP_lt n (plS n nx ord k)
      refine ⟨(nI (ppS (fun i => cnP (plS n nx ord i) n) k) * nI (cnP (plS n nx ord k) n), nI k + 1, im2), ?_, nI_ad k 1, nI_mulN _ _⟩
      unfold Symmetry_howMany_L10
      dsimp only
      rw [if_pos ((nI_ltN (by omega) (by omega)).mpr hk), ob_eq p1]
      dsimp only
      rw [ob_eq (bitCount_all _ (by omega)), popc_mkP n12])
    (by
      rintro ⟨s1, s2, im⟩ ⟨e1, e2⟩
      dsimp only at e1 e2
      subst e1
      refine ⟨(s1, im), ?_, e2⟩
      unfold Symmetry_howMany_L10
      exact if_neg (fun z => by have := (nI_ltN (by omega) (by omega)).mp z; omega))
    0 (1, 0, images) (Nat.zero_le _) ⟨rfl, rfl⟩
  dsimp only at r2
  subst r2
  refine ⟨(od, im, lo, tw), ?_⟩
  unfold Symmetry_howMany
  rw [ob_eq (show Symmetry_begin order looks twins (nI n) next ways 0 = _ from b1), ob_eq r1, same_many b2.1]
theorem placesOf_ok (hG : GoodG n nx) (hx : ∀ w, w < 12 → next w = nI (nx w)) (hr : RW n nx ways) {w : Nat} (hw : w < n) (order images : Nat → Int32) (looks : Nat → Int64) (twins : Nat → Int32) :
    ∃ y, Symmetry_placesOf order images looks twins (nI n) next ways (nI w) = some (nI (mkP n (fun j => ∃ σ, auS n nx σ ∧ σ w = j)), y) := by
  have n12 := hG.1
  obtain ⟨ord, od, lo, tw, b1, b2, b3⟩ := begin_ok hG hx hr (Or.inl hw) (by omega) order looks twins
  obtain ⟨im2, p1⟩ := places_ok hG hx b2 (show 0 < n by omega) images
  refine ⟨(od, im2, lo, tw), ?_⟩
  have e : mkP n (plS n nx ord 0) = mkP n (fun j => ∃ σ, auS n nx σ ∧ σ w = j) := mkP_congr (fun j _ => by
    have h0 := b3 (by omega)
    constructor
    · rintro ⟨σ, s1, -, s3⟩
      rw [h0] at s3; exact ⟨σ, s1, s3⟩
    · rintro ⟨σ, s1, s3⟩
      exact ⟨σ, s1, fun i hi => by omega, by rw [h0]; exact s3⟩)
  unfold Symmetry_placesOf
  rw [ob_eq b1]
  dsimp only
  rw [ob_eq (show Symmetry_places od images lo tw (nI n) next 0 = _ from p1), e]
theorem symR_one (hG : GoodG n nx) (hx : ∀ w, w < 12 → nextTo w = nI (nx w)) {w : Nat} (hw : w < n) (im : Nat → Int32) : ∃ im', lp (Mo_symmetries_L26 (nI w) nextTo (nI n)) (0, 0, im) = some (nI (mkP n (fun j => ∃ σ, auS n nx σ ∧ σ w = j)), im') := by
  have n12 := hG.1
  obtain ⟨⟨al, im⟩, r1, r2⟩ := lp_inv (f := Mo_symmetries_L26 (nI w) nextTo (nI n)) (fun k s => s.2.1 = nI k ∧ s.1 = nI (mkP n (fun j => j < k ∧ ∃ σ, auS n nx σ ∧ σ w = j))) n (fun r => r.1 = nI (mkP n (fun j => ∃ σ, auS n nx σ ∧ σ w = j)))
    (by
      rintro k ⟨s1, s2, im⟩ hk ⟨e1, e2⟩
      dsimp only at e1 e2
      subst e1; subst e2
      left
      obtain ⟨b, im', q1, q2⟩ := canBeLaid_ok hG hx (stay := 0) (asked := w) (on := k) (by omega) hw hk im
      have hhead : Mo_symmetries_L26 (nI w) nextTo (nI n) (nI (mkP n (fun j => j < k ∧ ∃ σ, auS n nx σ ∧ σ w = j)), nI k, im) = if b = 0 then some (.inl (nI (mkP n (fun j => j < k ∧ ∃ σ, auS n nx σ ∧ σ w = j)), nI k + 1, im')) else some (.inl (nI (mkP n (fun j => j < k ∧ ∃ σ, auS n nx σ ∧ σ w = j)) ||| nI (2 ^ k), nI k + 1, im')) := by
        unfold Mo_symmetries_L26 Mo_symmetries_L26_J50
        dsimp only
        rw [if_pos ((nI_ltN (by omega) (by omega)).mpr hk), ob_eq (show Mo_canBeLaid nextTo (nI n) im 0 (nI w) (nI k) = _ from q1), shl_nI (by omega)]
      rcases q2 with ⟨rfl, σ, s1, -, s2⟩ | ⟨rfl, hno⟩
      · refine ⟨_, hhead.trans (if_neg one_ne0), nI_ad k 1, ?_⟩
        show nI (mkP n _) ||| nI (2 ^ k) = _
        rw [mkP_one hk, mkP_or n12]
        congr 1
        refine mkP_congr (fun j _ => ?_)
        constructor
        · rintro (y | y)
          · exact ⟨by omega, y.2⟩
          · rw [y]; exact ⟨by omega, σ, s1, s2⟩
        · rintro ⟨y1, y2⟩
          by_cases y : j = k
          · exact Or.inr y
          · exact Or.inl ⟨by omega, y2⟩
      · refine ⟨_, hhead.trans (if_pos rfl), nI_ad k 1, ?_⟩
        show nI (mkP n _) = _
        congr 1
        refine mkP_congr (fun j _ => ?_)
        constructor
        · exact fun y => ⟨by omega, y.2⟩
        · rintro ⟨y1, σ, y2, y3⟩
          by_cases y : j = k
          · exact absurd ⟨σ, y2, fun i hi => by omega, y3.trans y⟩ hno
          · exact ⟨by omega, σ, y2, y3⟩)
    (by
      rintro ⟨s1, s2, im⟩ ⟨e1, e2⟩
      dsimp only at e1 e2
      subst e1
      refine ⟨(s1, im), ?_, e2.trans ?_⟩
      · unfold Mo_symmetries_L26
        exact if_neg (fun z => by have := (nI_ltN (by omega) (by omega)).mp z; omega)
      · congr 1
        exact mkP_congr (fun w hw => ⟨fun y => y.2, fun y => ⟨hw, y⟩⟩))
    0 (0, 0, im) (Nat.zero_le _) ⟨rfl, by
      show (0 : Int32) = nI _
      rw [mkP_congr (Q := fun _ => False) (fun w _ => ⟨fun y => by omega, False.elim⟩), mkP_none]
      rfl⟩
  dsimp only at r2
  subst r2
  exact ⟨im, r1⟩
theorem symR_many (hG : GoodG n nx) (hx : ∀ w, w < 12 → nextTo w = nI (nx w)) (im : Nat → Int32) : ∃ im', lp (Mo_symmetries_L62 nextTo (nI n)) (1, 0, im) = some (nI (ppS (fun i => cnP (plS n nx (fun i => i) i) n) n), im') := by
  have n12 := hG.1
  -- the places of one
  have inner : ∀ v, v < n → ∀ (v2 : Int32) (im : Nat → Int32), ∃ im', lp (Mo_symmetries_L76 v2 (nI v) nextTo (nI n)) (0, nI v, im) = some (nI (cnP (plS n nx (fun i => i) v) n), im') := by
    intro v hv v2 im
    obtain ⟨⟨al, im⟩, r1, r2⟩ := lp_inv (f := Mo_symmetries_L76 v2 (nI v) nextTo (nI n)) (fun k s => s.2.1 = nI (v + k) ∧ s.1 = nI (cnP (plS n nx (fun i => i) v) (v + k))) (n - v) (fun r => r.1 = nI (cnP (plS n nx (fun i => i) v) n))
      (by
        rintro k ⟨s1, s2, im⟩ hk ⟨e1, e2⟩
        dsimp only at e1 e2
        subst e1; subst e2
        left
        obtain ⟨b, im', q1, q2⟩ := canBeLaid_ok hG hx (stay := v) (asked := v) (on := v + k) hv hv (by omega) im
        have hhead : Mo_symmetries_L76 v2 (nI v) nextTo (nI n) (nI (cnP (plS n nx (fun i => i) v) (v + k)), nI (v + k), im) = if b = 0 then some (.inl (nI (cnP (plS n nx (fun i => i) v) (v + k)), nI (v + k) + 1, im')) else some (.inl (nI (cnP (plS n nx (fun i => i) v) (v + k)) + 1, nI (v + k) + 1, im')) := by
          unfold Mo_symmetries_L76 Mo_symmetries_L76_J102
          dsimp only
          rw [if_pos ((nI_ltN (by omega) (by omega)).mpr (by omega)), ob_eq q1]
        rcases q2 with ⟨rfl, σ, s1, s2, s3⟩ | ⟨rfl, hno⟩
        · refine ⟨_, hhead.trans (if_neg one_ne0), nI_ad (v + k) 1, ?_⟩
          show nI _ + 1 = nI (cnP _ (v + k + 1))
          rw [(cnP_succ _ (v + k)).1 ⟨σ, s1, s2, s3⟩]
          exact nI_ad _ 1
        · refine ⟨_, hhead.trans (if_pos rfl), nI_ad (v + k) 1, ?_⟩
          show nI _ = nI (cnP _ (v + k + 1))
          rw [(cnP_succ _ (v + k)).2 hno])
      (by
        rintro ⟨s1, s2, im⟩ ⟨e1, e2⟩
        dsimp only at e1 e2
        subst e1
        rw [show v + (n - v) = n by omega] at e2 ⊢
        refine ⟨(s1, im), ?_, e2⟩
        unfold Mo_symmetries_L76
        exact if_neg (fun z => by have := (nI_ltN (by omega) (by omega)).mp z; omega))
      0 (0, nI v, im) (Nat.zero_le _) ⟨rfl, by
        show (0 : Int32) = nI (cnP _ (v + 0))
        rw [cnP_none (fun j hj => by
          rintro ⟨σ, s1, s2, s3⟩
          have hj : j < v := hj
          have e1 : σ j = j := s2 j hj
          have e2 : σ v = j := s3
          have := s1.2.1 j v (by omega) hv (e1.trans e2.symm)
          omega)]
        rfl⟩
    dsimp only at r2
    subst r2
    exact ⟨im, r1⟩
  obtain ⟨⟨al, im⟩, r1, r2⟩ := lp_inv (f := Mo_symmetries_L62 nextTo (nI n)) (fun k s => s.2.1 = nI k ∧ s.1 = nI (ppS (fun i => cnP (plS n nx (fun i => i) i) n) k)) n (fun r => r.1 = nI (ppS (fun i => cnP (plS n nx (fun i => i) i) n) n))
    (by
      rintro k ⟨s1, s2, im⟩ hk ⟨e1, e2⟩
      dsimp only at e1 e2
      subst e1; subst e2
      left
      obtain ⟨im2, p1⟩ := inner k hk (nI (ppS (fun i => cnP (plS n nx (fun i => i) i) n) k)) im
      refine ⟨(nI (ppS (fun i => cnP (plS n nx (fun i => i) i) n) k) * nI (cnP (plS n nx (fun i => i) k) n), nI k + 1, im2), ?_, nI_ad k 1, nI_mulN _ _⟩
      unfold Mo_symmetries_L62
      dsimp only
      rw [if_pos ((nI_ltN (by omega) (by omega)).mpr hk), ob_eq p1])
    (by
      rintro ⟨s1, s2, im⟩ ⟨e1, e2⟩
      dsimp only at e1 e2
      subst e1
      refine ⟨(s1, im), ?_, e2⟩
      unfold Mo_symmetries_L62
      exact if_neg (fun z => by have := (nI_ltN (by omega) (by omega)).mp z; omega))
    0 (1, 0, im) (Nat.zero_le _) ⟨rfl, rfl⟩
  dsimp only at r2
  subst r2
  exact ⟨im, r1⟩
theorem sy_begin : @Symmetry_beginN = @Symmetry_begin := rfl
theorem sy_howMany : @Symmetry_howManyN = @Symmetry_howMany := rfl
theorem sy_placesOf : @Symmetry_placesOfN = @Symmetry_placesOf := rfl
theorem symmetries_ok (hG : GoodG n nx) (hx : ∀ w, w < 12 → next w = nI (nx w)) (hx2 : ∀ w, w < 12 → nextTo w = nI (nx w)) (hr : RW n nx ways) (order images : Nat → Int32) (looks : Nat → Int64) (twins im : Nat → Int32) (a1 : Int32) :
    (∃ r y im', Dj_symmetries (nI n) next ways order images looks twins a1 = some (r, y) ∧ Dj_symmetriesN (nI n) next ways order images looks twins a1 = some (r, y) ∧ Mo_symmetries nextTo (nI n) im a1 = some (r, im')) ∨
    (Dj_symmetries (nI n) next ways order images looks twins a1 = some (-1, order, images, looks, twins) ∧ Dj_symmetriesO (nI n) next ways order images looks twins a1 = some (-1, order, images, looks, twins) ∧ Mo_symmetries nextTo (nI n) im a1 = some (-1, im)) := by
  have n12 := hG.1
  by_cases h1 : a1 = 100
  · left
    obtain ⟨y, y1⟩ := howMany_ok hG hx hr order images looks twins
    obtain ⟨im', m1⟩ := symR_many hG hx2 im
    refine ⟨nI (ppS (fun i => cnP (plS n nx (fun i => i) i) n) n), y, im', ?_, ?_, ?_⟩
    rotate_left
    · unfold Dj_symmetriesN
      rw [if_pos h1, sy_howMany, ob_eq y1]
    · unfold Mo_symmetries Mo_symmetries_J16
      rw [if_pos h1, if_pos h1, ob_eq m1]
    · unfold Dj_symmetries
      rw [if_pos h1, ob_eq y1]
  · rcases well_cases a1 n12 with ⟨w, hw, rfl, e1, e2⟩ | ⟨e1, e2, -⟩
    · left
      obtain ⟨y, y1⟩ := placesOf_ok hG hx hr hw order images looks twins
      obtain ⟨im', m1⟩ := symR_one hG hx2 hw im
      refine ⟨nI (mkP n (fun j => ∃ σ, auS n nx σ ∧ σ w = j)), y, im', ?_, ?_, ?_⟩
      rotate_left
      · unfold Dj_symmetriesN
        rw [if_neg h1, ob_eq e1, if_neg one_ne0, sy_placesOf, ob_eq y1]
      · unfold Mo_symmetries Mo_symmetries_J16
        rw [if_neg h1, ob_eq e2, if_neg one_ne0, if_neg h1, ob_eq m1]
      · unfold Dj_symmetries
        rw [if_neg h1, ob_eq e1, if_neg one_ne0, ob_eq y1]
    · right
      refine ⟨?_, ?_, ?_⟩
      · unfold Dj_symmetries
        rw [if_neg h1, ob_eq e1, if_pos rfl]
      · unfold Dj_symmetriesO
        rw [if_neg h1, ob_eq e1, if_pos rfl]
      · unfold Mo_symmetries
        rw [if_neg h1, ob_eq e2, if_pos rfl]
end SYM
