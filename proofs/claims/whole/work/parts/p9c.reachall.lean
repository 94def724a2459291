/-! FEWEST: the reference's queue -/
section RAL
variable {n : Nat} {nx : Nat → Nat} {nextTo : Nat → Int32} {g : Nat → Nat}
theorem laid_code (hn : n ≤ 7) {laid : Nat → Int32} (h : SG n g) (hj : ∀ w, w < n → laid w = nI (g w)) : lp (Mo_reachesAll_L8 (nI n) laid) (0, 0) = some (cdS g) := by
  have hz : ∀ k, n ≤ k → valS g k = valS g n := fun k hk => by
    induction k with
    | zero => rw [show n = 0 by omega]
    | succ k ih =>
      by_cases e : n = k + 1
      · rw [e]
      · show valS g k + g k * 16 ^ k = _
        rw [ih (by omega), h.1 k (by omega), Nat.zero_mul, Nat.add_zero]
  have : lp (Mo_reachesAll_L8 (nI n) laid) (0, 0) = some (nI (valS g n)) := by
    refine lp_run (fun k => (nI (valS g k), nI k)) n ?_ ?_
    · intro k hk
      have hd : ∀ w, w < k → g w < 16 := fun w hw => h.dig w (by omega)
      have hl := valS_lt hd
      have h16 : (16 : Nat) ^ k = 2 ^ (4 * k) := by rw [Nat.pow_mul]
      have hgk := h.dig k (by omega)
      have h5 : valS g (k + 1) < 2 ^ 32 := by
        have h6 := valS_lt (g := g) (k := k + 1) (fun w hw => h.dig w (by omega))
        have h7 : (16 : Nat) ^ (k + 1) ≤ 16 ^ 8 := Nat.pow_le_pow_right (by omega) (by omega)
        have e : (16 : Nat) ^ 8 = 2 ^ 32 := by decide
        omega
      have h8 : valS g k + g k * 16 ^ k < 2 ^ 32 := h5
      unfold Mo_reachesAll_L8
      show (if nI k < nI n then _ else _) = _
      rw [if_pos ((nI_ltN (by omega) (by omega)).mpr hk)]
      show gd (ix (nI k) 7) (some (Sum.inl (nI (valS g k) ||| (laid (nI k : Int32).toNatClampNeg <<< ((nI 4 * nI k) &&& 31)), nI k + 1))) = _
      rw [gd_eq (ixN (by omega) (by omega)), nI_clamp (by omega), hj k hk, nI_mulN, pk_shlN (n := g k) (nI (4 * k) &&& 31) (4 * k) (sm32 _ (by omega)) (by rw [← h16]; omega), or_nI (by omega) (by rw [← h16]; omega), show nI k + 1 = nI (k + 1) from nI_ad k 1]
      show some (Sum.inl (nI (valS g k ||| g k * 2 ^ (4 * k)), nI (k + 1))) = some (Sum.inl (nI (valS g k + g k * 16 ^ k), nI (k + 1)))
      rw [Nat.or_comm, Nat.mul_comm (g k) (2 ^ (4 * k)), ← Nat.two_pow_add_eq_or_of_lt (by rw [← h16]; exact hl), Nat.add_comm, h16, Nat.mul_comm (g k)]
    · unfold Mo_reachesAll_L8
      exact if_neg (fun z => by have := (nI_ltN (by omega) (by omega)).mp z; omega)
  rw [this]
  unfold cdS
  rw [hz 8 (by omega)]
/-- the wells of one laying -/
theorem come_ok (hn : n ≤ 7) {s : Nat → Nat} (hs : SG n s) {i : Nat} (hi : i < 131072) {sa : Nat → Int32} (hsa : sa i = cdS s) (P : Nat → Prop) : lp (Mo_reachesAll_L71 (nI i) (nI n) sa) (nI (mkP n P), 0) = some (nI (mkP n (fun w => P w ∨ 0 < s w))) := by
  obtain ⟨r, r1, r2⟩ := lp_inv (f := Mo_reachesAll_L71 (nI i) (nI n) sa) (fun k u => u.2 = nI k ∧ u.1 = nI (mkP n (fun w => P w ∨ (w < k ∧ 0 < s w)))) n (fun r => r = nI (mkP n (fun w => P w ∨ 0 < s w)))
    (by
      rintro k ⟨u1, u2⟩ hk ⟨e1, e2⟩
      have e1 : u2 = nI k := e1
      have e2 : u1 = nI (mkP n (fun w => P w ∨ (w < k ∧ 0 < s w))) := e2
      subst e1; subst e2
      left
      have hsk := hs.dig k (by omega)
      have hhead : Mo_reachesAll_L71 (nI i) (nI n) sa (nI (mkP n (fun w => P w ∨ (w < k ∧ 0 < s w))), nI k) = if nI (s k) ≤ 0 then some (.inl (nI (mkP n (fun w => P w ∨ (w < k ∧ 0 < s w))), nI k + 1)) else some (.inl (nI (mkP n (fun w => P w ∨ (w < k ∧ 0 < s w))) ||| nI (2 ^ k), nI k + 1)) := by
        unfold Mo_reachesAll_L71 Mo_reachesAll_L71_J101
        show (if nI k < nI n then _ else _) = _
        rw [if_pos ((nI_ltN (by omega) (by omega)).mpr hk), gd_eq (ixN hi (by omega)), nI_clamp (show i < 2 ^ 31 by omega), hsa]
        dsimp only
        rw [ob_eq (jarsIn_ok hs (show k < 8 by omega)), shl_nI (by omega)]
      by_cases z : 0 < s k
      · refine ⟨_, hhead.trans (if_neg (fun y => by have := (nI_leN (b := 0) (by omega) (by omega)).mp y; omega)), nI_ad k 1, ?_⟩
        show _ ||| nI (2 ^ k) = _
        rw [mkP_one hk, mkP_or (by omega)]
        congr 1
        refine mkP_congr (fun w _ => ?_)
        constructor
        · rintro ((y | y) | y)
          · exact Or.inl y
          · exact Or.inr ⟨by omega, y.2⟩
          · rw [y]; exact Or.inr ⟨by omega, z⟩
        · rintro (y | ⟨y1, y2⟩)
          · exact Or.inl (Or.inl y)
          · by_cases e : w = k
            · exact Or.inr e
            · exact Or.inl (Or.inr ⟨by omega, y2⟩)
      · refine ⟨_, hhead.trans (if_pos ((nI_leN (b := 0) (by omega) (by omega)).mpr (by omega))), nI_ad k 1, ?_⟩
        show nI _ = _
        congr 1
        refine mkP_congr (fun w _ => ?_)
        constructor
        · rintro (y | y)
          · exact Or.inl y
          · exact Or.inr ⟨by omega, y.2⟩
        · rintro (y | ⟨y1, y2⟩)
          · exact Or.inl y
          · refine Or.inr ⟨?_, y2⟩
            by_cases e : w = k
            · rw [e] at y2; exact absurd y2 z
            · omega)
    (by
      rintro ⟨u1, u2⟩ ⟨e1, e2⟩
      have e1 : u2 = nI n := e1
      subst e1
      refine ⟨u1, ?_, Eq.trans e2 ?_⟩
      · unfold Mo_reachesAll_L71
        exact if_neg (fun z => by have := (nI_ltN (by omega) (by omega)).mp z; omega)
      · congr 1
        refine mkP_congr (fun w hw => ?_)
        constructor
        · rintro (y | y)
          · exact Or.inl y
          · exact Or.inr y.2
        · rintro (y | y)
          · exact Or.inl y
          · exact Or.inr ⟨hw, y⟩)
    0 (nI (mkP n P), 0) (Nat.zero_le _) ⟨rfl, by
      show nI (mkP n P) = _
      congr 1
      refine mkP_congr (fun w _ => ?_)
      constructor
      · exact Or.inl
      · rintro (y | y)
        · exact y
        · omega⟩
  rw [r1, r2]
theorem reachesAll_ok (hG : GoodG n nx) (hn : n ≤ 7) (hn1 : 1 ≤ n) (hx : ∀ w, w < 12 → nextTo w = nI (nx w)) (hg : SG n g) {laid : Nat → Int32} (hj : ∀ w, w < n → laid w = nI (g w)) {L : List Int32} {sf sa so : Nat → Int32} {st : Int32} (hH : HT L sf sa so st) (fa mt : Nat → Int32) :
    ∃ b sf' sa' so' fa' mt' st' L', Mo_reachesAll nextTo (nI n) sf sa so fa mt st laid = some (b, sf', sa', so', fa', mt', st') ∧ HT L' sf' sa' so' st' ∧ ((b = 1 ∧ ∀ w, w < n → rsS n nx g w) ∨ (b = 0 ∧ ¬ ∀ w, w < n → rsS n nx g w)) := by
  have hm : ∀ j, j < (mlS n nx false).length → in8 n (mvN (mlS n nx false) j) := fun j hj => (mlS_leg (mvN_mem hj)).1
  have hn8 : n ≤ 8 := by omega
  obtain ⟨sf1, s1, s2⟩ := clears_ok hH
  obtain ⟨sf2, sa2, so2, p1, p2, -⟩ := placeOf_new (HT.none (sa := sa) (so := so) s2) (a := cdS g) (by simp) (show 0 < 131072 by omega)
  have p1 : Mo_placeOf sf1 sa so 0 (cdS g) = some (nI 0, sf2, sa2, so2, nI 1) := p1
  have hRQ : RQ (mlS n nx false) g [g] (fun _ => 0) 0 0 (sf2, sa2, so2, upd fa 0 (-3), upd mt 0 (vp_nar .byte 0), nI 1) := by
    refine ⟨QI.start, p2, fun j hj => ?_, fun j hj => ?_⟩
    · have hj : j < 1 := hj
      rw [show j = 0 by omega]
      show upd mt 0 (vp_nar .byte 0) 0 = nI (lvl g g)
      rw [upd_at, show lvl g g = 0 by unfold lvl; omega]
      decide
    · have hj : j < 1 := hj
      rw [show j = 0 by omega]
      show upd fa 0 (-3) 0 = _
      rw [upd_at, if_pos rfl]
  have hfull : ((1 : Int32) <<< (nI n &&& 31)) - 1 = nI (2 ^ n - 1) := by
    rw [shl_nI (by omega)]
    exact nI_subN (b := 1) (Nat.pow_pos (by omega))
  have h31 : ∀ P, mkP n P < 2 ^ 31 := fun P => Nat.lt_of_lt_of_le (mkP_lt n P) (Nat.pow_le_pow_right (by omega) (by omega))
  have h2n : 2 ^ n ≤ 2 ^ 7 := Nat.pow_le_pow_right (by omega) hn
  have hp0 : 0 < 2 ^ n := Nat.pow_pos (by omega)
  obtain ⟨r, r1, τ, r2, L', r3, r4⟩ := lp_inv (f := Mo_reachesAll_L60 nextTo (nI n))
    (fun i s => s.2.1 = nI i ∧ ∃ G f, RQ (mlS n nx false) g G f i 0 s.2.2 ∧ i ≤ G.length ∧ s.1 = nI (mkP n (fun w => ∃ j, j < i ∧ 0 < G.getD j z0S w)) ∧ (0 < i → ¬ ∀ w, w < n → ∃ j, j < i ∧ 0 < G.getD j z0S w)) 131073
    (fun r => ∃ τ : T6, ((r = Sum.inl τ ∧ ∀ w, w < n → rsS n nx g w) ∨ (r = Sum.inr τ ∧ ¬ ∀ w, w < n → rsS n nx g w)) ∧ ∃ L', HT L' τ.1 τ.2.1 τ.2.2.1 τ.2.2.2.2.2 ∧ True)
    (by
      rintro i ⟨s1, s2, σ⟩ hi ⟨e1, G, f, e3, e4, e5, e6⟩
      have e1 : s2 = nI i := e1
      subst e1
      replace e3 : RQ (mlS n nx false) g G f i 0 σ := e3
      replace e5 : s1 = nI (mkP n (fun w => ∃ j, j < i ∧ 0 < G.getD j z0S w)) := e5
      subst e5
      have hroom := e3.room hn8 hm hg
      have hst : σ.2.2.2.2.2 = nI G.length := e3.states
      by_cases hlt : i < G.length
      · have hgi := e3.1.good hn8 hm hg hlt
        have hmk : mkP n (fun w => (∃ j, j < i ∧ 0 < G.getD j z0S w) ∨ 0 < G.getD i z0S w) = mkP n (fun w => ∃ j, j < i + 1 ∧ 0 < G.getD j z0S w) := mkP_congr (fun w _ => by
          constructor
          · rintro (⟨j, j1, j2⟩ | z)
            · exact ⟨j, by omega, j2⟩
            · exact ⟨i, by omega, z⟩
          · rintro ⟨j, j1, j2⟩
            by_cases e : j = i
            · subst e; exact Or.inr j2
            · exact Or.inl ⟨j, by omega, j2⟩)
        have hcome := come_ok hn hgi (show i < 131072 by omega) (e3.at hlt) (fun w => ∃ j, j < i ∧ 0 < G.getD j z0S w)
        rw [hmk] at hcome
        have hhead : Mo_reachesAll_L60 nextTo (nI n) (nI (mkP n (fun w => ∃ j, j < i ∧ 0 < G.getD j z0S w)), nI i, σ) = if nI (mkP n (fun w => ∃ j, j < i + 1 ∧ 0 < G.getD j z0S w)) = nI (2 ^ n - 1) then some (.inr (.inl σ)) else ob (Mo_movesOn nextTo (nI n) σ.1 σ.2.1 σ.2.2.1 σ.2.2.2.1 σ.2.2.2.2.1 σ.2.2.2.2.2 (nI i) 0) fun x2 => some (.inl (nI (mkP n (fun w => ∃ j, j < i + 1 ∧ 0 < G.getD j z0S w)), nI i + 1, x2)) := by
          unfold Mo_reachesAll_L60
          dsimp only
          rw [if_pos (show nI i < σ.2.2.2.2.2 by rw [hst]; exact (nI_ltN (by omega) (by omega)).mpr hlt), ob_eq hcome, hfull]
        by_cases hall : ∀ w, w < n → ∃ j, j < i + 1 ∧ 0 < G.getD j z0S w
        · right
          refine ⟨_, hhead.trans (if_pos (by rw [mkP_all.mpr hall])), σ, Or.inl ⟨rfl, fun w hw => ?_⟩, _, e3.2.1, trivial⟩
          obtain ⟨j, j1, j2⟩ := hall w hw
          obtain ⟨d, hd, -⟩ := e3.1.psAt (show j < G.length by omega)
          exact rs_way.mpr ⟨d, _, _, hd, j2⟩
        · left
          obtain ⟨τ', G', f', q1, q2, H, q3⟩ := turn_ok (v2 := 0) hG hn8 hx (both := false) rfl hg e3 hlt
          have hGj : ∀ j, j < i + 1 → G'.getD j z0S = G.getD j z0S := fun j hj => by rw [q3, gF_app (by omega)]
          have hsame : (fun w => ∃ j, j < i + 1 ∧ 0 < G'.getD j z0S w) = fun w => ∃ j, j < i + 1 ∧ 0 < G.getD j z0S w := funext (fun w => propext ⟨fun ⟨j, j1, j2⟩ => ⟨j, j1, by rw [← hGj j j1]; exact j2⟩, fun ⟨j, j1, j2⟩ => ⟨j, j1, by rw [hGj j j1]; exact j2⟩⟩)
          refine ⟨(nI (mkP n (fun w => ∃ j, j < i + 1 ∧ 0 < G.getD j z0S w)), nI i + 1, τ'), ?_, nI_ad i 1, G', f', q2, by rw [q3, List.length_append]; omega, ?_, fun _ hall2 => hall (fun w hw => ?_)⟩
          · rw [hhead, if_neg (fun z => hall (mkP_all.mp ((nI_inj (h31 _) (by omega)).mp z))), ob_eq q1]
          · show nI (mkP n _) = _
            rw [hsame]
          · obtain ⟨j, j1, j2⟩ := hall2 w hw
            exact ⟨j, j1, by rw [← hGj j j1]; exact j2⟩
      · right
        have hi0 : 0 < i := by have := e3.1.1; omega
        refine ⟨Sum.inr σ, ?_, σ, Or.inr ⟨rfl, fun hall => e6 hi0 (fun w hw => ?_)⟩, _, e3.2.1, trivial⟩
        · unfold Mo_reachesAll_L60
          dsimp only
          rw [if_neg (show ¬ nI i < σ.2.2.2.2.2 from fun z => by rw [hst] at z; exact hlt ((nI_ltN (by omega) (by omega)).mp z))]
        · obtain ⟨d, fi, s, h1, h2⟩ := rs_way.mp (hall w hw)
          obtain ⟨j, j1, j2⟩ := e3.1.all hn8 hm hg (by omega) h1
          exact ⟨j, by omega, by rw [j2]; exact h2⟩)
    (by
      rintro ⟨s1, s2, σ⟩ ⟨e1, G, f, e3, e4, e5, e6⟩
      exact absurd e4 (by have := RQ.room hn8 hm hg e3; omega))
    0 (0, 0, sf2, sa2, so2, upd fa 0 (-3), upd mt 0 (vp_nar .byte 0), nI 1) (Nat.zero_le _) ⟨rfl, [g], fun _ => 0, hRQ, Nat.zero_le _, by
      show (0 : Int32) = nI _
      rw [mkP_congr (Q := fun _ => False) (fun w _ => ⟨fun ⟨j, j1, _⟩ => by omega, False.elim⟩), mkP_none]
      rfl, fun z => by omega⟩
  have hhead : Mo_reachesAll nextTo (nI n) sf sa so fa mt st laid = sm r (fun x6 => some (1, x6)) (fun x6 => some (0, x6)) := by
    unfold Mo_reachesAll
    rw [ob_eq s1]
    dsimp only
    rw [ob_eq (laid_code hn hg hj), ob_eq p1]
    dsimp only
    rw [gd_eq (show ix 0 131072 = true from rfl), gd_eq (show ix 0 131072 = true from rfl), show ((0 : Int32).toNatClampNeg) = 0 from rfl, ob_eq r1]
  rcases r2 with ⟨rfl, z⟩ | ⟨rfl, z⟩
  · exact ⟨1, _, _, _, _, _, _, L', hhead, r3, Or.inl ⟨rfl, z⟩⟩
  · exact ⟨0, _, _, _, _, _, _, L', hhead, r3, Or.inr ⟨rfl, z⟩⟩
end RAL
