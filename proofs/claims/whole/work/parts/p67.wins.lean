/-! ROBBERS: what follows a state, and who wins -/
def CloS (n : Nat) (nx : Nat → Nat) (G : List (Nat → Nat)) (g : Nat → Nat) : Prop :=
  (∀ w, w < n → 0 < g w → lvS g w ∈ G) ∧ ∀ v, v < n → ∀ u, u < n → 2 ≤ g v → (nx v).testBit u = true → ∀ w, w < n → 0 < mvS g v u w → lvS (mvS g v u) w ∈ G
section WIN
variable {n : Nat} {nx : Nat → Nat} {nextTo : Nat → Int32}
theorem nx_lt (hg : GoodG n nx) (hn : n ≤ 8) (k : Nat) : nx k < 2 ^ 31 := Nat.lt_of_lt_of_le (hg.2.1 k) (Nat.pow_le_pow_right (by omega) (by omega))
theorem goes_from (hG : GoodG n nx) (hn : n ≤ 8) (hx : ∀ w, w < 12 → nextTo w = nI (nx w)) {G : List (Nat → Nat)} {C : Nat → List Nat} {τ : T7} (h : RG n G C τ) {g : Nat → Nat} (hg : SG n g) {s : Nat} (hs : totS g 8 ≤ s) {v : Nat} (hv : v < n) :
    ∃ G' C' τ', lp (Mo_goesOn_L28 (cdS g) (nI v) nextTo (nI n)) ((0 : Int32), τ) = some τ' ∧ RG n G' C' τ' ∧ ExS s G C τ G' C' τ' ∧ ∀ u, u < n → 2 ≤ g v → (nx v).testBit u = true → ∀ w, w < n → 0 < mvS g v u w → lvS (mvS g v u) w ∈ G' := by
  have hgv := hg.dig v (by omega)
  obtain ⟨r, r1, G', C', r2, r3, r4⟩ := lp_inv (f := Mo_goesOn_L28 (cdS g) (nI v) nextTo (nI n)) (fun k s' => s'.1 = nI k ∧ ∃ G' C', RG n G' C' s'.2 ∧ ExS s G C τ G' C' s'.2 ∧ ∀ u, u < k → 2 ≤ g v → (nx v).testBit u = true → ∀ w, w < n → 0 < mvS g v u w → lvS (mvS g v u) w ∈ G') n
    (fun r => ∃ G' C', RG n G' C' r ∧ ExS s G C τ G' C' r ∧ ∀ u, u < n → 2 ≤ g v → (nx v).testBit u = true → ∀ w, w < n → 0 < mvS g v u w → lvS (mvS g v u) w ∈ G')
    (by
      rintro k ⟨s1, σ⟩ hk ⟨e1, G1, C1, e2, e3, e4⟩
      have e1 : s1 = nI k := e1
      subst e1
      unfold Mo_goesOn_L28
      show (∃ s', (if nI k < nI n then _ else _) = _ ∧ _) ∨ ∃ r, (if nI k < nI n then _ else _) = _ ∧ _
      rw [if_pos ((nI_ltN (by omega) (by omega)).mpr hk), ob_eq (jarsIn_ok hg (show v < 8 by omega))]
      by_cases h2 : 2 ≤ g v
      · left
        rw [if_neg (fun z => by have := (nI_leN (b := 1) (by omega) (by omega)).mp z; omega), gd_eq (ixN (by omega) (by omega)), nI_clamp (by omega), hx v (by omega), ob_eq (Mo_has_eq (nx_lt hG hn v) (by omega))]
        cases ht : (nx v).testBit k with
        | false =>
          rw [if_pos (show (if false = true then (1 : Int32) else 0) = 0 from rfl)]
          refine ⟨(nI (k + 1), σ), ?_, rfl, G1, C1, e2, e3, fun u hu h2 hb => ?_⟩
          · unfold Mo_goesOn_L28_J78
            show some (Sum.inl (nI k + 1, σ)) = _
            rw [show nI k + 1 = nI (k + 1) from nI_ad k 1]
          · by_cases e : u < k
            · exact e4 u e h2 hb
            · exfalso; rw [show u = k by omega, ht] at hb; cases hb
        | true =>
          rw [if_neg (show ¬ (if true = true then (1 : Int32) else 0) = 0 by decide), ob_eq (one_ok v (by omega)), ob_eq (one_ok k (by omega)), mv_cd (show v < 8 by omega) (show k < 8 by omega) h2]
          obtain ⟨G2, C2, σ2, c1, c2, c3, c4⟩ := leaves_ok hn e2 (mv_SG hn hg hv hk h2) (s := s) (by have := mv_tot (g := g) (show v < 8 by omega) (show k < 8 by omega) h2; omega)
          refine ⟨(nI (k + 1), σ2), ?_, rfl, G2, C2, c2, e3.trans c3, fun u hu h2 hb w hw hw0 => ?_⟩
          · rw [ob_eq c1]
            unfold Mo_goesOn_L28_J78
            show some (Sum.inl (nI k + 1, σ2)) = _
            rw [show nI k + 1 = nI (k + 1) from nI_ad k 1]
          · by_cases e : u < k
            · exact c3.mem (e4 u e h2 hb w hw hw0)
            · have : u = k := by omega
              subst this
              exact c4 w hw hw0
      · right
        refine ⟨σ, if_pos ((nI_leN (b := 1) (by omega) (by omega)).mpr (by omega)), G1, C1, e2, e3, fun u _ h3 => absurd h3 h2⟩)
    (by
      rintro ⟨s1, σ⟩ ⟨e1, e2⟩
      have e1 : s1 = nI n := e1
      subst e1
      refine ⟨σ, ?_, e2⟩
      unfold Mo_goesOn_L28
      exact if_neg (fun z => by have := (nI_ltN (by omega) (by omega)).mp z; omega))
    0 ((0 : Int32), τ) (Nat.zero_le _) ⟨rfl, G, C, h, ExS.refl, fun u hu => by omega⟩
  exact ⟨G', C', r, r1, r2, r3, r4⟩
theorem goesOn_ok (hG : GoodG n nx) (hn : n ≤ 8) (hx : ∀ w, w < 12 → nextTo w = nI (nx w)) {G : List (Nat → Nat)} {C : Nat → List Nat} {τ : T7} (h : RG n G C τ) {g : Nat → Nat} (hg : SG n g) {s : Nat} (hs : totS g 8 ≤ s) {w : Nat} (hw : w < n) :
    ∃ G' C' τ', Mo_goesOn nextTo (nI n) τ.1 τ.2.1 τ.2.2.1 τ.2.2.2.1 τ.2.2.2.2.1 τ.2.2.2.2.2.1 τ.2.2.2.2.2.2 (cdS g) (nI w) = some τ' ∧ RG n G' C' τ' ∧ ExS s G C τ G' C' τ' ∧ (¬ aoS n nx g w → CloS n nx G' g) := by
  unfold Mo_goesOn
  rcases isAtOnce_ok hG hn hx hg hw with ⟨a1, a2⟩ | ⟨a1, a2⟩
  · rw [ob_eq a1, if_neg one_ne0]
    exact ⟨G, C, τ, rfl, h, ExS.refl, fun z => absurd a2 z⟩
  · rw [ob_eq a1, if_pos rfl]
    obtain ⟨G1, C1, τ1, b1, b2, b3, b4⟩ := leaves_ok hn h hg hs
    rw [ob_eq b1]
    obtain ⟨r, r1, G', C', r2, r3, r4⟩ := lp_inv (f := Mo_goesOn_L17 (cdS g) nextTo (nI n)) (fun k s' => s'.1 = nI k ∧ ∃ G' C', RG n G' C' s'.2 ∧ ExS s G1 C1 τ1 G' C' s'.2 ∧ ∀ v, v < k → ∀ u, u < n → 2 ≤ g v → (nx v).testBit u = true → ∀ w, w < n → 0 < mvS g v u w → lvS (mvS g v u) w ∈ G') n
      (fun r => ∃ G' C', RG n G' C' r ∧ ExS s G1 C1 τ1 G' C' r ∧ ∀ v, v < n → ∀ u, u < n → 2 ≤ g v → (nx v).testBit u = true → ∀ w, w < n → 0 < mvS g v u w → lvS (mvS g v u) w ∈ G')
      (by
        rintro k ⟨s1, σ⟩ hk ⟨e1, G2, C2, e2, e3, e4⟩
        have e1 : s1 = nI k := e1
        subst e1
        left
        obtain ⟨G3, C3, σ3, c1, c2, c3, c4⟩ := goes_from hG hn hx e2 hg hs hk
        refine ⟨(nI (k + 1), σ3), ?_, rfl, G3, C3, c2, e3.trans c3, fun v hv u hu h2 hb w hw hw0 => ?_⟩
        · unfold Mo_goesOn_L17
          show (if nI k < nI n then (ob (lp (Mo_goesOn_L28 (cdS g) (nI k) nextTo (nI n)) ((0 : Int32), σ)) _) else _) = _
          rw [if_pos ((nI_ltN (by omega) (by omega)).mpr hk), ob_eq c1]
          unfold Mo_goesOn_L17_J84
          show some (Sum.inl (nI k + 1, σ3)) = _
          rw [show nI k + 1 = nI (k + 1) from nI_ad k 1]
        · by_cases e : v < k
          · exact c3.mem (e4 v e u hu h2 hb w hw hw0)
          · have : v = k := by omega
            subst this
            exact c4 u hu h2 hb w hw hw0)
      (by
        rintro ⟨s1, σ⟩ ⟨e1, e2⟩
        have e1 : s1 = nI n := e1
        subst e1
        refine ⟨σ, ?_, e2⟩
        unfold Mo_goesOn_L17
        exact if_neg (fun z => by have := (nI_ltN (by omega) (by omega)).mp z; omega))
      0 ((0 : Int32), τ1) (Nat.zero_le _) ⟨rfl, G1, C1, b2, ExS.refl, fun u hu => by omega⟩
    refine ⟨G', C', r, ?_, r2, b3.trans r3, fun _ => ⟨fun w hw h0 => r3.mem (b4 w hw h0), r4⟩⟩
    rw [show ((0 : Int32), τ1.1, τ1.2.1, τ1.2.2.1, τ1.2.2.2.1, τ1.2.2.2.2.1, τ1.2.2.2.2.2.1, τ1.2.2.2.2.2.2) = ((0 : Int32), τ1) from rfl, ob_eq r1]
/-- whether all that a robber may leave is won: no -/
theorem winsAll_no (hn : n ≤ 8) {G : List (Nat → Nat)} {sf sa so cw : Nat → Int32} {st : Int32} (hr : G.length < 131072) (h : HT (G.map cdS) sf sa so st) {g : Nat → Nat} (hg : SG n g) (hl : ∀ w, w < n → 0 < g w → lvS g w ∈ G)
    (hc : (∀ w, w < n → g w = 0) ∨ ∃ u, u < n ∧ 0 < g u ∧ ∀ i, i < G.length → G.getD i z0S = lvS g u → cw i = 0) : Mo_winsAll (nI n) sf sa so st cw (cdS g) = some (0, sf, sa, so, st) := by
  obtain ⟨r, r1, r2⟩ := lp_inv (f := Mo_winsAll_L4 (cdS g) (nI n) cw) (fun k s => ∃ b, s = (b, nI k, sf, sa, so, st) ∧ (((∀ w, w < n → g w = 0) ∧ b = 0) ∨ ∃ u, k ≤ u ∧ u < n ∧ 0 < g u ∧ ∀ i, i < G.length → G.getD i z0S = lvS g u → cw i = 0)) n
    (fun r => r = Sum.inl (sf, sa, so, st) ∨ r = Sum.inr (0, sf, sa, so, st))
    (by
      rintro k s hk ⟨b, rfl, hb⟩
      have hgk := hg.dig k (by omega)
      unfold Mo_winsAll_L4
      show (∃ s', (if nI k < nI n then _ else _) = _ ∧ _) ∨ ∃ r, (if nI k < nI n then _ else _) = _ ∧ _
      rw [if_pos ((nI_ltN (by omega) (by omega)).mpr hk), ob_eq (jarsIn_ok hg (show k < 8 by omega))]
      by_cases h0 : 0 < g k
      · rw [if_neg (nI_ne0 (by omega) (by omega)), ob_eq (one_ok k (by omega)), lv_cd (show k < 8 by omega) h0]
        obtain ⟨i, i1, i2⟩ := mem_gF (hl k hk h0)
        have hp := placeOf_old h (i := i) (by rw [List.length_map]; exact i1)
        rw [gF_cd i1, i2] at hp
        rw [ob_eq hp]
        show (∃ s', gd (ix (nI i) 131072) (if cw (nI i).toNatClampNeg = 0 then _ else _) = _ ∧ _) ∨ ∃ r, gd (ix (nI i) 131072) (if cw (nI i).toNatClampNeg = 0 then _ else _) = _ ∧ _
        rw [gd_eq (ixN (show i < 131072 by omega) (by omega)), nI_clamp (by omega)]
        by_cases hz : cw i = 0
        · right
          exact ⟨_, if_pos hz, .inl rfl⟩
        · left
          rw [if_neg hz]
          refine ⟨(1, nI (k + 1), sf, sa, so, st), ?_, 1, rfl, ?_⟩
          · unfold Mo_winsAll_L4_J45
            show some (Sum.inl ((1 : Int32), nI k + 1, sf, sa, so, st)) = _
            rw [show nI k + 1 = nI (k + 1) from nI_ad k 1]
          · rcases hb with ⟨b1, -⟩ | ⟨u, u1, u2, u3, u4⟩
            · exfalso; have := b1 k hk; omega
            · refine .inr ⟨u, ?_, u2, u3, u4⟩
              rcases Nat.lt_or_ge k u with e | e
              · exact e
              · exfalso
                have : u = k := by omega
                subst this
                exact hz (u4 i i1 i2)
      · left
        rw [if_pos (show nI (g k) = 0 by rw [show g k = 0 by omega]; rfl)]
        refine ⟨(b, nI (k + 1), sf, sa, so, st), ?_, b, rfl, ?_⟩
        · unfold Mo_winsAll_L4_J45
          show some (Sum.inl (b, nI k + 1, sf, sa, so, st)) = _
          rw [show nI k + 1 = nI (k + 1) from nI_ad k 1]
        · rcases hb with hb | ⟨u, u1, u2, u3, u4⟩
          · exact .inl hb
          · refine .inr ⟨u, ?_, u2, u3, u4⟩
            rcases Nat.lt_or_ge k u with e | e
            · exact e
            · exfalso
              have : u = k := by omega
              subst this
              exact h0 u3)
    (by
      rintro s ⟨b, rfl, hb⟩
      refine ⟨Sum.inr (b, sf, sa, so, st), ?_, ?_⟩
      · unfold Mo_winsAll_L4
        exact if_neg (fun z => by have := (nI_ltN (by omega) (by omega)).mp z; omega)
      · rcases hb with ⟨-, rfl⟩ | ⟨u, u1, u2, -⟩
        · exact .inr rfl
        · omega)
    0 ((0 : Int32), (0 : Int32), sf, sa, so, st) (Nat.zero_le _) ⟨0, rfl, by
      rcases hc with hc | ⟨u, u1, u2, u3⟩
      · exact .inl ⟨hc, rfl⟩
      · exact .inr ⟨u, Nat.zero_le _, u1, u2, u3⟩⟩
  unfold Mo_winsAll
  rw [ob_eq r1]
  rcases r2 with rfl | rfl <;> rfl
/-- a state is won if at once -/
theorem wins_ok (hG : GoodG n nx) (hn : n ≤ 8) (hx : ∀ w, w < 12 → nextTo w = nI (nx w)) {G : List (Nat → Nat)} {sf sa so cw : Nat → Int32} {st : Int32} (hr : G.length < 131072) (h : HT (G.map cdS) sf sa so st) {g : Nat → Nat} (hg : SG n g) {w : Nat} (hw : w < n)
    (hcl : ¬ aoS n nx g w → CloS n nx G g) (hW : ∀ i, i < G.length → totS (G.getD i z0S) 8 < totS g 8 → ¬ aoS n nx (G.getD i z0S) w → cw i = 0) :
    (Mo_wins nextTo (nI n) sf sa so st cw (cdS g) (nI w) = some (1, sf, sa, so, st) ∧ aoS n nx g w) ∨ (Mo_wins nextTo (nI n) sf sa so st cw (cdS g) (nI w) = some (0, sf, sa, so, st) ∧ ¬ aoS n nx g w) := by
  unfold Mo_wins
  rcases isAtOnce_ok hG hn hx hg hw with ⟨a1, a2⟩ | ⟨a1, a2⟩
  · left
    rw [ob_eq a1, if_neg one_ne0]
    exact ⟨rfl, a2⟩
  · right
    refine ⟨?_, a2⟩
    obtain ⟨c1, c2⟩ := hcl a2
    have hA : Mo_winsAll (nI n) sf sa so st cw (cdS g) = some (0, sf, sa, so, st) := by
      refine winsAll_no hn hr h hg c1 ?_
      rcases Classical.em (∃ u, u < n ∧ 0 < g u) with ⟨u, u1, u2⟩ | hz
      · refine .inr ⟨u, u1, u2, fun i i1 i2 => hW i i1 ?_ ?_⟩
        · rw [i2]; have := lv_tot (g := g) (show u < 8 by omega) u2; omega
        · rw [i2]; exact fun z => a2 (ao_mono (lv_below g u) z)
      · exact .inl (fun v hv => by
          rcases Nat.eq_zero_or_pos (g v) with e | e
          · exact e
          · exact absurd ⟨v, hv, e⟩ hz)
    rw [ob_eq a1, if_pos rfl, ob_eq hA, if_pos rfl]
    have hM : ∀ v, v < n → lp (Mo_wins_L32 (cdS g) (nI v) nextTo (nI n) cw) ((0 : Int32), sf, sa, so, st) = some (Sum.inr (sf, sa, so, st)) := fun v hv => by
      have hgv := hg.dig v (by omega)
      obtain ⟨r, r1, r2⟩ := lp_inv (f := Mo_wins_L32 (cdS g) (nI v) nextTo (nI n) cw) (fun k s => s = (nI k, sf, sa, so, st)) n (fun r => r = Sum.inr (sf, sa, so, st))
        (by
          rintro k s hk rfl
          unfold Mo_wins_L32
          show (∃ s', (if nI k < nI n then _ else _) = _ ∧ _) ∨ ∃ r, (if nI k < nI n then _ else _) = _ ∧ _
          rw [if_pos ((nI_ltN (by omega) (by omega)).mpr hk), ob_eq (jarsIn_ok hg (show v < 8 by omega))]
          by_cases h2 : 2 ≤ g v
          · left
            refine ⟨_, ?_, rfl⟩
            rw [if_neg (fun z => by have := (nI_leN (b := 1) (by omega) (by omega)).mp z; omega), gd_eq (ixN (by omega) (by omega)), nI_clamp (by omega), hx v (by omega), ob_eq (Mo_has_eq (nx_lt hG hn v) (by omega))]
            cases ht : (nx v).testBit k with
            | false =>
              rw [if_pos (show (if false = true then (1 : Int32) else 0) = 0 from rfl)]
              unfold Mo_wins_L32_J87
              show some (Sum.inl (nI k + 1, sf, sa, so, st)) = _
              rw [show nI k + 1 = nI (k + 1) from nI_ad k 1]
            | true =>
              have hm0 : 0 < mvS g v k k := by unfold mvS; rw [atS_at]; omega
              have hB : Mo_winsAll (nI n) sf sa so st cw (cdS (mvS g v k)) = some (0, sf, sa, so, st) := by
                refine winsAll_no hn hr h (mv_SG hn hg hv hk h2) (fun w hw hw0 => c2 v hv k hk h2 ht w hw hw0) (.inr ⟨k, hk, hm0, fun i i1 i2 => hW i i1 ?_ ?_⟩)
                · rw [i2]
                  have e1 := lv_tot (g := mvS g v k) (show k < 8 by omega) hm0
                  have e2 := mv_tot (g := g) (show v < 8 by omega) (show k < 8 by omega) h2
                  omega
                · rw [i2]; exact fun z => a2 (ao_mono (mv_below v k) z)
              rw [if_neg (show ¬ (if true = true then (1 : Int32) else 0) = 0 by decide), ob_eq (one_ok v (by omega)), ob_eq (one_ok k (by omega)), mv_cd (show v < 8 by omega) (show k < 8 by omega) h2, ob_eq hB, if_pos rfl]
              unfold Mo_wins_L32_J87
              show some (Sum.inl (nI k + 1, sf, sa, so, st)) = _
              rw [show nI k + 1 = nI (k + 1) from nI_ad k 1]
          · right
            exact ⟨_, if_pos ((nI_leN (b := 1) (by omega) (by omega)).mpr (by omega)), rfl⟩)
        (by
          rintro s rfl
          refine ⟨_, ?_, rfl⟩
          unfold Mo_wins_L32
          exact if_neg (fun z => by have := (nI_ltN (by omega) (by omega)).mp z; omega))
        0 ((0 : Int32), sf, sa, so, st) (Nat.zero_le _) rfl
      rw [r1, r2]
    have hE : lp (Mo_wins_L21 (cdS g) nextTo (nI n) cw) ((0 : Int32), sf, sa, so, st) = some (Sum.inr (sf, sa, so, st)) := by
      refine lp_run (fun k => (nI k, sf, sa, so, st)) n ?_ ?_
      · intro k hk
        unfold Mo_wins_L21
        show (if nI k < nI n then (ob (lp (Mo_wins_L32 (cdS g) (nI k) nextTo (nI n) cw) ((0 : Int32), sf, sa, so, st)) _) else _) = _
        rw [if_pos ((nI_ltN (by omega) (by omega)).mpr hk), ob_eq (hM k hk)]
        show some (Sum.inl (nI k + 1, sf, sa, so, st)) = _
        rw [show nI k + 1 = nI (k + 1) from nI_ad k 1]
      · unfold Mo_wins_L21
        exact if_neg (fun z => by have := (nI_ltN (by omega) (by omega)).mp z; omega)
    rw [ob_eq hE]
    rfl
end WIN
