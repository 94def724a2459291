/-! REACH, the reference: a queue in the table -/
theorem byte_small : ∀ k : Nat, k < 128 → vp_nar .byte (jB (nI k)) = nI k := by decide +kernel
section RCM
variable {n : Nat} {nx : Nat → Nat} {nextTo : Nat → Int32} {ml : List M3} {s0 : Nat → Nat}
def RQ (ml : List M3) (s0 : Nat → Nat) (G : List (Nat → Nat)) (f : Nat → Nat) (i m : Nat) (τ : T6) : Prop :=
  QI ml s0 (fun _ => True) (fun _ => True) G f i m ∧ HT (G.map cdS) τ.1 τ.2.1 τ.2.2.1 τ.2.2.2.2.2 ∧
  (∀ j, j < G.length → τ.2.2.2.2.1 j = nI (lvl s0 (G.getD j z0S))) ∧ ∀ j, j < G.length → τ.2.2.2.1 j = if j = 0 then (-3 : Int32) else nI (codeM (mvN ml (f j)))
variable {G : List (Nat → Nat)} {f : Nat → Nat} {i m : Nat} {τ : T6}
theorem RQ.room (hn : n ≤ 8) (hm : ∀ j, j < ml.length → in8 n (mvN ml j)) (h0 : SG n s0) (h : RQ ml s0 G f i m τ) : G.length < 131072 := by
  obtain ⟨h1, ⟨-, pl, h2, -⟩, -⟩ := h
  have := states_few h2 (fun a ha => by
    rw [List.mem_map] at ha
    obtain ⟨g, g1, g2⟩ := ha
    obtain ⟨j, j1, j2⟩ := mem_gF g1
    exact ⟨g, by rw [← j2]; exact (h1.good hn hm h0 j1).2, g2.symm⟩)
  rw [List.length_map] at this
  omega
theorem RQ.at (h : RQ ml s0 G f i m τ) {j : Nat} (hj : j < G.length) : τ.2.1 j = cdS (G.getD j z0S) := by
  obtain ⟨-, ⟨-, pl, -, -, h3, -⟩, -⟩ := h
  rw [h3 j (by rw [List.length_map]; exact hj), gF_cd hj]
theorem RQ.states (h : RQ ml s0 G f i m τ) : τ.2.2.2.2.2 = nI G.length := by
  have := h.2.1.1
  rw [List.length_map] at this
  exact this
/-- a move that is done -/
theorem reaches_ok (hn : n ≤ 8) (hm : ∀ j, j < ml.length → in8 n (mvN ml j)) (h0 : SG n s0) (h : RQ ml s0 G f i m τ) (hi : i < G.length) (hml : m < ml.length) (hok : okS (G.getD i z0S) (mvN ml m)) :
    ∃ τ' G' f', Mo_reaches τ.1 τ.2.1 τ.2.2.1 τ.2.2.2.1 τ.2.2.2.2.1 τ.2.2.2.2.2 (nI i) (cdS (goS (G.getD i z0S) (mvN ml m))) (nI (codeM (mvN ml m))) = some τ' ∧ RQ ml s0 G' f' i (m + 1) τ' ∧ (∃ H, G' = G ++ H) := by
  have hr := h.room hn hm h0
  have hst := h.states
  obtain ⟨h1, h2, h3, h4⟩ := id h
  have hgi := h1.good hn hm h0 hi
  have hgo := go_SG hn hgi (hm m hml) hok
  obtain ⟨sf, sa, so, fa, mt, st⟩ := τ
  have hst : st = nI G.length := hst
  by_cases hmem : goS (G.getD i z0S) (mvN ml m) ∈ G
  · obtain ⟨j, j1, j2⟩ := mem_gF hmem
    have hp := placeOf_old h2 (i := j) (by rw [List.length_map]; exact j1)
    rw [gF_cd j1, j2] at hp
    refine ⟨(sf, sa, so, fa, mt, st), G, f, ?_, ⟨h1.old hn hm h0 hml hi hok trivial hmem, h2, h3, h4⟩, [], by simp⟩
    unfold Mo_reaches
    rw [ob_eq hp]
    exact if_pos rfl
  · have hnm : ¬ cdS (goS (G.getD i z0S) (mvN ml m)) ∈ G.map cdS := fun z => by
      rw [List.mem_map] at z
      obtain ⟨g, g1, g2⟩ := z
      obtain ⟨j, j1, j2⟩ := mem_gF g1
      have := cdS_inj hn (by rw [← j2]; exact h1.good hn hm h0 j1) hgo g2
      rw [this] at g1
      exact hmem g1
    obtain ⟨sf', sa', so', p1, p2, p3⟩ := placeOf_new h2 hnm (by rw [List.length_map]; exact hr)
    rw [List.length_map] at p1 p2 p3
    obtain ⟨d, hd, hd0, hd1⟩ := h1.psAt hi
    have e0 := hd.lv hn hm h0
    have e1 := (hd.tot hn hm h0).2
    have e2 := go_tot hn (hm m hml) hok
    have e12 := h0.2
    have elv : lvl s0 (goS (G.getD i z0S) (mvN ml m)) = lvl s0 (G.getD i z0S) + 1 := by
      unfold lvl; omega
    have hmt : mt i = nI (lvl s0 (G.getD i z0S)) := h3 i hi
    have hfa : fa i = if i = 0 then (-3 : Int32) else nI (codeM (mvN ml (f i))) := h4 i hi
    have hbyte : vp_nar .byte (jB (mt i + 1)) = nI (lvl s0 (G.getD i z0S) + 1) := by
      rw [hmt, show (1 : Int32) = nI 1 from rfl, nI_ad, byte_small _ (by omega)]
    refine ⟨(sf', sa', so', upd fa G.length (nI (codeM (mvN ml (if i = 0 then m else f i)))), upd mt G.length (nI (lvl s0 (G.getD i z0S) + 1)), nI (G.length + 1)), G ++ [goS (G.getD i z0S) (mvN ml m)], newF f G.length (if i = 0 then m else f i), ?_, ⟨h1.new hn hm h0 hml hi hok trivial, ?_, ?_, ?_⟩, [goS (G.getD i z0S) (mvN ml m)], rfl⟩
    · unfold Mo_reaches
      rw [ob_eq p1]
      show (if nI (G.length + 1) = st then _ else _) = _
      rw [hst, if_neg (fun z => by have := (nI_inj (by omega) (by omega)).mp z; omega), gd_eq (ixN (show i < 131072 by omega) (by omega)), gd_eq (ixN (show G.length < 131072 by omega) (by omega))]
      show (if nI i = nI 0 then Mo_reaches_J59 _ (nI G.length) sf' sa' so' fa (upd mt (nI G.length).toNatClampNeg (vp_nar .byte (jB (mt (nI i).toNatClampNeg + 1)))) (nI (G.length + 1)) else gd (ix (nI i) 131072) (Mo_reaches_J59 (fa (nI i).toNatClampNeg) (nI G.length) sf' sa' so' fa (upd mt (nI G.length).toNatClampNeg (vp_nar .byte (jB (mt (nI i).toNatClampNeg + 1)))) (nI (G.length + 1)))) = _
      rw [nI_clamp (show G.length < 2 ^ 31 by omega), nI_clamp (show i < 2 ^ 31 by omega), hbyte]
      unfold Mo_reaches_J59
      by_cases z : i = 0
      · rw [if_pos (by rw [z]), if_pos z, gd_eq (ixN (show G.length < 131072 by omega) (by omega)), nI_clamp (show G.length < 2 ^ 31 by omega)]
      · rw [if_neg (fun y => z ((nI_inj (by omega) (by omega)).mp y)), gd_eq (ixN (show i < 131072 by omega) (by omega)), gd_eq (ixN (show G.length < 131072 by omega) (by omega)), nI_clamp (show G.length < 2 ^ 31 by omega), hfa, if_neg z, if_neg z]
    · rw [List.map_append]; exact p2
    · intro j hj
      rw [List.length_append] at hj
      have hj : j < G.length + 1 := hj
      show upd mt G.length _ j = _
      by_cases e : j = G.length
      · subst e
        rw [upd_at, gF_new, elv]
      · rw [upd_ne e, gF_app (by omega)]
        exact h3 j (by omega)
    · intro j hj
      rw [List.length_append] at hj
      have hj : j < G.length + 1 := hj
      show upd fa G.length _ j = _
      by_cases e : j = G.length
      · subst e
        rw [upd_at, newF_at, if_neg (show ¬ G.length = 0 by omega)]
      · rw [upd_ne e, newF_lt (by omega)]
        exact h4 j (by omega)
/-- all moves of one of the queue -/
theorem turn_ok (hG : GoodG n nx) (hn : n ≤ 8) (hx : ∀ w, w < 12 → nextTo w = nI (nx w)) {both : Bool} {v2 : Int32} (hv2 : v2 = if both then 1 else 0) (h0 : SG n s0) (h : RQ (mlS n nx both) s0 G f i 0 τ) (hi : i < G.length) :
    ∃ τ' G' f', Mo_movesOn nextTo (nI n) τ.1 τ.2.1 τ.2.2.1 τ.2.2.2.1 τ.2.2.2.2.1 τ.2.2.2.2.2 (nI i) v2 = some τ' ∧ RQ (mlS n nx both) s0 G' f' (i + 1) 0 τ' ∧ (∃ H, G' = G ++ H) := by
  have hm : ∀ j, j < (mlS n nx both).length → in8 n (mvN (mlS n nx both) j) := fun j hj => (mlS_leg (mvN_mem hj)).1
  obtain ⟨τ', q1, G', f', q2, q3⟩ := movesOn_ok (P := fun pre σ => ∃ G' f', RQ (mlS n nx both) s0 G' f' i pre.length σ ∧ ∃ H, G' = G ++ H) (g := G.getD i z0S) (v1 := nI i) (v2 := v2) (σ := τ) (i := i) (nextTo := nextTo) hG hn hx (h.1.good hn hm h0 hi) hv2
    (by
      rintro pre mm σ ⟨G1, f1, a1, H, rfl⟩ hp - hok
      obtain ⟨p1, p2⟩ := mvN_pre hp
      have hi1 : i < (G ++ H).length := by rw [List.length_append]; omega
      have hgi : (G ++ H).getD i z0S = G.getD i z0S := gF_app hi
      obtain ⟨τ', G', f', b1, b2, K, b3⟩ := reaches_ok hn hm h0 a1 hi1 p1 (by rw [hgi, p2]; exact hok)
      rw [hgi, p2] at b1
      refine ⟨τ', b1, G', f', by rw [List.length_append]; exact b2, H ++ K, by rw [b3]; simp⟩)
    (by
      rintro pre mm σ ⟨G1, f1, a1, H, rfl⟩ hp hok
      obtain ⟨p1, p2⟩ := mvN_pre hp
      refine ⟨G ++ H, f1, ?_, H, rfl⟩
      rw [List.length_append]
      have hgi : (G ++ H).getD i z0S = G.getD i z0S := gF_app hi
      exact ⟨a1.1.skip (fun _ _ z => absurd (by rw [hgi, p2] at z; exact z) hok), a1.2⟩)
    ⟨G, f, h, [], by simp⟩ (by have := h.room hn hm h0; omega) rfl (h.at hi)
  obtain ⟨H, rfl⟩ := q3
  refine ⟨τ', G ++ H, f', q1, ⟨q2.1.pop hn hm h0 (by rw [List.length_append]; omega), q2.2⟩, H, rfl⟩
/-- the whole queue; a goal is a laying with k jars at w -/
theorem queue_ok (hG : GoodG n nx) (hn : n ≤ 8) (hx : ∀ w, w < 12 → nextTo w = nI (nx w)) {both : Bool} {v3 : Int32} (hv3 : v3 = if both then 1 else 0) (h0 : SG n s0) {w k : Nat} (hw : w < n) (hk : k < 2 ^ 31) (v4 : Int32) (h : RQ (mlS n nx both) s0 [s0] f 0 0 τ) :
    ∃ told τ' L, lp (Mo_reach_L86 (nI w) (nI k) v3 v4 nextTo (nI n)) (-2, 0, τ) = some (told, τ') ∧ HT L τ'.1 τ'.2.1 τ'.2.2.1 τ'.2.2.2.2.2 ∧
      ((k ≤ s0 w ∧ told = if v4 = 0 then 0 else -3) ∨ (s0 w < k ∧ (∀ d f s, WaS (mlS n nx both) s0 d f s → ¬ k ≤ s w) ∧ told = -2) ∨ (s0 w < k ∧ ∃ D F, bestS (mlS n nx both) s0 (fun s => k ≤ s w) D F ∧ told = if v4 = 0 then nI D else nI (codeM (mvN (mlS n nx both) F)))) := by
  have hm : ∀ j, j < (mlS n nx both).length → in8 n (mvN (mlS n nx both) j) := fun j hj => (mlS_leg (mvN_mem hj)).1
  obtain ⟨⟨told, τ'⟩, r1, r2⟩ := lp_inv (f := Mo_reach_L86 (nI w) (nI k) v3 v4 nextTo (nI n))
    (fun i s => (s.2.1 = nI i ∧ s.1 = -2 ∧ ∃ G f, RQ (mlS n nx both) s0 G f i 0 s.2.2 ∧ i ≤ G.length ∧ ∀ j, j < i → ¬ k ≤ G.getD j z0S w) ∨ (¬ s.1 = -2 ∧ (∃ L, HT L s.2.2.1 s.2.2.2.1 s.2.2.2.2.1 s.2.2.2.2.2.2.2) ∧ ((k ≤ s0 w ∧ s.1 = if v4 = 0 then 0 else -3) ∨ (s0 w < k ∧ ∃ D F, bestS (mlS n nx both) s0 (fun s => k ≤ s w) D F ∧ s.1 = if v4 = 0 then nI D else nI (codeM (mvN (mlS n nx both) F))))))
    131073
    (fun r => (∃ L, HT L r.2.1 r.2.2.1 r.2.2.2.1 r.2.2.2.2.2.2) ∧ ((k ≤ s0 w ∧ r.1 = if v4 = 0 then 0 else -3) ∨ (s0 w < k ∧ (∀ d f s, WaS (mlS n nx both) s0 d f s → ¬ k ≤ s w) ∧ r.1 = -2) ∨ (s0 w < k ∧ ∃ D F, bestS (mlS n nx both) s0 (fun s => k ≤ s w) D F ∧ r.1 = if v4 = 0 then nI D else nI (codeM (mvN (mlS n nx both) F)))))
    (by
      rintro i ⟨s1, s2, σ⟩ hi hinv
      rcases hinv with ⟨e1, e2, G, f, e3, e4, e5⟩ | ⟨e1, e2, e3⟩
      · have e1 : s2 = nI i := e1
        have e2 : s1 = -2 := e2
        subst e1; subst e2
        have hroom := e3.room hn hm h0
        have hst := e3.states
        have hst : σ.2.2.2.2.2 = nI G.length := hst
        by_cases hlt : i < G.length
        · have hgi := e3.1.good hn hm h0 hlt
          have hgw := hgi.dig w (by omega)
          have hhead : Mo_reach_L86 (nI w) (nI k) v3 v4 nextTo (nI n) (-2, nI i, σ) = if nI (G.getD i z0S w) < nI k then ob (Mo_movesOn nextTo (nI n) σ.1 σ.2.1 σ.2.2.1 σ.2.2.2.1 σ.2.2.2.2.1 σ.2.2.2.2.2 (nI i) v3) fun x3 => some (Sum.inl (-2, nI i + 1, x3)) else if v4 = 0 then some (Sum.inl (σ.2.2.2.2.1 i, nI i + 1, σ)) else some (Sum.inl (σ.2.2.2.1 i, nI i + 1, σ)) := by
            unfold Mo_reach_L86
            show (if nI i < σ.2.2.2.2.2 then (if (-2 : Int32) = -2 then _ else _) else _) = _
            rw [if_pos (show nI i < σ.2.2.2.2.2 by rw [hst]; exact (nI_ltN (by omega) (by omega)).mpr hlt), if_pos rfl, gd_eq (ixN (show i < 131072 by omega) (by omega))]
            show ob (Mo_jarsIn (σ.2.1 (nI i).toNatClampNeg) (nI w)) _ = _
            rw [nI_clamp (show i < 2 ^ 31 by omega), e3.at hlt, ob_eq (jarsIn_ok hgi (show w < 8 by omega)), gd_eq (ixN (show i < 131072 by omega) (by omega)), gd_eq (ixN (show i < 131072 by omega) (by omega))]
            rfl
          left
          by_cases hk2 : G.getD i z0S w < k
          · obtain ⟨τ', G', f', q1, q2, H, q3⟩ := turn_ok hG hn hx hv3 h0 e3 hlt
            refine ⟨(-2, nI i + 1, τ'), ?_, .inl ⟨nI_ad i 1, rfl, G', f', q2, by rw [q3, List.length_append]; omega, fun j hj => ?_⟩⟩
            · rw [hhead, if_pos ((nI_ltN (by omega) (by omega)).mpr hk2), ob_eq q1]
            · rw [q3, gF_app (by omega)]
              by_cases e : j = i
              · subst e; omega
              · exact e5 j (by omega)
          · have hgoal : k ≤ G.getD i z0S w := by omega
            have hlv : ∀ x, lvl s0 x < 128 := fun x => by unfold lvl; have := h0.2; omega
            have hans : (k ≤ s0 w ∧ (if v4 = 0 then σ.2.2.2.2.1 i else σ.2.2.2.1 i) = if v4 = 0 then 0 else -3) ∨ (s0 w < k ∧ ∃ D F, bestS (mlS n nx both) s0 (fun s => k ≤ s w) D F ∧ (if v4 = 0 then σ.2.2.2.2.1 i else σ.2.2.2.1 i) = if v4 = 0 then nI D else nI (codeM (mvN (mlS n nx both) F))) := by
              have a1 := e3.2.2.1 i hlt
              have a2 := e3.2.2.2 i hlt
              rcases e3.1.taken hn hm h0 (gl := fun s => k ≤ s w) hlt e5 hgoal with z | z
              · by_cases e0 : i = 0
                · subst e0
                  rw [e3.1.2.1] at a1 hgoal
                  left
                  refine ⟨hgoal, ?_⟩
                  rw [a1, a2, if_pos rfl, show lvl s0 s0 = 0 by unfold lvl; omega]
                  rfl
                · right
                  refine ⟨?_, _, _, z, ?_⟩
                  · have := e5 0 (by omega)
                    rw [e3.1.2.1] at this
                    omega
                  · rw [a1, a2, if_neg e0]
              · subst z
                rw [e3.1.2.1] at a1 hgoal
                left
                refine ⟨hgoal, ?_⟩
                rw [a1, a2, if_pos rfl, show lvl s0 s0 = 0 by unfold lvl; omega]
                rfl
            refine ⟨(if v4 = 0 then σ.2.2.2.2.1 i else σ.2.2.2.1 i, nI i + 1, σ), ?_, .inr ⟨?_, ⟨_, e3.2.1⟩, hans⟩⟩
            · rw [hhead, if_neg (fun z => hk2 ((nI_ltN (by omega) (by omega)).mp z))]
              by_cases e : v4 = 0
              · rw [if_pos e, if_pos e]
              · rw [if_neg e, if_neg e]
            · show ¬ (if v4 = 0 then σ.2.2.2.2.1 i else σ.2.2.2.1 i) = -2
              have n2 : ∀ x, x < 2 ^ 31 → ¬ nI x = -2 := fun x hx e => by
                have h1 : (nI x).toInt = (-2 : Int32).toInt := by rw [e]
                rw [nI_toInt hx] at h1
                have h2 : (-2 : Int32).toInt = -2 := by decide
                rw [h2] at h1
                omega
              by_cases e : v4 = 0
              · rw [if_pos e, e3.2.2.1 i hlt]
                exact n2 _ (by have := hlv (G.getD i z0S); omega)
              · rw [if_neg e, e3.2.2.2 i hlt]
                by_cases e0 : i = 0
                · rw [if_pos e0]; decide
                · rw [if_neg e0]
                  obtain ⟨d, hd⟩ := e3.1.2.2.1 i (by omega) hlt
                  have : codeM (mvN (mlS n nx both) (f i)) < 2 ^ 31 := by
                    have hin : in8 8 (mvN (mlS n nx both) (f i)) := by
                      by_cases hfl : f i < (mlS n nx both).length
                      · obtain ⟨c1, c2, c3⟩ := hm _ hfl
                        exact ⟨by omega, by omega, by omega⟩
                      · unfold mvN
                        rw [List.getD_eq_getElem?_getD, List.getElem?_eq_none (by omega)]
                        exact ⟨show 0 < 8 by omega, show 0 < 8 by omega, show 0 < 8 by omega⟩
                    obtain ⟨c1, c2, c3⟩ := hin
                    unfold codeM
                    omega
                  exact n2 _ this
        · right
          have hnone : ∀ d f s, WaS (mlS n nx both) s0 d f s → ¬ k ≤ s w := fun d fi s hw => by
            obtain ⟨j, j1, j2⟩ := e3.1.all hn hm h0 (by omega) hw
            rw [← j2]
            exact e5 j (by omega)
          refine ⟨(-2, σ), ?_, ⟨_, e3.2.1⟩, .inr (.inl ⟨?_, hnone, rfl⟩)⟩
          · unfold Mo_reach_L86
            show (if nI i < σ.2.2.2.2.2 then _ else _) = _
            rw [if_neg (show ¬ nI i < σ.2.2.2.2.2 from fun z => by rw [hst] at z; exact hlt ((nI_ltN (by omega) (by omega)).mp z))]
          · have := hnone 0 0 s0 rfl
            omega
      · right
        refine ⟨(s1, σ), ?_, e2, ?_⟩
        · unfold Mo_reach_L86
          show (if s2 < σ.2.2.2.2.2 then (if s1 = -2 then _ else _) else _) = _
          by_cases z : s2 < σ.2.2.2.2.2
          · rw [if_pos z, if_neg e1]
          · rw [if_neg z]
        · rcases e3 with z | z
          · exact .inl z
          · exact .inr (.inr z))
    (by
      rintro ⟨s1, s2, σ⟩ hinv
      rcases hinv with ⟨e1, e2, G, f, e3, e4, e5⟩ | ⟨e1, e2, e3⟩
      · exact absurd e4 (by have := e3.room hn hm h0; omega)
      · refine ⟨(s1, σ), ?_, e2, ?_⟩
        · unfold Mo_reach_L86
          show (if s2 < σ.2.2.2.2.2 then (if s1 = -2 then _ else _) else _) = _
          by_cases z : s2 < σ.2.2.2.2.2
          · rw [if_pos z, if_neg e1]
          · rw [if_neg z]
        · rcases e3 with z | z
          · exact .inl z
          · exact .inr (.inr z))
    0 (-2, 0, τ) (Nat.zero_le _) (.inl ⟨rfl, rfl, [s0], f, h, Nat.zero_le _, fun j hj => by omega⟩)
  obtain ⟨⟨L, r3⟩, r4⟩ := r2
  exact ⟨told, τ', L, r1, r3, r4⟩
end RCM
