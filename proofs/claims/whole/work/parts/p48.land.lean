/-! LAND -/
section LD
variable {bytes tape : Nat → Int32} {E : Nat}
theorem whole_both (hT : TX bytes tape E) (hE : E ≤ 60) {i : Nat} (hi : i ≤ E) (w0 : Int32) (n0 : Nat → Int32) (w1 : Int32) (n1 : Nat → Int32) (w2 : Int32) (n2 : Nat → Int32) (wp : Int32) (np : Nat → Int32) (wx : Int32) (xx : Nat → Int32) (f num : Int32) (many nx part new : Nat → Int32) (dep : Int32) :
    (∃ q F w' n' tl p' num' many' nx' part' new' dp', q < 400 ∧ LandReader_readWhole0 bytes (nI E) (nI i) 0 w0 n0 w1 n1 w2 n2 wp np wx xx = some (0, nI q, F, w', n', tl) ∧ ¬ F = 0 ∧ Mo_readsWhole tape (nI i) (nI E) f num many nx part new dep = some (0, p', F, num', many', nx', part', new', dp')) ∨
    ∃ j n adj nn tl num' many' nx' part' new' dp', i + 2 ≤ j ∧ j ≤ E ∧ 1 ≤ n ∧ n ≤ 12 ∧ Sy adj ∧ CM n adj nn ∧ LandReader_readWhole0 bytes (nI E) (nI i) 0 w0 n0 w1 n1 w2 n2 wp np wx xx = some (nI E, nI j, 0, nI n, nn, tl) ∧ Mo_readsWhole tape (nI i) (nI E) f num many nx part new dep = some (1, nI j, f, num', many', nx', part', new', dp') ∧ many' 0 = nI n ∧ RMk 0 n adj nx' := by
  rcases whole0_ok hT hE hi w0 n0 w1 n1 w2 n2 wp np wx xx f num (upd many 0 0) nx part new (upd_at _ _ _) with ⟨q, F, w', n', tl, hq, h1, h2, r, h3, p, f', a, b, c, d, e, g, h4⟩ | ⟨j, n, adj, nn, tl, h1, h2, h3, h4, h5, h6, h7, h8, num', many', nx', part', new', h9, h10, h11⟩
  · left
    have hgo : ∀ {x}, (sm r (fun x2 => ob (Mo_wrongAt x2.2.1 5 x2.1) fun x3 =>
  gd (isB x3.1) (some (x3.1, x2.1, x3.2, x2.2.2.1, x2.2.2.2.1, x2.2.2.2.2.1, x2.2.2.2.2.2.1, x2.2.2.2.2.2.2.1, x2.2.2.2.2.2.2.2))) (fun x2 => sm x2 (fun x2 => some (0, x2.1, x2.2.1, x2.2.2.1, x2.2.2.2.1, x2.2.2.2.2.1, x2.2.2.2.2.2.1, x2.2.2.2.2.2.2.1, x2.2.2.2.2.2.2.2)) (fun x2 => sm x2 (fun x2 => some (0, x2.1, x2.2.1, x2.2.2.1, x2.2.2.2.1, x2.2.2.2.2.1, x2.2.2.2.2.2.1, x2.2.2.2.2.2.2.1, x2.2.2.2.2.2.2.2)) (fun x2 => if x2.2.2.2.2.2.2.2 = 0 then (Mo_readsWhole_J200 tape x2.1 (nI E) x2.2.1 x2.2.2.1 x2.2.2.2.1 x2.2.2.2.2.1 x2.2.2.2.2.2.1 x2.2.2.2.2.2.2.1 x2.2.2.2.2.2.2.2) else (ob (Mo_wrongAt x2.2.1 1 x2.1) fun x5 =>
  if x5.1 = 0 then (some (0, x2.1, x5.2, x2.2.2.1, x2.2.2.2.1, x2.2.2.2.2.1, x2.2.2.2.2.2.1, x2.2.2.2.2.2.2.1, x2.2.2.2.2.2.2.2)) else (Mo_readsWhole_J200 tape x2.1 (nI E) x5.2 x2.2.2.1 x2.2.2.2.1 x2.2.2.2.2.1 x2.2.2.2.2.2.1 x2.2.2.2.2.2.2.1 x2.2.2.2.2.2.2.2)))))) = some x → Mo_readsWhole tape (nI i) (nI E) f num many nx part new dep = some x := by
      intro x hx
      unfold Mo_readsWhole
      exact (gd_eq (show ix 0 4 = true from rfl)).trans ((ob_eq h3).trans hx)
    refine ⟨q, F, w', n', tl, p, a, b, c, d, e, g, hq, h1, h2, hgo ?_⟩
    rcases h4 with ⟨rfl, rfl⟩ | rfl | rfl | ⟨rfl, h5, rfl⟩
    · rfl
    · rfl
    · rfl
    · exact (if_neg h5).trans rfl
  · right
    refine ⟨j, n, adj, nn, tl, num', many', nx', part', new', nI 0, h1, h2, h3, h4, h5, h6, h8, ?_, h9.1, h9.2⟩
    have hl := h11 _ (aft_end hT (by omega) (by omega) h7 (Or.inr rfl) part' f num' many' nx' new')
    unfold Mo_readsWhole
    exact (gd_eq (show ix 0 4 = true from rfl)).trans ((ob_eq hl).trans ((sm_inr _ _ _).trans ((sm_inr _ _ _).trans ((sm_inr _ _ _).trans ((if_pos (show (nI 0 : Int32) = 0 from rfl)).trans rfl)))))
end LD
/-- a new land: jars and rooms, neighbours -/
theorem L101_eq {n : Nat} (hn : n ≤ 12) {nextAt now nextTo : Nat → Int32} {nx : Nat → Nat} (h : ∀ w, w < n → nextAt w = nI (nx w)) (h0 : ∀ w, n ≤ w → nx w = 0) :
    ∃ now' nt', lp (Mo_land_L101 (nI n) nextAt) (0, now, nextTo) = some (now', nt') ∧ (∀ w, w < 12 → nt' w = nI (nx w)) ∧ (∀ w, w < 12 → now' w = 0 ∧ now' (12 + w) = 40) ∧ ∀ j, 24 ≤ j → now' j = now j := by
  have := lp_inv (f := Mo_land_L101 (nI n) nextAt) (fun k s => ∃ now' nt', s = (nI k, now', nt') ∧ (∀ w, w < k → nt' w = nI (nx w)) ∧ (∀ w, w < k → now' w = 0 ∧ now' (12 + w) = 40) ∧ ∀ j, 24 ≤ j → now' j = now j) 12 (fun r => (∀ w, w < 12 → r.2 w = nI (nx w)) ∧ (∀ w, w < 12 → r.1 w = 0 ∧ r.1 (12 + w) = 40) ∧ ∀ j, 24 ≤ j → r.1 j = now j) ?_ ?_ 0 (0, now, nextTo) (Nat.zero_le _) ⟨now, nextTo, rfl, fun w hw => by omega, fun w hw => by omega, fun _ _ => rfl⟩
  · obtain ⟨⟨now', nt'⟩, h1, h2⟩ := this
    exact ⟨now', nt', h1, h2⟩
  · rintro k s hk ⟨now', nt', rfl, h1, h2, h3⟩
    refine Or.inl ⟨(nI (k + 1), upd (upd now' k 0) (12 + k) 40, upd nt' k (nI (nx k))), ?_, _, _, rfl, fun w hw => ?_, fun w hw => ?_, fun j hj => ?_⟩
    · unfold Mo_land_L101 Mo_land_L101_J130
      have hJ : ∀ x, x = nI (nx k) → gd (ix (nI k) 12) (gd (ix ((0 : Int32) + nI k) 27) (gd (ix ((12 : Int32) + nI k) 27) (some (Sum.inl (nI k + 1, upd (upd now' ((0 : Int32) + nI k).toNatClampNeg 0) ((12 : Int32) + nI k).toNatClampNeg 40, upd nt' (nI k).toNatClampNeg x))))) = (some (Sum.inl (nI (k + 1), upd (upd now' k 0) (12 + k) 40, upd nt' k (nI (nx k)))) : Option ((Int32 × (Nat → Int32) × (Nat → Int32)) ⊕ ((Nat → Int32) × (Nat → Int32)))) := by
        intro x hx
        rw [hx, show (0 : Int32) + nI k = nI k from (nI_ad 0 k).trans (by rw [Nat.zero_add]), show (12 : Int32) + nI k = nI (12 + k) from nI_ad 12 k, gd_eq (ixN (by omega) (by decide)), gd_eq (ixN (by omega) (by decide)), gd_eq (ixN (by omega) (by decide)), nI_clamp (by omega), nI_clamp (by omega), show nI k + 1 = nI (k + 1) from nI_ad k 1]
      refine (if_pos ((nI_ltN (b := 12) (by omega) (by decide)).mpr hk)).trans ?_
      by_cases hkn : k < n
      · refine (if_pos ((nI_ltN (by omega) (by omega)).mpr hkn)).trans ((gd_eq (ixN (by omega) (by decide))).trans (hJ _ ?_))
        rw [nI_clamp (by omega)]; exact h k hkn
      · exact (if_neg (fun z => hkn ((nI_ltN (by omega) (by omega)).mp z))).trans (hJ 0 (by rw [h0 k (by omega)]; rfl))
    · by_cases e : w = k
      · subst e; exact upd_at _ _ _
      · rw [upd_ne e]; exact h1 w (by omega)
    · by_cases e : w = k
      · subst e
        exact ⟨(upd_ne (by omega)).trans (upd_at _ _ _), upd_at _ _ _⟩
      · exact ⟨(upd_ne (by omega)).trans ((upd_ne e).trans (h2 w (by omega)).1), (upd_ne (by omega)).trans ((upd_ne (by omega)).trans (h2 w (by omega)).2)⟩
    · exact (upd_ne (by omega)).trans ((upd_ne (by omega)).trans (h3 j hj))
  · rintro s ⟨now', nt', rfl, h1, h2, h3⟩
    exact ⟨(now', nt'), if_neg (show ¬ (nI 12 : Int32) < 12 by decide), h1, h2, h3⟩
/-- a land in both -/
def RL (n : Nat) (nx : Nat → Nat) (wells : Int32) (next ways : Nat → Int32) (wm : Int32) (nextTo : Nat → Int32) : Prop := GoodG n nx ∧ wells = nI n ∧ wm = nI n ∧ (∀ w, w < 12 → next w = nI (nx w)) ∧ (∀ w, w < 12 → nextTo w = nI (nx w)) ∧ RW n nx ways
theorem land_ok {n : Nat} {nx : Nat → Nat} {bytes tape next ways nextTo jars space now : Nat → Int32} {len taped wells wm throne day draw : Int32} (hl : RL n nx wells next ways wm nextTo) (h : RT bytes len tape taped) (hj : RJ jars space throne day draw now) (hb : BJ jars space throne day draw) (hz : ∀ w, w < 12 → n ≤ w → jars w = 0) (ht : ∃ t, throne = nI t ∧ (t < n ∨ t = 0))
    (en at_ fa w0 : Int32) (n0 : Nat → Int32) (w1 : Int32) (n1 : Nat → Int32) (w2 : Int32) (n2 : Nat → Int32) (wp : Int32) (np : Nat → Int32) (wx : Int32) (xx told : Nat → Int32) (lay : Int32) (pl l0 fm num cm sm : Int32) (many nextAt part new : Nat → Int32) (dep nl : Int32) (a1 : Int32) :
    ∃ r l' e' p' f' w0' n0' w1' n1' w2' n2' wp' np' wx' xx' wells' next' ways' jars' space' throne' told' lay' now' nextTo' wm' tp' pl' l0' fm' num' cm' sm' many' nextAt' part' new' dep' nl',
      Dj_land bytes len en at_ fa w0 n0 w1 n1 w2 n2 wp np wx xx wells next ways jars space throne told lay a1 = some (r, l', e', p', f', w0', n0', w1', n1', w2', n2', wp', np', wx', xx', wells', next', ways', jars', space', throne', told', lay') ∧
      Mo_land now nextTo wm tape taped pl l0 fm num cm sm many nextAt part new dep nl a1 = some (r, now', nextTo', wm', tp', pl', l0', fm', num', cm', sm', many', nextAt', part', new', dep', nl') ∧
      RT bytes l' tape tp' ∧ RJ jars' space' throne' day draw now' ∧ BJ jars' space' throne' day draw ∧
      ∃ n' nx', RL n' nx' wells' next' ways' wm' nextTo' ∧ (∀ w, w < 12 → n' ≤ w → jars' w = 0) ∧ (∃ t, throne' = nI t ∧ (t < n' ∨ t = 0)) ∧ ((n' = n ∧ nx' = nx ∧ told' = told ∧ lay' = lay) ∨ (1 ≤ n' ∧ (∀ w, w < 12 → told' w = 0) ∧ lay' = 0)) := by
  obtain ⟨k, hk, rfl, rfl, hbt⟩ := h
  have hR : RT bytes (nI k) tape (nI k) := ⟨k, hk, rfl, rfl, hbt⟩
  unfold Dj_land Mo_land
  by_cases h1 : a1 < 1
  · rw [ob_eq (holds_no1 h1), ob_eq (Mo_in_no1 h1), if_pos rfl, if_pos rfl]
    exact ⟨_, _, _, _, _, _, _, _, _, _, _, _, _, _, _, _, _, _, _, _, _, _, _, _, _, _, _, _, _, _, _, _, _, _, _, _, _, _, _, rfl, rfl, hR, hj, hb, n, nx, hl, hz, ht, Or.inl ⟨rfl, rfl, rfl, rfl⟩⟩
  by_cases h2 : a1 ≤ 60
  case neg =>
    rw [ob_eq (holds_no2 h2), ob_eq (Mo_in_no2 h2), if_pos rfl, if_pos rfl]
    exact ⟨_, _, _, _, _, _, _, _, _, _, _, _, _, _, _, _, _, _, _, _, _, _, _, _, _, _, _, _, _, _, _, _, _, _, _, _, _, _, _, rfl, rfl, hR, hj, hb, n, nx, hl, hz, ht, Or.inl ⟨rfl, rfl, rfl, rfl⟩⟩
  obtain ⟨E, hE, rfl⟩ := nI_between (h := 60) (by decide) (fun z => h1 (Int32.lt_trans z (by decide))) h2
  rw [ob_eq (Mo_in_yes h1 h2), if_neg one_ne0]
  by_cases h3 : nI E ≤ nI k
  case neg =>
    rw [ob_eq (holds_no3 h3), if_pos rfl, if_neg h3]
    exact ⟨_, _, _, _, _, _, _, _, _, _, _, _, _, _, _, _, _, _, _, _, _, _, _, _, _, _, _, _, _, _, _, _, _, _, _, _, _, _, _, rfl, rfl, hR, hj, hb, n, nx, hl, hz, ht, Or.inl ⟨rfl, rfl, rfl, rfl⟩⟩
  have h3' : E ≤ k := (nI_leN (by omega) (by omega)).mp h3
  have hT : TX bytes tape E := ⟨by omega, fun i hi => hbt i (by omega)⟩
  rw [ob_eq (holds_yes h1 h2 h3), if_neg one_ne0, if_pos h3, ob_eq (show Tape_begin (nI k) en at_ fa (nI E) = some (0, nI E, 0, 0) from rfl), ob_eq (show Mo_beginsText pl l0 cm sm (nI E) = some (0, nI E, 0, 0) from rfl)]
  rcases whole_both hT hE (i := 0) (by omega) w0 n0 w1 n1 w2 n2 wp np wx xx fm num many nextAt part new dep with ⟨q, F, w', n', ⟨a1', b1', a2', b2', ap', bp', ax', bx'⟩, p', num', many', nx', part', new', dp', hq, g1, g2, g3⟩ | ⟨j, n', adj, nn, ⟨a1', b1', a2', b2', ap', bp', ax', bx'⟩, num', many', nx', part', new', dp', j1, j2, n1', n12, sA, cA, g1, g2, g3, g4⟩
  · -- a fault in the whole
    have hloop : ∀ {w : Int32}, lp (LandReader_readLand_L7 bytes w) (0, 0, nI q, F, n') = some (0, nI q, F, n') := fun {w} => lp_inr ((if_pos (show (0 : Int32) ≤ 60 by decide)).trans (if_neg g2))
    have hcl : LandReader_readLand bytes (nI E) 0 0 w0 n0 w1 n1 w2 n2 wp np wx xx = some (0, nI q, F, w', n', a1', b1', a2', b2', ap', bp', ax', bx') := by
      unfold LandReader_readLand
      exact (ob_eq g1).trans ((ob_eq hloop).trans rfl)
    refine ⟨F, 0, 0, nI q, F, w', n', a1', b1', a2', b2', ap', bp', ax', bx', wells, next, ways, jars, space, throne, told, lay, now, nextTo, wm, 0, p', nI E, F, num', 0, 0, many', nx', part', new', dp', 0, ?_, ?_, RT_zero _ _, hj, hb, n, nx, hl, hz, ht, Or.inl ⟨rfl, rfl, rfl, rfl⟩⟩
    · exact (ob_eq hcl).trans (if_neg g2)
    · have hl35 : lp (Mo_land_L35 tape (nI E) many') (0, p', F, nx', 0) = some (0, p', F, nx', 0) := lp_inr (show Mo_land_L35 tape (nI E) many' (0, p', F, nx', 0) = some (.inr (0, p', F, nx', 0)) from if_pos rfl)
      refine (ob_eq g3).trans ((ob_eq hl35).trans ?_)
      exact if_pos rfl
  · obtain ⟨r, r', k1, k2, k3⟩ := lines_ok hT hE (i := j) n12 j2 sA cA g3 g4 fm
    rcases k3 with ⟨p, F, next', p', nx2, nl', rfl, hF, rfl⟩ | ⟨j', adj', next2, nx2, nl', rfl, rfl, s2, c2, r2⟩
    · have hcl : LandReader_readLand bytes (nI E) 0 0 w0 n0 w1 n1 w2 n2 wp np wx xx = some (0, p, F, nI n', next', a1', b1', a2', b2', ap', bp', ax', bx') := by
        unfold LandReader_readLand
        exact (ob_eq g1).trans ((ob_eq k1).trans rfl)
      refine ⟨F, 0, 0, p, F, nI n', next', a1', b1', a2', b2', ap', bp', ax', bx', wells, next, ways, jars, space, throne, told, lay, now, nextTo, wm, 0, p', nI E, F, num', 0, 0, many', nx2, part', new', dp', nl', ?_, ?_, RT_zero _ _, hj, hb, n, nx, hl, hz, ht, Or.inl ⟨rfl, rfl, rfl, rfl⟩⟩
      · exact (ob_eq hcl).trans (if_neg hF)
      · exact (ob_eq g2).trans ((ob_eq k2).trans (if_pos rfl))
    · have hcl : LandReader_readLand bytes (nI E) 0 0 w0 n0 w1 n1 w2 n2 wp np wx xx = some (nI E, nI j', 0, nI n', next2, a1', b1', a2', b2', ap', bp', ax', bx') := by
        unfold LandReader_readLand
        exact (ob_eq g1).trans ((ob_eq k1).trans rfl)
      have hg := nxOf_good n12 s2
      obtain ⟨xb, m1, m2⟩ := become_ok wells next c2
      obtain ⟨ways', m3, m4⟩ := measure_ok hg m2 ways
      have r20 : ∀ w, w < n' → nx2 w = nI (nxOf n' adj' w) := fun w hw => by
        have := r2 w hw
        rw [Nat.mul_zero, Nat.zero_add] at this
        exact this
      obtain ⟨now', nt', l1, l2, l3, l4⟩ := L101_eq n12 (now := now) (nextTo := nextTo) r20 (fun w hw => if_neg (by omega))
      have hce : Camp_empty jars space throne = some (filled jars 0 12, filled space 40 12, 0) := by
        unfold Camp_empty
        exact (ob_eq (Arrays_fill_eq (n := 12) (by decide) jars 0)).trans ((ob_eq (Arrays_fill_eq (n := 12) (by decide) space 40)).trans rfl)
      have hnf : Numbers_forget told = some (filled told 0 12) := by
        unfold Numbers_forget
        exact (ob_eq (Arrays_fill_eq (n := 12) (by decide) told 0)).trans rfl
      have hff : Fewest_forget lay = some 0 := rfl
      have fl : ∀ (f : Nat → Int32) (v : Int32) (w : Nat), w < 12 → filled f v 12 w = v := fun f v w hw => if_pos hw
      refine ⟨nI n', 0, nI E, nI j', 0, nI n', next2, a1', b1', a2', b2', ap', bp', ax', bx', nI n', xb, ways', filled jars 0 12, filled space 40 12, 0, filled told 0 12, 0, upd now' 24 0, nt', nI n', 0, nI j', nI E, fm, num', 0, 0, many', nx2, part', new', dp', nl', ?_, ?_, RT_zero _ _, ?_, ?_, n', nxOf n' adj', ⟨hg, rfl, rfl, m2, l2, m4⟩, fun w hw _ => fl _ _ w hw, ⟨0, rfl, Or.inr rfl⟩, Or.inr ⟨n1', fun w hw => fl _ _ w hw, rfl⟩⟩
      · exact (ob_eq hcl).trans ((if_pos rfl).trans ((ob_eq (show LandReader_result = some () from rfl)).trans ((ob_eq m1).trans ((ob_eq m3).trans ((ob_eq hce).trans ((ob_eq hnf).trans ((ob_eq hff).trans rfl)))))))
      · refine (ob_eq g2).trans ((ob_eq k2).trans ((if_neg one_ne0).trans ((gd_eq (show ix 0 4 = true from rfl)).trans ?_)))
        show (ob (lp (Mo_land_L101 (many' 0) nx2) (0, now, nextTo)) _) = _
        rw [g3]
        refine (ob_eq l1).trans ((gd_eq (show ix 24 27 = true from rfl)).trans ?_)
        show some (many' 0, upd now' 24 0, nt', many' 0, 0, nI j', nI E, fm, num', 0, 0, many', nx2, part', new', dp', nl') = _
        rw [g3]
      · refine ⟨fun w hw => ?_, fun w hw => ?_, ?_, ?_, ?_⟩
        · rw [fl _ _ w hw]; exact (upd_ne (by omega)).trans (l3 w hw).1
        · rw [fl _ _ w hw]; exact (upd_ne (by omega)).trans (l3 w hw).2
        · exact upd_at _ _ _
        · exact (upd_ne (by omega)).trans ((l4 25 (by omega)).trans hj.2.2.2.1)
        · exact (upd_ne (by omega)).trans ((l4 26 (by omega)).trans hj.2.2.2.2)
      · exact ⟨fun w hw => ⟨0, by omega, fl _ _ w hw⟩, fun w hw => ⟨40, by omega, fl _ _ w hw⟩, ⟨0, by omega, rfl⟩, hb.2.2.2⟩
