/-! THE CLASS'S SEARCH: within a limit -/
section WTH
variable {n : Nat} {ml : List M3} {s0 : Nat → Nat} {gl : (Nat → Nat) → Prop}
theorem Wa_to : ∀ {r d f : Nat} {s : Nat → Nat}, WaS ml s0 d f s → 0 < d → toG ml gl r s → ∃ s', WaS ml s0 (d + r) f s' ∧ gl s'
  | 0, d, f, s, h, _, hg => ⟨s, h, hg⟩
  | r + 1, d, f, s, h, hd, hg => by
    obtain ⟨j, j1, j2, j3⟩ := hg
    obtain ⟨s', a, b⟩ := Wa_to (r := r) (d := d + 1) (f := f) (s := goS s (mvN ml j)) ⟨s, j, h, j1, j2, rfl, fun z => by omega⟩ (by omega) j3
    exact ⟨s', by rw [show d + (r + 1) = d + 1 + r by omega]; exact a, b⟩
theorem Wa_head : ∀ {d f r : Nat} {s : Nat → Nat}, WaS ml s0 (d + 1) f s → toG ml gl r s → f < ml.length ∧ okS s0 (mvN ml f) ∧ toG ml gl (d + r) (goS s0 (mvN ml f))
  | 0, f, r, s, h, hg => by
    obtain ⟨s', j, h1, h2, h3, h4, h5⟩ := h
    have h1 : s' = s0 := h1
    subst h1
    have := h5 rfl
    subst this
    refine ⟨h2, h3, ?_⟩
    rw [Nat.zero_add, ← h4]; exact hg
  | d + 1, f, r, s, h, hg => by
    obtain ⟨s', j, h1, h2, h3, h4, h5⟩ := h
    have := Wa_head (r := r + 1) h1 ⟨j, h2, h3, by rw [← h4]; exact hg⟩
    rw [show d + 1 + r = d + (r + 1) by omega]
    exact this
end WTH
section WTI
variable {n : Nat} {nx : Nat → Nat} {both : Bool} {t due : Nat} {s0 : Nat → Nat} {lim : Nat}
/-- on a best way what is told is never more than the moves that are left -/
theorem best_left (hG : GoodG n nx) (hn : n ≤ 8) (ht : t < n) (h0 : SG n s0) {D F : Nat} (hb : bestS (mlS n nx both) s0 (fun s => due ≤ s t) D F) {d r : Nat} {s : Nat → Nat} (hd : 0 < d) (hw : WaS (mlS n nx both) s0 d F s) (hr : toG (mlS n nx both) (fun s => due ≤ s t) r s) (e : d + r = D) : lvl s0 s + leftS (nlW n nx t (n - 1)) t due s ≤ D := by
  have hm8 : ∀ j, j < (mlS n nx both).length → in8 n (mvN (mlS n nx both) j) := fun j hj => (mlS_leg (mvN_mem hj)).1
  have h1 := left_le (left_way hG ht hr (fun r' hr' z => by
    obtain ⟨s', a, b⟩ := Wa_to hw hd z
    have := hb.2 _ _ _ a b
    omega))
  rw [hw.lv hn hm8 h0]
  omega
theorem best_keep (hG : GoodG n nx) (hn : n ≤ 8) (ht : t < n) (h0 : SG n s0) {D F : Nat} (hb : bestS (mlS n nx both) s0 (fun s => due ≤ s t) (D + 1) F) (hD : D + 1 ≤ lim) (s : Nat → Nat) (x : Nat) (hw : WaS (mlS n nx both) s0 D F s) (hx : x < (mlS n nx both).length) (hok : okS s (mvN (mlS n nx both) x)) (hgl : due ≤ goS s (mvN (mlS n nx both) x) t) : KaS (mlS n nx both) s0 (keepS n nx t due s0 lim) D F s :=
  KaS.of (gl := fun s => due ≤ s t) (D := D + 1) (fun d s r h1 h2 h3 h4 _ => Nat.le_trans (best_left hG hn ht h0 hb h4 h1 h2 h3) hD) (r := 1) hw ⟨x, hx, hok, hgl⟩ rfl (by omega)
/-- the queue has come to its limit, and no goal was seen: then the next limit is no more than is needed -/
theorem QI.next {R : (Nat → Nat) → Prop} {G : List (Nat → Nat)} {f : Nat → Nat} {i NXT : Nat} (hG : GoodG n nx) (hn : n ≤ 8) (ht : t < n) (h0 : SG n s0) (hlim : 1 ≤ lim) (h : QI (mlS n nx both) s0 (keepS n nx t due s0 lim) (seenS n nx t due s0 lim NXT) G f i 0) (hall : ∀ j, j < G.length → lvl s0 (G.getD j z0S) < lim → j < i) {D F : Nat} (hb : bestS (mlS n nx both) s0 (fun s => due ≤ s t) (D + 1) F) : NXT ≤ D + 1 := by
  have hm8 : ∀ j, j < (mlS n nx both).length → in8 n (mvN (mlS n nx both) j) := fun j hj => (mlS_leg (mvN_mem hj)).1
  have hD : lim < D + 1 := by
    by_cases z : lim < D + 1
    · exact z
    · exfalso
      obtain ⟨⟨s, ⟨s', x, b1, b2, b3, b4, b5⟩, b6⟩, b7⟩ := id hb
      rw [b4] at b6
      have hka := best_keep (lim := lim) hG hn ht h0 hb (by omega) s' x b1 b2 b3 b6
      obtain ⟨j, j1, j2, -⟩ := h.way hn hm8 h0 hka (fun j hj hl => hall j hj (by omega))
      have e1 := b1.lv hn hm8 h0
      have hji := hall j j1 (by rw [j2, e1]; omega)
      have := (h.2.2.2.2.1 j x (Or.inl hji) j1 b2 (by rw [j2]; exact b3)).1.1
      rw [j2] at this
      have b6 : due ≤ goS s' (mvN (mlS n nx both) x) t := b6
      omega
  obtain ⟨s, hs1, hs2⟩ := hb.1
  obtain ⟨hF1, hF2, hF3⟩ := Wa_head (gl := fun s => due ≤ s t) (r := 0) hs1 hs2
  have key : ∀ e, e + 1 ≤ lim → (∃ s, KaS (mlS n nx both) s0 (keepS n nx t due s0 lim) (e + 1) F s ∧ toG (mlS n nx both) (fun s => due ≤ s t) (D - e) s) ∨ NXT ≤ D + 1 := by
    intro e
    induction e with
    | zero =>
      intro he
      have hw1 : WaS (mlS n nx both) s0 1 F (goS s0 (mvN (mlS n nx both) F)) := ⟨s0, F, rfl, hF1, hF2, rfl, fun _ => rfl⟩
      have h0i : 0 < i := hall 0 h.1 (by rw [(h.lvz hn hm8 h0 h.1).mpr rfl]; omega)
      obtain ⟨c1, -⟩ := h.2.2.2.2.1 0 F (Or.inl h0i) h.1 hF1 (by rw [h.2.1]; exact hF2)
      rw [h.2.1] at c1
      by_cases hk : keepS n nx t due s0 lim (goS s0 (mvN (mlS n nx both) F))
      · exact Or.inl ⟨_, ⟨s0, F, rfl, hF1, hF2, rfl, fun _ => rfl, hk⟩, hF3⟩
      · right
        have := best_left hG hn ht h0 hb (by omega) hw1 hF3 (by omega)
        have := c1.2 (by unfold keepS at hk; omega)
        omega
    | succ e ih =>
      intro he
      rcases ih (by omega) with ⟨s, k1, k2⟩ | k
      · rw [show D - e = (D - (e + 1)) + 1 by omega] at k2
        obtain ⟨x, x1, x2, x3⟩ := k2
        obtain ⟨j, j1, j2, -⟩ := h.way hn hm8 h0 k1 (fun j hj hl => hall j hj (by omega))
        have e1 := k1.way.lv hn hm8 h0
        have hji := hall j j1 (by rw [j2, e1]; omega)
        obtain ⟨c1, -⟩ := h.2.2.2.2.1 j x (Or.inl hji) j1 x1 (by rw [j2]; exact x2)
        rw [j2] at c1
        have hw : WaS (mlS n nx both) s0 (e + 1 + 1) F (goS s (mvN (mlS n nx both) x)) := ⟨s, x, k1.way, x1, x2, rfl, fun z => by omega⟩
        by_cases hk : keepS n nx t due s0 lim (goS s (mvN (mlS n nx both) x))
        · exact Or.inl ⟨_, ⟨s, x, k1, x1, x2, rfl, fun z => by omega, hk⟩, x3⟩
        · right
          have := best_left hG hn ht h0 hb (by omega) hw x3 (by omega)
          have := c1.2 (by unfold keepS at hk; omega)
          omega
      · exact Or.inr k
  rcases key (lim - 1) (by omega) with ⟨s, k1, k2⟩ | k
  · rw [show lim - 1 + 1 = lim by omega] at k1
    exfalso
    have e1 := k1.way.lv hn hm8 h0
    have hk : keepS n nx t due s0 lim s := by
      obtain ⟨l, rfl⟩ : ∃ l, lim = l + 1 := ⟨lim - 1, by omega⟩
      obtain ⟨s', j, -, -, -, -, -, hk⟩ := k1
      exact hk
    unfold keepS at hk
    have hl0 : leftS (nlW n nx t (n - 1)) t due s = 0 := by omega
    by_cases z : s t < due
    · have := left_pos (n := n) (nx := nx) z
      omega
    · have := hb.2 _ _ _ k1.way (show due ≤ s t by omega)
      omega
  · exact k
end WTI
section GWL
variable {n : Nat} {nx : Nat → Nat} {both : Bool} {t due : Nat} {s0 : Nat → Nat} {lim nw nseen nlay : Nat} {G : List (Nat → Nat)} {f : Nat → Nat} {i m NXT : Nat}
variable {below tA tB gv ne wa row : Nat → Int32}
/-- all moves of one -/
theorem goFrom_ok (hG : GoodG n nx) (hn : n ≤ 8) (ht : t < n) (hd : due ≤ 40) (h0 : SG n s0) (hb : RBk below) (hM : MLr (mlS n nx both) tA tB gv (nI (mlS n nx both).length)) (hN : NLr (nlW n nx t (n - 1)) ne wa (nI (nlW n nx t (n - 1)).length))
    (hlim : lim < 1000) (hnw : nw ≤ nseen) (hs1 : rbS n (totS s0 8 + 1) ≤ 32 * nw) (hs2 : nseen < 2 ^ 26) (hl1 : 225 + rbS n (totS s0 8 - 1) ≤ nlay) (hl2 : nlay < 2 ^ 31)
    {σ : T5c} (h : CQ n nx both t due s0 lim nw G f i 0 NXT σ) (hi : i < G.length) :
    ∃ x G' f' NXT' σ' row', Search_goFrom below tA tB gv ne wa row (nI (mlS n nx both).length) σ.1 nseen σ.2.1 nlay σ.2.2.1 nlay σ.2.2.2.1 (nI n) (nI (nlW n nx t (n - 1)).length) (nI t) (nI due) (nI lim) σ.2.2.2.2 (nI i) (nI (lvl s0 (G.getD i z0S) + 1)) = some (x, row', σ') ∧ (∃ H, G' = G ++ H ∧ ∀ s ∈ H, lvl s0 s = lvl s0 (G.getD i z0S) + 1) ∧
      ((x = -1 ∧ CQ n nx both t due s0 lim nw G' f' (i + 1) 0 NXT' σ') ∨ (∃ m, x = nI m ∧ m < (mlS n nx both).length ∧ CQ n nx both t due s0 lim nw G' f' i m NXT' σ' ∧ okS (G.getD i z0S) (mvN (mlS n nx both) m) ∧ due ≤ goS (G.getD i z0S) (mvN (mlS n nx both) m) t)) := by
  have hm8 : ∀ j, j < (mlS n nx both).length → in8 n (mvN (mlS n nx both) j) := fun j hj => (mlS_leg (mvN_mem hj)).1
  have hml := mlS_len hG hn both
  have hfit : G.length ≤ nlay := Nat.le_trans (h.1.fits hn hm8 hml h0 h.2.1) hl1
  obtain ⟨row1, u1, u2⟩ := unpack_ok hn row (h.1.good hn hm8 h0 hi)
  have hgi : ∀ H, (G ++ H).getD i z0S = G.getD i z0S := fun H => gF_app hi
  obtain ⟨r, r1, r2⟩ := lp_inv (f := Search_goFrom_L12 (nI i) (nI (lvl s0 (G.getD i z0S) + 1)) below tA tB gv ne wa (nI (mlS n nx both).length) nseen nlay nlay (nI n) (nI (nlW n nx t (n - 1)).length) (nI t) (nI due) (nI lim))
    (fun k s => s.1 = nI k ∧ ∃ G' f' NXT', CQ n nx both t due s0 lim nw G' f' i k NXT' s.2.2 ∧ rowIs n s.2.1 (G.getD i z0S) ∧ ∃ H, G' = G ++ H ∧ ∀ s ∈ H, lvl s0 s = lvl s0 (G.getD i z0S) + 1) (mlS n nx both).length
    (fun r => ∃ G' f' NXT', (∃ H, G' = G ++ H ∧ ∀ s ∈ H, lvl s0 s = lvl s0 (G.getD i z0S) + 1) ∧ ((∃ row' σ', r = Sum.inr (row', σ') ∧ CQ n nx both t due s0 lim nw G' f' (i + 1) 0 NXT' σ') ∨ (∃ m row' σ', r = Sum.inl (nI m, row', σ') ∧ m < (mlS n nx both).length ∧ CQ n nx both t due s0 lim nw G' f' i m NXT' σ' ∧ okS (G.getD i z0S) (mvN (mlS n nx both) m) ∧ due ≤ goS (G.getD i z0S) (mvN (mlS n nx both) m) t)))
    (by
      rintro k ⟨s1, row', σ'⟩ hk ⟨e1, G', f', NXT', e2, e3, H, rfl, e5⟩
      have e1 : s1 = nI k := e1
      subst e1
      have hil : i < (G ++ H).length := by rw [List.length_append]; omega
      have hst := goFrom_step (row := row') hG hn ht hd h0 hb hM hN hlim hnw hs1 hs2 hl1 hl2 e2 hil hk (by rw [hgi]; exact e3)
      rw [hgi] at hst
      rcases hst with ⟨G2, f2, N2, σ2, row2, a1, a2, a3, H2, rfl, a5⟩ | ⟨row2, a1, a2, a3⟩
      · left
        refine ⟨(nI (k + 1), row2, σ2), a1, rfl, _, f2, N2, a2, a3, H ++ H2, by simp, fun s hs => ?_⟩
        rcases List.mem_append.mp hs with z | z
        · exact e5 s z
        · exact a5 s z
      · right
        exact ⟨Sum.inl (nI k, row2, σ'), a1, G ++ H, f', NXT', ⟨H, rfl, e5⟩, Or.inr ⟨k, row2, σ', rfl, hk, e2, a2, a3⟩⟩)
    (by
      rintro ⟨s1, row', σ'⟩ ⟨e1, G', f', NXT', e2, e3, H, rfl, e5⟩
      have e1 : s1 = nI (mlS n nx both).length := e1
      subst e1
      have hil : i < (G ++ H).length := by rw [List.length_append]; omega
      refine ⟨Sum.inr (row', σ'), ?_, G ++ H, f', NXT', ⟨H, rfl, e5⟩, Or.inl ⟨row', σ', rfl, e2.1.pop hn hm8 h0 hil, e2.2⟩⟩
      unfold Search_goFrom_L12
      exact if_neg (fun z => by have := (nI_ltN (by omega) (by omega)).mp z; omega))
    0 (0, row1, σ) (Nat.zero_le _) ⟨rfl, G, f, NXT, h, u2, [], by simp, by simp⟩
  have hhead : Search_goFrom below tA tB gv ne wa row (nI (mlS n nx both).length) σ.1 nseen σ.2.1 nlay σ.2.2.1 nlay σ.2.2.2.1 (nI n) (nI (nlW n nx t (n - 1)).length) (nI t) (nI due) (nI lim) σ.2.2.2.2 (nI i) (nI (lvl s0 (G.getD i z0S) + 1)) = sm r (fun x3 => some x3) (fun x3 => some (-1, x3)) := by
    unfold Search_goFrom
    rw [gd_eq (ixN (by omega) hl2), nI_clamp (show i < 2 ^ 31 by omega), h.2.2.2.1 i hi, ob_eq u1]
    show ob (lp _ (0, row1, σ)) _ = _
    rw [ob_eq r1]
  rw [hhead]
  obtain ⟨G', f', NXT', r3, r4⟩ := r2
  rcases r4 with ⟨row', σ', rfl, c1⟩ | ⟨m, row', σ', rfl, c1, c2, c3, c4⟩
  · exact ⟨-1, G', f', NXT', σ', row', rfl, r3, Or.inl ⟨rfl, c1⟩⟩
  · exact ⟨nI m, G', f', NXT', σ', row', rfl, r3, Or.inr ⟨m, rfl, c1, c2, c3, c4⟩⟩
end GWL
