/-! THE CLASS'S SEARCH: all moves of a laying -/
theorem jB_two : ∀ k : Nat, k < 256 → vp_nar .byte (jB (nI k)) = jB (nI k) := by decide +kernel
theorem jB_255 : ∀ k : Nat, k < 256 → jB (nI k) &&& 255 = nI k := by decide +kernel
def rowIs (n : Nat) (row : Nat → Int32) (g : Nat → Nat) : Prop := ∀ w, w < n → row w = nI (g w)
theorem rowIs.lv {n : Nat} {row : Nat → Int32} {g : Nat → Nat} (h : rowIs n row g) {a : Nat} (ha : a < n) (h0 : 0 < g a) : rowIs n (upd row a (row a - 1)) (lvS g a) := fun w hw => by
  unfold lvS
  by_cases e : w = a
  · subst e
    rw [upd_at, atS_at, h w hw]
    exact nI_subN (b := 1) h0
  · rw [upd_ne e, atS_ne e, h w hw]
theorem rowIs.ad {n : Nat} {row : Nat → Int32} {g : Nat → Nat} (h : rowIs n row g) {a : Nat} (ha : a < n) : rowIs n (upd row a (row a + 1)) (adS g a) := fun w hw => by
  unfold adS
  by_cases e : w = a
  · subst e
    rw [upd_at, atS_at, h w hw]
    exact nI_ad _ 1
  · rw [upd_ne e, atS_ne e, h w hw]
/-- the row behind the move -/
def rowGo (row : Nat → Int32) (a b c : Nat) : Nat → Int32 :=
  upd (upd (upd row a (row a - 1)) b ((upd row a (row a - 1)) b - 1)) c ((upd (upd row a (row a - 1)) b ((upd row a (row a - 1)) b - 1)) c + 1)
/-- and back -/
def rowBk (row : Nat → Int32) (a b c : Nat) : Nat → Int32 :=
  upd (upd (upd row a (row a + 1)) b ((upd row a (row a + 1)) b + 1)) c ((upd (upd row a (row a + 1)) b ((upd row a (row a + 1)) b + 1)) c - 1)
theorem rowGo_is {n : Nat} {row : Nat → Int32} {g : Nat → Nat} (h : rowIs n row g) {m : M3} (hm : in8 n m) (hok : okS g m) : rowIs n (rowGo row m.1 m.2.1 m.2.2) (goS g m) :=
  ((h.lv hm.1 hok.1).lv hm.2.1 hok.2).ad hm.2.2
theorem rowBk_is {n : Nat} {row : Nat → Int32} {g : Nat → Nat} {m : M3} (h : rowIs n row (goS g m)) (hm : in8 n m) (hok : okS g m) : rowIs n (rowBk row m.1 m.2.1 m.2.2) g := by
  have h1 := (h.ad hm.1).ad hm.2.1
  have h0 : 0 < adS (adS (goS g m) m.1) m.2.1 m.2.2 := by
    rw [ad_val, ad_val]
    have := go_val hok m.2.2
    have e : eS m.2.2 m.2.2 = 1 := atS_at _ _ _
    omega
  have h2 := h1.lv hm.2.2 h0
  intro w hw
  have h3 := h2 w hw
  have h4 : lvS (adS (adS (goS g m) m.1) m.2.1) m.2.2 w = g w := by
    have e1 := lv_val h0 w
    rw [ad_val, ad_val] at e1
    have e2 := go_val hok w
    omega
  rw [h4] at h3
  exact h3
section GOF
variable {v1 v2 v3 : Int32} {below tA tB gv ne wa row : Nat → Int32} {mv : Int32} {seen lay st : Nat → Int32} {nseen nlay : Nat} {found wells re aim due lim nxt : Int32} {a b c : Nat}
theorem J182_eq (ha : a < 8) (hb : b < 8) (hc : c < 8) : Search_goFrom_L12_J182 v1 v2 v3 (nI a) (nI b) (nI c) below tA tB gv ne wa row mv seen nseen lay nlay st nlay found wells re aim due lim nxt = some (.inl (v3 + 1, rowBk row a b c, seen, lay, st, found, nxt)) := by
  unfold Search_goFrom_L12_J182
  have ia : ix (nI a) 8 = true := ixN ha (by omega)
  have ib : ix (nI b) 8 = true := ixN hb (by omega)
  have ic : ix (nI c) 8 = true := ixN hc (by omega)
  rw [gd_eq ia, gd_eq ia, gd_eq ib, gd_eq ib, gd_eq ic, gd_eq ic, nI_clamp (show a < 2 ^ 31 by omega), nI_clamp (show b < 2 ^ 31 by omega), nI_clamp (show c < 2 ^ 31 by omega)]
  rfl
theorem J87_eq (ha : a < 8) (hb : b < 8) (hc : c < 8) : Search_goFrom_L12_J87 v1 v2 v3 (nI a) (nI b) (nI c) below tA tB gv ne wa row mv seen nseen lay nlay st nlay found wells re aim due lim nxt =
    ob (Search_leastMoves ne wa (rowGo row a b c) re aim due) fun x7 => if x7 = 0 then some (.inr (.inl (v3, rowGo row a b c, seen, lay, st, found, nxt))) else if v2 + x7 ≤ lim then (if v2 = 1 then ob (Search_addIfNew below (rowGo row a b c) seen nseen lay nlay st nlay found wells (jB v3)) (fun x1 => some (.inl (v3 + 1, rowBk (rowGo row a b c) a b c, x1.1, x1.2.1, x1.2.2.1, x1.2.2.2, nxt))) else gd (ix v1 nlay) (ob (Search_addIfNew below (rowGo row a b c) seen nseen lay nlay st nlay found wells (st v1.toNatClampNeg)) (fun x1 => some (.inl (v3 + 1, rowBk (rowGo row a b c) a b c, x1.1, x1.2.1, x1.2.2.1, x1.2.2.2, nxt)))))
      else some (.inl (v3 + 1, rowBk (rowGo row a b c) a b c, seen, lay, st, found, jmin nxt (v2 + x7))) := by
  unfold Search_goFrom_L12_J87 Search_goFrom_L12_J161
  have ia : ix (nI a) 8 = true := ixN ha (by omega)
  have ib : ix (nI b) 8 = true := ixN hb (by omega)
  have ic : ix (nI c) 8 = true := ixN hc (by omega)
  simp only [J182_eq ha hb hc]
  rw [gd_eq ia, gd_eq ia, gd_eq ib, gd_eq ib, gd_eq ic, gd_eq ic, nI_clamp (show a < 2 ^ 31 by omega), nI_clamp (show b < 2 ^ 31 by omega), nI_clamp (show c < 2 ^ 31 by omega)]
  rfl
end GOF
def keepS (n : Nat) (nx : Nat → Nat) (t due : Nat) (s0 : Nat → Nat) (lim : Nat) (s : Nat → Nat) : Prop := lvl s0 s + leftS (nlW n nx t (n - 1)) t due s ≤ lim
def seenS (n : Nat) (nx : Nat → Nat) (t due : Nat) (s0 : Nat → Nat) (lim NXT : Nat) (s : Nat → Nat) : Prop := s t < due ∧ (lim < lvl s0 s + leftS (nlW n nx t (n - 1)) t due s → NXT ≤ lvl s0 s + leftS (nlW n nx t (n - 1)) t due s)
abbrev T5c := (Nat → Int32) × (Nat → Int32) × (Nat → Int32) × Int32 × Int32
/-- the queue as the class keeps it -/
def CQ (n : Nat) (nx : Nat → Nat) (both : Bool) (t due : Nat) (s0 : Nat → Nat) (lim nw : Nat) (G : List (Nat → Nat)) (f : Nat → Nat) (i m NXT : Nat) (σ : T5c) : Prop :=
  QI (mlS n nx both) s0 (keepS n nx t due s0 lim) (seenS n nx t due s0 lim NXT) G f i m ∧
  (∀ j j', j < j' → j' < G.length → ¬ G.getD j z0S = G.getD j' z0S) ∧
  (∀ j, j < G.length → G.getD j z0S t < due) ∧
  (∀ j, j < G.length → σ.2.1 j = cdS (G.getD j z0S)) ∧
  (∀ j, 0 < j → j < G.length → f j < 224 ∧ σ.2.2.1 j = jB (nI (f j))) ∧
  (∀ r, r < 32 * nw → (bitS σ.1 r = true ↔ ∃ j, 0 < j ∧ j < G.length ∧ rkS (G.getD j z0S) n n = r)) ∧
  σ.2.2.2.1 = nI G.length ∧ σ.2.2.2.2 = nI NXT ∧ lim < NXT ∧ (NXT = 1000 ∨ NXT ≤ 11)
section GOS
variable {n : Nat} {nx : Nat → Nat} {both : Bool} {t due : Nat} {s0 : Nat → Nat} {lim nw nseen nlay : Nat} {G : List (Nat → Nat)} {f : Nat → Nat} {i m NXT : Nat}
variable {below tA tB gv ne wa row : Nat → Int32}
theorem goFrom_step (hG : GoodG n nx) (hn : n ≤ 8) (ht : t < n) (hd : due ≤ 40) (h0 : SG n s0) (hb : RBk below) (hM : MLr (mlS n nx both) tA tB gv (nI (mlS n nx both).length)) (hN : NLr (nlW n nx t (n - 1)) ne wa (nI (nlW n nx t (n - 1)).length))
    (hlim : lim < 1000) (hnw : nw ≤ nseen) (hs1 : rbS n (totS s0 8 + 1) ≤ 32 * nw) (hs2 : nseen < 2 ^ 26) (hl1 : 225 + rbS n (totS s0 8 - 1) ≤ nlay) (hl2 : nlay < 2 ^ 31)
    {σ : T5c} (h : CQ n nx both t due s0 lim nw G f i m NXT σ) (hi : i < G.length) (hm : m < (mlS n nx both).length) (hr : rowIs n row (G.getD i z0S)) :
    (∃ G' f' NXT' σ' row', Search_goFrom_L12 (nI i) (nI (lvl s0 (G.getD i z0S) + 1)) below tA tB gv ne wa (nI (mlS n nx both).length) nseen nlay nlay (nI n) (nI (nlW n nx t (n - 1)).length) (nI t) (nI due) (nI lim) (nI m, row, σ) = some (.inl (nI (m + 1), row', σ')) ∧ CQ n nx both t due s0 lim nw G' f' i (m + 1) NXT' σ' ∧ rowIs n row' (G.getD i z0S) ∧ ∃ H, G' = G ++ H ∧ ∀ s ∈ H, lvl s0 s = lvl s0 (G.getD i z0S) + 1) ∨
    (∃ row', Search_goFrom_L12 (nI i) (nI (lvl s0 (G.getD i z0S) + 1)) below tA tB gv ne wa (nI (mlS n nx both).length) nseen nlay nlay (nI n) (nI (nlW n nx t (n - 1)).length) (nI t) (nI due) (nI lim) (nI m, row, σ) = some (.inr (.inl (nI m, row', σ))) ∧ okS (G.getD i z0S) (mvN (mlS n nx both) m) ∧ due ≤ goS (G.getD i z0S) (mvN (mlS n nx both) m) t) := by
  have hm8 : ∀ j, j < (mlS n nx both).length → in8 n (mvN (mlS n nx both) j) := fun j hj => (mlS_leg (mvN_mem hj)).1
  have hml := mlS_len hG hn both
  obtain ⟨seen, lay, st, found, nxt⟩ := σ
  obtain ⟨q1, q2, q3, q4, q5, q6, q7, q8, q9, q10⟩ := id h
  have q7 : found = nI G.length := q7
  have q8 : nxt = nI NXT := q8
  have hgi := q1.good hn hm8 h0 hi
  obtain ⟨in1, in2, in3⟩ := hm8 m hm
  obtain ⟨k1, k2, k3⟩ := hM.2 m hm
  have hfit : G.length ≤ nlay := Nat.le_trans (q1.fits hn hm8 hml h0 q2) hl1
  generalize hg : G.getD i z0S = g at *
  have hlv12 : ∀ x, lvl s0 x ≤ 12 := fun x => by unfold lvl; have := h0.2; omega
  have hg16 := hgi.dig
  -- the moves that aren't done
  have hskip : ¬ okS g (mvN (mlS n nx both) m) → CQ n nx both t due s0 lim nw G f i (m + 1) NXT (seen, lay, st, found, nxt) := fun hno =>
    ⟨q1.skip (fun _ _ z => absurd (by rw [hg] at z; exact z) hno), q2, q3, q4, q5, q6, q7, q8, q9, q10⟩
  generalize hmm : mvN (mlS n nx both) m = mm at *
  obtain ⟨a, b, c⟩ := mm
  have in1 : a < n := in1
  have in2 : b < n := in2
  have in3 : c < n := in3
  have k1 : tA m = nI a := k1
  have k2 : tB m = nI b := k2
  have k3 : gv m = nI c := k3
  have hga := hg16 a (by omega)
  have hgb := hg16 b (by omega)
  have hhead : Search_goFrom_L12 (nI i) (nI (lvl s0 g + 1)) below tA tB gv ne wa (nI (mlS n nx both).length) nseen nlay nlay (nI n) (nI (nlW n nx t (n - 1)).length) (nI t) (nI due) (nI lim) (nI m, row, seen, lay, st, found, nxt) =
      if nI (g a) < 1 then some (.inl (nI m + 1, row, seen, lay, st, found, nxt)) else if nI (g b) < 1 then some (.inl (nI m + 1, row, seen, lay, st, found, nxt)) else if nI a = nI b then (if nI (g a) < 2 then some (.inl (nI m + 1, row, seen, lay, st, found, nxt)) else Search_goFrom_L12_J87 (nI i) (nI (lvl s0 g + 1)) (nI m) (nI a) (nI b) (nI c) below tA tB gv ne wa row (nI (mlS n nx both).length) seen nseen lay nlay st nlay found (nI n) (nI (nlW n nx t (n - 1)).length) (nI t) (nI due) (nI lim) nxt) else Search_goFrom_L12_J87 (nI i) (nI (lvl s0 g + 1)) (nI m) (nI a) (nI b) (nI c) below tA tB gv ne wa row (nI (mlS n nx both).length) seen nseen lay nlay st nlay found (nI n) (nI (nlW n nx t (n - 1)).length) (nI t) (nI due) (nI lim) nxt := by
    unfold Search_goFrom_L12
    dsimp only
    have im : ix (nI m) 224 = true := ixN (by omega) (by omega)
    rw [if_pos ((nI_ltN (by omega) (by omega)).mpr hm), gd_eq im, gd_eq im, gd_eq im, nI_clamp (show m < 2 ^ 31 by omega), k1, k2, k3, gd_eq (ixN (show a < 8 by omega) (by omega)), gd_eq (ixN (show b < 8 by omega) (by omega)), gd_eq (ixN (show a < 8 by omega) (by omega)), nI_clamp (show a < 2 ^ 31 by omega), nI_clamp (show b < 2 ^ 31 by omega)]
    simp only [hr a in1, hr b in2]
    rfl
  have goOn : okS g (a, b, c) → (Search_goFrom_L12 (nI i) (nI (lvl s0 g + 1)) below tA tB gv ne wa (nI (mlS n nx both).length) nseen nlay nlay (nI n) (nI (nlW n nx t (n - 1)).length) (nI t) (nI due) (nI lim) (nI m, row, seen, lay, st, found, nxt) = Search_goFrom_L12_J87 (nI i) (nI (lvl s0 g + 1)) (nI m) (nI a) (nI b) (nI c) below tA tB gv ne wa row (nI (mlS n nx both).length) seen nseen lay nlay st nlay found (nI n) (nI (nlW n nx t (n - 1)).length) (nI t) (nI due) (nI lim) nxt) := fun hok => by
    have h1 : 0 < g a := hok.1
    have h2 : 0 < g b := by
      by_cases e : b = a
      · rw [e]; exact h1
      · exact ((ok_two e).mp hok).2
    rw [hhead, if_neg (fun z => by have := (nI_ltN (b := 1) (by omega) (by omega)).mp z; omega), if_neg (fun z => by have := (nI_ltN (b := 1) (by omega) (by omega)).mp z; omega)]
    by_cases e : nI a = nI b
    · have e2 : a = b := (nI_inj (by omega) (by omega)).mp e
      subst e2
      have h3 := ok_same.mp hok
      rw [if_pos e, if_neg (fun z => by have := (nI_ltN (b := 2) (by omega) (by omega)).mp z; omega)]
    · rw [if_neg e]
  by_cases hok : okS g (a, b, c)
  · rw [goOn hok, J87_eq (by omega) (by omega) (by omega)]
    have hgo : rowIs n (rowGo row a b c) (goS g (a, b, c)) := rowGo_is (m := (a, b, c)) hr ⟨in1, in2, in3⟩ hok
    have hbk : rowIs n (rowBk (rowGo row a b c) a b c) g := rowBk_is (m := (a, b, c)) hgo ⟨in1, in2, in3⟩ hok
    have hSG : SG n (goS g (a, b, c)) := go_SG hn hgi ⟨in1, in2, in3⟩ hok
    have hgt : g t < due := by rw [← hg]; exact q3 i hi
    have hvt := go_val hok t
    have het : eS c t ≤ 1 := by rw [e_val]; split <;> omega
    have hst : goS g (a, b, c) t ≤ due := by
      have hvt : goS g (a, b, c) t + eS a t + eS b t = g t + eS c t := hvt
      omega
    have hleast : Search_leastMoves ne wa (rowGo row a b c) (nI (nlW n nx t (n - 1)).length) (nI t) (nI due) = some (nI (leftS (nlW n nx t (n - 1)) t due (goS g (a, b, c)))) :=
      least_ok hn hN (Nat.le_trans (nlW_len _) hn) (fun p hp => by have := nlW_mem hp; exact ⟨this.1, this.2.1, by omega⟩) hSG hgo ht hd hst
    rw [ob_eq hleast]
    by_cases hgoal : due ≤ goS g (a, b, c) t
    · right
      rw [left_zero hgoal]
      exact ⟨rowGo row a b c, if_pos rfl, hok, hgoal⟩
    · left
      have hlp := left_pos (n := n) (nx := nx) (t := t) (due := due) (g := goS g (a, b, c)) (by omega)
      have hsm := left_small (n := n) (nx := nx) (t := t) (due := due) (g := goS g (a, b, c)) hn (by omega)
      have hgtot := hSG.2
      have htot := go_tot hn (m := (a, b, c)) ⟨in1, in2, in3⟩ hok
      have elv : lvl s0 (goS g (a, b, c)) = lvl s0 g + 1 := by
        obtain ⟨d, hd1, -⟩ := q1.psAt hi
        rw [hg] at hd1
        have e1 := (hd1.tot hn hm8 h0).2
        unfold lvl; omega
      have hlvg := hlv12 g
      have hiz := q1.lvz hn hm8 h0 hi
      rw [hg] at hiz
      generalize hL : leftS (nlW n nx t (n - 1)) t due (goS g (a, b, c)) = L at *
      have hL1 : L ≤ 1000 := by omega
      have hseen : seenS n nx t due s0 lim (min NXT (lvl s0 g + 1 + L)) (goS g (a, b, c)) := ⟨by omega, fun _ => by rw [elv, hL]; exact Nat.min_le_right _ _⟩
      rw [if_neg (fun z => by have := (nI_inj (b := 0) (by omega) (by omega)).mp z; omega), nI_ad]
      by_cases hk : lvl s0 g + 1 + L ≤ lim
      · rw [if_pos ((nI_leN (by omega) (by omega)).mpr hk)]
        have hkeep : keepS n nx t due s0 lim (goS g (a, b, c)) := by unfold keepS; rw [elv, hL]; exact hk
        have hseen2 : seenS n nx t due s0 lim NXT (goS g (a, b, c)) := ⟨by omega, fun z => by rw [elv, hL] at z; omega⟩
        have hrk : rkS (goS g (a, b, c)) n n < 32 * nw := Nat.lt_of_lt_of_le (rk_lt hn hSG (s := totS s0 8 + 1) (by
          obtain ⟨d, hd1, -⟩ := q1.psAt hi
          rw [hg] at hd1
          have e1 := (hd1.tot hn hm8 h0).2
          omega)) hs1
        -- what is stored as the first move
        have hX : ∃ X : Int32, X = jB (nI (if i = 0 then m else f i)) ∧ (if nI (lvl s0 g + 1) = 1 then ob (Search_addIfNew below (rowGo row a b c) seen nseen lay nlay st nlay found (nI n) (jB (nI m))) (fun x1 => some (Sum.inl (nI m + 1, rowBk (rowGo row a b c) a b c, x1.1, x1.2.1, x1.2.2.1, x1.2.2.2, nxt))) else gd (ix (nI i) nlay) (ob (Search_addIfNew below (rowGo row a b c) seen nseen lay nlay st nlay found (nI n) (st (nI i).toNatClampNeg)) (fun x1 => some (Sum.inl (nI m + 1, rowBk (rowGo row a b c) a b c, x1.1, x1.2.1, x1.2.2.1, x1.2.2.2, nxt))))) = (ob (Search_addIfNew below (rowGo row a b c) seen nseen lay nlay st nlay found (nI n) X) (fun x1 => some (Sum.inl (nI m + 1, rowBk (rowGo row a b c) a b c, x1.1, x1.2.1, x1.2.2.1, x1.2.2.2, nxt))) : Option ((Int32 × (Nat → Int32) × T5c) ⊕ (Int32 × (Nat → Int32) × T5c) ⊕ ((Nat → Int32) × T5c))) := by
          refine ⟨_, rfl, ?_⟩
          by_cases z : i = 0
          · have : lvl s0 g = 0 := hiz.mpr z
            rw [if_pos z, if_pos (by rw [this]; rfl)]
          · have : ¬ lvl s0 g = 0 := fun y => z (hiz.mp y)
            rw [if_neg z, if_neg (fun y => by have := (nI_inj (b := 1) (by omega) (by omega)).mp y; omega), gd_eq (ixN (by omega) (by omega)), nI_clamp (show i < 2 ^ 31 by omega)]
            have := (q5 i (by omega) hi).2
            have this : st i = jB (nI (f i)) := this
            rw [this]
        obtain ⟨X, hX1, hX2⟩ := hX
        have hF : (if i = 0 then m else f i) < 224 := by
          by_cases z : i = 0
          · rw [if_pos z]; omega
          · rw [if_neg z]; exact (q5 i (by omega) hi).1
        cases hbit : bitS seen (rkS (goS g (a, b, c)) n n) with
        | true =>
          obtain ⟨j, j1, j2, j3⟩ := (q6 _ hrk).mp hbit
          have hj := rk_eq (q1.good hn hm8 h0 j2) hSG j3
          refine ⟨G, f, NXT, (seen, lay, st, found, nxt), rowBk (rowGo row a b c) a b c, hX2.trans ?_, ⟨?_, q2, q3, q4, q5, q6, q7, q8, q9, q10⟩, hbk, [], by simp, by simp⟩
          · rw [q7, ob_eq ((add_head hb hn hSG hgo (show rkS (goS g (a, b, c)) n n < 32 * nseen by omega) hs2).trans (by rw [hbit, if_neg (by decide)])), show nI m + 1 = nI (m + 1) from nI_ad m 1]
          · exact q1.old hn hm8 h0 hm hi (by rw [hg, hmm]; exact hok) (by rw [hg, hmm]; exact hseen2) (by rw [hg, hmm, ← hj]; exact gF_mem j2)
        | false =>
          have hnew := q1.new hn hm8 h0 hm hi (by rw [hg, hmm]; exact hok) (by rw [hg, hmm]; exact hseen2)
          rw [hg, hmm] at hnew
          have hne0 : ∀ j, j < G.length → ¬ G.getD j z0S = goS g (a, b, c) := fun j hj e => by
            by_cases z : j = 0
            · have hz := q1.lvz hn hm8 h0 hj
              rw [e, elv] at hz
              omega
            · have := (q6 _ hrk).mpr ⟨j, by omega, hj, by rw [e]⟩
              have this : bitS seen (rkS (goS g (a, b, c)) n n) = true := this
              rw [hbit] at this
              cases this
          have hlen : (G ++ [goS g (a, b, c)]).length = G.length + 1 := by simp
          have hd2 : ∀ j j', j < j' → j' < (G ++ [goS g (a, b, c)]).length → ¬ (G ++ [goS g (a, b, c)]).getD j z0S = (G ++ [goS g (a, b, c)]).getD j' z0S := fun j j' h1 h2 => by
            rw [hlen] at h2
            rw [gF_app (show j < G.length by omega)]
            by_cases e : j' = G.length
            · subst e
              rw [gF_new]
              exact hne0 j (by omega)
            · rw [gF_app (by omega)]
              exact q2 j j' h1 (by omega)
          have hroom := Nat.le_trans (hnew.fits hn hm8 hml h0 hd2) hl1
          rw [hlen] at hroom
          refine ⟨G ++ [goS g (a, b, c)], newF f G.length (if i = 0 then m else f i), NXT, (upd seen (rkS (goS g (a, b, c)) n n / 32) (seen (rkS (goS g (a, b, c)) n n / 32) ||| nI (2 ^ (rkS (goS g (a, b, c)) n n % 32))), upd lay G.length (cdS (goS g (a, b, c))), upd st G.length (jB (nI (if i = 0 then m else f i))), nI (G.length + 1), nxt), rowBk (rowGo row a b c) a b c, hX2.trans ?_, ⟨hnew, hd2, fun j hj => ?_, fun j hj => ?_, fun j j1 hj => ?_, fun r hr => ?_, by rw [hlen], q8, q9, q10⟩, hbk, [goS g (a, b, c)], rfl, fun s hs => by rw [List.mem_singleton.mp hs]; exact elv⟩
          · rw [q7, ob_eq ((add_head hb hn hSG hgo (show rkS (goS g (a, b, c)) n n < 32 * nseen by omega) hs2).trans (by rw [hbit, if_pos rfl, if_pos ((nI_ltN (by omega) (by omega)).mpr (by omega)), gd_eq (ixN (by omega) (by omega)), gd_eq (ixN (by omega) (by omega)), nI_clamp (show G.length < 2 ^ 31 by omega), hX1, jB_two _ (by omega)])), show nI m + 1 = nI (m + 1) from nI_ad m 1, show nI G.length + 1 = nI (G.length + 1) from nI_ad _ 1]
          · rw [hlen] at hj
            by_cases e : j = G.length
            · subst e; rw [gF_new]; omega
            · rw [gF_app (by omega)]; exact q3 j (by omega)
          · rw [hlen] at hj
            show upd lay G.length _ j = _
            by_cases e : j = G.length
            · subst e; rw [gF_new, upd_at]
            · rw [gF_app (by omega), upd_ne e]; exact q4 j (by omega)
          · rw [hlen] at hj
            show _ ∧ upd st G.length _ j = _
            by_cases e : j = G.length
            · subst e; rw [newF_at, upd_at]; exact ⟨hF, rfl⟩
            · rw [newF_lt (by omega), upd_ne e]; exact q5 j j1 (by omega)
          · show bitS (upd seen _ _) r = true ↔ _
            rw [bitS_set, Bool.or_eq_true, decide_eq_true_iff]
            constructor
            · rintro (z | z)
              · obtain ⟨j, j1, j2, j3⟩ := (q6 r hr).mp z
                exact ⟨j, j1, by rw [hlen]; omega, by rw [gF_app j2]; exact j3⟩
              · exact ⟨G.length, by omega, by rw [hlen]; omega, by rw [gF_new]; exact z.symm⟩
            · rintro ⟨j, j1, j2, j3⟩
              rw [hlen] at j2
              by_cases e : j = G.length
              · subst e; rw [gF_new] at j3; exact Or.inr j3.symm
              · rw [gF_app (by omega)] at j3
                exact Or.inl ((q6 r hr).mpr ⟨j, j1, by omega, j3⟩)
      · rw [if_neg (fun z => hk ((nI_leN (by omega) (by omega)).mp z))]
        refine ⟨G, f, min NXT (lvl s0 g + 1 + L), (seen, lay, st, found, nI (min NXT (lvl s0 g + 1 + L))), rowBk (rowGo row a b c) a b c, ?_, ⟨(q1.weak (R' := seenS n nx t due s0 lim (min NXT (lvl s0 g + 1 + L))) (fun s z => ⟨z.1, fun y => Nat.le_trans (Nat.min_le_left _ _) (z.2 y)⟩)).skip (fun _ _ _ => by rw [hg, hmm]; exact ⟨hseen, fun z => by unfold keepS at z; rw [elv, hL] at z; exact hk z⟩), q2, q3, q4, q5, q6, q7, rfl, ?_, ?_⟩, hbk, [], by simp, by simp⟩
        · rw [q8, jmin_nI (by omega) (by omega), show nI m + 1 = nI (m + 1) from nI_ad m 1]
        · have hmd : min NXT (lvl s0 g + 1 + L) = if NXT ≤ lvl s0 g + 1 + L then NXT else lvl s0 g + 1 + L := Nat.min_def
          rw [hmd]
          split <;> omega
        · have hmd : min NXT (lvl s0 g + 1 + L) = if NXT ≤ lvl s0 g + 1 + L then NXT else lvl s0 g + 1 + L := Nat.min_def
          rw [hmd]
          have e1 : lvl s0 (goS g (a, b, c)) + totS (goS g (a, b, c)) 8 = totS s0 8 := by
            obtain ⟨d, hd1, -⟩ := q1.psAt hi
            rw [hg] at hd1
            have e1 := (hd1.tot hn hm8 h0).2
            unfold lvl; omega
          have := h0.2
          split <;> omega
  · left
    refine ⟨G, f, NXT, (seen, lay, st, found, nxt), row, ?_, hskip hok, hr, [], by simp, by simp⟩
    rw [hhead, show nI m + 1 = nI (m + 1) from nI_ad m 1]
    by_cases h1 : nI (g a) < 1
    · rw [if_pos h1]
    · rw [if_neg h1]
      by_cases h2 : nI (g b) < 1
      · rw [if_pos h2]
      · rw [if_neg h2]
        have h1 : 0 < g a := by
          by_cases z : 0 < g a
          · exact z
          · exact absurd ((nI_ltN (b := 1) (by omega) (by omega)).mpr (by omega)) h1
        have h2 : 0 < g b := by
          by_cases z : 0 < g b
          · exact z
          · exact absurd ((nI_ltN (b := 1) (by omega) (by omega)).mpr (by omega)) h2
        by_cases e : nI a = nI b
        · have e2 : a = b := (nI_inj (by omega) (by omega)).mp e
          subst e2
          rw [if_pos e, if_pos (show nI (g a) < 2 from (nI_ltN (b := 2) (by omega) (by omega)).mpr (by
            by_cases z : 2 ≤ g a
            · exact absurd (ok_same.mpr z) hok
            · omega))]
        · exact absurd ((ok_two (fun z => e (by rw [z]))).mpr ⟨h1, h2⟩) hok
end GOS
