/-! LEDGERS: the class fills the lost lines -/
section FIL
variable {n : Nat} {nx : Nat → Nat} {next needs changes row : Nat → Int32} {s N C : Nat → Int} {st thr : Nat}
theorem and_all {x : Nat} (hx : x < 2 ^ 32) : nI x &&& (-1) = nI x := by
  have h := nand_nI (a := x) (b := 0) hx (by omega)
  rw [show (nI 0 ^^^ (-1) : Int32) = -1 by decide] at h
  rw [h]
  congr 1
  unfold less
  rw [Nat.and_zero, Nat.xor_zero]
theorem last_loop (hG : GoodG n nx) (hx : ∀ w, w < 12 → next w = nI (nx w)) (hL : st ≤ 3) (hN : ∀ w, w < 12 → needs (st * 12 + w) = iI (N w)) (hC : ∀ w, w < 12 → changes (st * 12 + w) = iI (C w)) (hNb : ∀ w, w < 12 → 0 ≤ N w ∧ N w ≤ 100) (hr : rowI row s) (hs : stB s 60) (hthr : thr < 12) {tg : Nat → Prop} {tgt : Int32} (htg : ∀ a, a < n → nI (nx a) &&& tgt = nI (mkP n (fun b => (nx a).testBit b = true ∧ tg b)))
    (hva : ∀ a b, a < n → (nx a).testBit b = true → (vaP N s (a, b) ↔ tg b ∧ N a ≤ s a - 2)) (hout : oiB ((mvL n nx n).flatMap (hhS N C s thr))) {W : Nat} {l mo : Int} (hag : agB l mo) :
    ∃ w' l' m', Ledger_fillLast_J61 (nI st) tgt needs changes row (nI thr) (nI W) (iI l) (iI mo) (nI n) next = some (row, w', l', m') ∧ acI ((mvL n nx n).flatMap (hhS N C s thr)) W l mo w' l' m' := by
  have n12 := hG.1
  have hsub : ∀ k, k ≤ n → ∀ x, x ∈ (mvL n nx k).flatMap (hhS N C s thr) → x ∈ (mvL n nx n).flatMap (hhS N C s thr) := fun k hk x hx => by
    obtain ⟨p, p1, p2⟩ := List.mem_flatMap.mp hx
    obtain ⟨q1, q2, q3⟩ := mvL_mem.mp p1
    exact List.mem_flatMap.mpr ⟨p, mvL_mem.mpr ⟨by omega, q2, q3⟩, p2⟩
  obtain ⟨⟨w1, l1, m1⟩, r1, r2⟩ := lp_inv (f := Ledger_fillLast_L90 (nI st) tgt (iI (s thr + C thr)) needs row (nI thr) (nI n) next) (fun k u => u.1 = nI k ∧ acI ((mvL n nx k).flatMap (hhS N C s thr)) W l mo u.2.1 u.2.2.1 u.2.2.2) n (fun r => acI ((mvL n nx n).flatMap (hhS N C s thr)) W l mo r.1 r.2.1 r.2.2)
    (by
      rintro k ⟨u1, w1, l1, m1⟩ hk ⟨e1, e2, e3, e4⟩
      dsimp only at e1 e2 e3 e4
      subst e1; subst e2; subst e3; subst e4
      left
      have hag1 := ag_fold hag (fun x hx => hout x (hsub k (by omega) x hx))
      obtain ⟨w', l', m', q1, q2⟩ := last_a hG hx hL hN hNb hr hs hthr htg hva hk (fun x hx => hout x (by
        obtain ⟨p, p1, p2⟩ := List.mem_flatMap.mp hx
        obtain ⟨z1, z2, z3⟩ := mvA_mem.mp p1
        rw [← z1] at z3
        exact List.mem_flatMap.mpr ⟨p, mvL_mem.mpr ⟨by omega, z2, z3⟩, p2⟩)) (W := W + ((mvL n nx k).flatMap (hhS N C s thr)).length) hag1
      refine ⟨_, q1, nI_ad k 1, ?_⟩
      show acI ((mvL n nx k ++ mvA nx k n).flatMap (hhS N C s thr)) W l mo w' l' m'
      rw [List.flatMap_append]
      exact ac_app q2)
    (by
      rintro ⟨u1, w1, l1, m1⟩ ⟨e1, e2⟩
      dsimp only at e1 e2
      subst e1
      refine ⟨(w1, l1, m1), ?_, e2⟩
      unfold Ledger_fillLast_L90
      exact if_neg (fun z => by have := (nI_ltN (by omega) (by omega)).mp z; omega))
    0 (0, nI W, iI l, iI mo) (Nat.zero_le _) ⟨rfl, rfl, rfl, rfl⟩
  refine ⟨w1, l1, m1, ?_, r2⟩
  unfold Ledger_fillLast_J61
  rw [gd_eq (ixN hthr (by omega)), at48, gd_eq (ixN (show st * 12 + thr < 48 by omega) (by omega)), nI_clamp (show thr < 2 ^ 31 by omega), nI_clamp (show st * 12 + thr < 2 ^ 31 by omega), hr thr hthr, hC thr hthr, iI_add, ob_eq r1]
theorem fillLast_ok (hG : GoodG n nx) (hx : ∀ w, w < 12 → next w = nI (nx w)) (hL : st ≤ 3) (hN : ∀ w, w < 12 → needs (st * 12 + w) = iI (N w)) (hC : ∀ w, w < 12 → changes (st * 12 + w) = iI (C w)) (hNb : ∀ w, w < 12 → 0 ≤ N w ∧ N w ≤ 100) (hr : rowI row s) (hs : stB s 60) (hthr : thr < 12) (hout : oiB ((mvL n nx n).flatMap (hhS N C s thr))) {W : Nat} {l mo : Int} (hag : agB l mo) :
    ∃ row' w' l' m', Ledger_fillLast needs changes row (nI thr) (nI W) (iI l) (iI mo) (nI n) next (nI st) = some (row', w', l', m') ∧ rowI row' s ∧ acI ((mvL n nx n).flatMap (hhS N C s thr)) W l mo w' l' m' := by
  have n12 := hG.1
  have hir := hG.2.2.2.2
  have h2n : 2 ^ n ≤ 2 ^ 12 := Nat.pow_le_pow_right (by omega) n12
  have hab : ∀ a b, (nx a).testBit b = true → ¬ a = b := fun a b h e => by rw [← e, hir] at h; cases h
  have hbn : ∀ a b, (nx a).testBit b = true → b < n := fun a b h => bit_lt (hG.2.1 a) h
  rcases lackAt_ok hL hN (fun w hw => ⟨by have := (hNb w hw).1; omega, by have := (hNb w hw).2; omega⟩) hr (fun w hw => ⟨by have := (hs w hw).1; omega, by have := (hs w hw).2; omega⟩) with ⟨k1, k2⟩ | ⟨w0, hw0, k1, k2⟩
  · obtain ⟨w', l', m', q1, q2⟩ := last_loop hG hx hL hN hC hNb hr hs hthr (tg := fun _ => True) (tgt := -1) (fun a ha => by
      rw [and_all (by have := hG.2.1 a; omega)]
      congr 1
      apply bits_eq
      intro i
      rw [mkP_bit]
      exact ⟨fun z => ⟨hbn a i z, z, trivial⟩, fun z => z.2.1⟩) (fun a b ha hb => by
        have hne := hab a b hb
        constructor
        · intro h
          have := h.2 a (by omega)
          rw [mv_at hne, if_pos rfl] at this
          exact ⟨trivial, this⟩
        · rintro ⟨-, h⟩
          refine ⟨by have := (hNb a (by omega)).1; show 2 ≤ s a; omega, fun w hw => ?_⟩
          rw [mv_at hne]
          by_cases y : w = a
          · rw [if_pos y, y]; exact h
          · rw [if_neg y]
            have := k2 w hw
            by_cases y2 : w = b
            · rw [if_pos y2]; omega
            · rw [if_neg y2]; exact this) hout hag
    refine ⟨row, w', l', m', ?_, hr, q2⟩
    unfold Ledger_fillLast
    rw [ob_eq k1, if_pos rfl]
    exact q1
  · -- one lacks
    have hne0 : ¬ nI w0 = -1 := fun z => nI_pos (show w0 < 2 ^ 31 by omega) (by rw [z]; decide)
    have hix : ix (nI w0) 12 = true := ixN hw0 (by omega)
    have hrow1 : rowI (upd row w0 (iI (s w0 + 1))) (fun w => if w = w0 then s w + 1 else s w) := fun w hw => by
      show upd row w0 _ w = iI (if w = w0 then s w + 1 else s w)
      by_cases y : w = w0
      · rw [y, upd_at, if_pos rfl]
      · rw [upd_ne y, if_neg y]; exact hr w hw
    have hback : rowI (upd (upd row w0 (iI (s w0 + 1))) w0 (iI (s w0 + 1) - 1)) s := fun w hw => by
      by_cases y : w = w0
      · rw [y, upd_at, show iI (s w0 + 1) - 1 = iI (s w0 + 1 - 1) from iI_sub _ 1, show s w0 + 1 - 1 = s w0 by omega]
      · rw [upd_ne y, upd_ne y]; exact hr w hw
    have hlack : ∀ a b, a < n → (nx a).testBit b = true → vaP N s (a, b) → b = w0 ∧ N a ≤ s a - 2 ∧ ∀ w, w < 12 → N w ≤ (if w = w0 then s w + 1 else s w) := fun a b ha hb h => by
      have hne := hab a b hb
      have ha2 := h.2 a (by omega)
      rw [mv_at hne, if_pos rfl] at ha2
      have haw : ¬ w0 = a := fun e => by rw [e] at k2; omega
      have hbw : b = w0 := by
        refine Classical.byContradiction (fun e => ?_)
        have := h.2 w0 hw0
        rw [mv_at hne, if_neg haw, if_neg (fun q => e q.symm)] at this
        omega
      refine ⟨hbw, ha2, fun w hw => ?_⟩
      have := h.2 w hw
      rw [mv_at hne] at this
      by_cases y : w = w0
      · rw [if_pos y]
        rw [if_neg (fun q => haw (by omega)), if_pos (by omega)] at this
        exact this
      · rw [if_neg y]
        by_cases y2 : w = a
        · rw [if_pos y2] at this; omega
        · rw [if_neg y2, if_neg (fun q => y (by omega))] at this; exact this
    have hcl : rowI row s → row w0 + 1 = iI (s w0 + 1) := fun h => by rw [h w0 hw0]; exact iI_add _ 1
    rcases lackAt_ok hL hN (fun w hw => ⟨by have := (hNb w hw).1; omega, by have := (hNb w hw).2; omega⟩) hrow1 (fun w hw => by
        have := hs w hw
        by_cases y : w = w0
        · show sm31 (if w = w0 then s w + 1 else s w)
          rw [if_pos y]; exact ⟨by omega, by omega⟩
        · show sm31 (if w = w0 then s w + 1 else s w)
          rw [if_neg y]; exact ⟨by omega, by omega⟩) with ⟨j1, j2⟩ | ⟨w1, hw1, j1, j2⟩
    · obtain ⟨w', l', m', q1, q2⟩ := last_loop (row := upd (upd row w0 (iI (s w0 + 1))) w0 (iI (s w0 + 1) - 1)) hG hx hL hN hC hNb hback hs hthr (tg := fun b => b = w0) (tgt := nI (2 ^ w0)) (fun a ha => by
        rw [and_nI (by have := hG.2.1 a; omega) (by have : 2 ^ w0 < 2 ^ 12 := Nat.pow_lt_pow_right (by omega) hw0; omega)]
        congr 1
        apply bits_eq
        intro i
        rw [mkP_bit, Nat.testBit_and, Bool.and_eq_true, Nat.testBit_two_pow, decide_eq_true_iff]
        exact ⟨fun z => ⟨hbn a i z.1, z.1, z.2.symm⟩, fun z => ⟨z.2.1, z.2.2.symm⟩⟩) (fun a b ha hb => by
          constructor
          · intro h
            obtain ⟨h1, h2, -⟩ := hlack a b ha hb h
            exact ⟨h1, h2⟩
          · rintro ⟨h1, h2⟩
            have hne := hab a b hb
            refine ⟨by have := (hNb a (by omega)).1; show 2 ≤ s a; omega, fun w hw => ?_⟩
            rw [mv_at hne]
            have := j2 w hw
            by_cases y : w = a
            · rw [if_pos y, y]; exact h2
            · rw [if_neg y]
              by_cases y2 : w = b
              · rw [if_pos y2]
                rw [if_pos (by omega)] at this
                exact this
              · rw [if_neg y2]
                rw [if_neg (by omega)] at this
                exact this) hout hag
      refine ⟨_, w', l', m', ?_, hback, q2⟩
      unfold Ledger_fillLast Ledger_fillLast_J43
      rw [ob_eq k1, if_neg hne0, gd_eq hix, gd_eq hix, nI_clamp (show w0 < 2 ^ 31 by omega), hcl hr, ob_eq j1, if_pos rfl, gd_eq hix, gd_eq hix, if_pos rfl, upd_at, shl_nI (by omega)]
      exact q1
    · have hne1 : ¬ nI w1 = -1 := fun z => nI_pos (show w1 < 2 ^ 31 by omega) (by rw [z]; decide)
      have hnil : (mvL n nx n).flatMap (hhS N C s thr) = [] := by
        rw [List.eq_nil_iff_forall_not_mem]
        intro x hx2
        obtain ⟨p, p1, p2⟩ := List.mem_flatMap.mp hx2
        obtain ⟨q1, q2, q3⟩ := mvL_mem.mp p1
        by_cases h : vaP N s p
        · have := (hlack p.1 p.2 q1 q3 h).2.2 w1 hw1
          omega
        · rw [hh_no h] at p2; cases p2
      rw [hnil]
      refine ⟨_, nI W, iI l, iI mo, ?_, hback, rfl, rfl, rfl⟩
      unfold Ledger_fillLast Ledger_fillLast_J43
      rw [ob_eq k1, if_neg hne0, gd_eq hix, gd_eq hix, nI_clamp (show w0 < 2 ^ 31 by omega), hcl hr, ob_eq j1, if_neg hne1, gd_eq hix, gd_eq hix, if_neg one_ne0, upd_at]
abbrev GoF := (Nat → Int32) → (Nat → Int32) → (Nat → Int32) → Int32 → Int32 → Int32 → Int32 → Int32 → Int32 → (Nat → Int32) → Int32 → Option ((Nat → Int32) × Int32 × Int32 × Int32)
/-- one more lost line -/
theorem fillOne_ok (hG : GoodG n nx) (hx : ∀ w, w < 12 → next w = nI (nx w)) (go : GoF) {lost thr2 : Int32} {F : (Nat → Int) → List Int} {B : Int} (hB : B ≤ 90) (hgo : ∀ (s' : Nat → Int) (row' : Nat → Int32) (W : Nat) (l mo : Int), stB s' (B + 1) → rowI row' s' → agB l mo → ∃ row2 w' l' m', go needs changes row' lost thr2 (nI W) (iI l) (iI mo) (nI n) next (nI (st + 1)) = some (row2, w', l', m') ∧ rowI row2 s' ∧ acI (F s') W l mo w' l' m')
    (hF : ∀ s', stB s' (B + 1) → oiB (F s')) (hr : rowI row s) (hs : stB s B) {W : Nat} {l mo : Int} (hag : agB l mo) :
    ∃ row' w' l' m', Ledger_fillOne go needs changes row lost thr2 (nI W) (iI l) (iI mo) (nI n) next (nI st) = some (row', w', l', m') ∧ rowI row' s ∧ acI ((mvL n nx n).flatMap (fun p => if 2 ≤ s p.1 then F (mvI s p) else [])) W l mo w' l' m' := by
  have n12 := hG.1
  have hir := hG.2.2.2.2
  have hmv : ∀ p : Nat × Nat, 2 ≤ s p.1 → stB (mvI s p) (B + 1) := fun p hp w hw => by
    have h1 := hs w hw
    have h2 := dlt_le p w
    show 0 ≤ s w + dlt p w ∧ s w + dlt p w ≤ B + 1
    refine ⟨?_, by omega⟩
    by_cases e : w = p.1
    · rw [← e] at hp; omega
    · have : 0 ≤ dlt p w := by
        unfold dlt
        rw [if_neg e]
        by_cases y : w = p.2
        · rw [if_pos y]; omega
        · rw [if_neg y]; omega
      omega
  have hoi : ∀ q : List (Nat × Nat), oiB (q.flatMap (fun p => if 2 ≤ s p.1 then F (mvI s p) else [])) := fun q x hx2 => by
    obtain ⟨p, p1, p2⟩ := List.mem_flatMap.mp hx2
    by_cases h : 2 ≤ s p.1
    · rw [if_pos h] at p2; exact hF _ (hmv p h) x p2
    · rw [if_neg h] at p2; cases p2
  -- the moves from one well
  have inner : ∀ a, a < n → ∀ (ro : Nat → Int32) (W : Nat) (l mo : Int), rowI ro s → agB l mo → ∃ ro' w' l' m', lp (Ledger_fillOne_L13 go (nI st) (nI a) needs changes lost thr2 (nI n) next) (0, ro, nI W, iI l, iI mo) = some (ro', w', l', m') ∧ rowI ro' s ∧ acI ((mvA nx a n).flatMap (fun p => if 2 ≤ s p.1 then F (mvI s p) else [])) W l mo w' l' m' := by
    intro a ha ro W l mo hro hag
    have hsa := hs a (by omega)
    have hixa : ix (nI a) 12 = true := ixN (by omega) (by omega)
    by_cases h2 : 2 ≤ s a
    · have hnl : ∀ ro : Nat → Int32, rowI ro s → ¬ ro a < 2 := fun ro hro z => by
        rw [hro a (by omega)] at z
        have := (iI_lt (a := s a) (b := 2) ⟨by omega, by omega⟩ ⟨by omega, by omega⟩).mp z
        omega
      obtain ⟨⟨ro', w1, l1, m1⟩, r1, r2, r3⟩ := lp_inv (f := Ledger_fillOne_L13 go (nI st) (nI a) needs changes lost thr2 (nI n) next) (fun k u => u.1 = nI k ∧ rowI u.2.1 s ∧ acI ((mvA nx a k).flatMap (fun p => if 2 ≤ s p.1 then F (mvI s p) else [])) W l mo u.2.2.1 u.2.2.2.1 u.2.2.2.2) n (fun r => rowI r.1 s ∧ acI ((mvA nx a n).flatMap (fun p => if 2 ≤ s p.1 then F (mvI s p) else [])) W l mo r.2.1 r.2.2.1 r.2.2.2)
        (by
          rintro k ⟨u1, ro, w1, l1, m1⟩ hk ⟨e1, e2, e3, e4, e5⟩
          dsimp only at e1 e2 e3 e4 e5
          subst e1; subst e3; subst e4; subst e5
          left
          have hixk : ix (nI k) 12 = true := ixN (by omega) (by omega)
          cases ht : (nx a).testBit k with
          | false =>
            refine ⟨(nI k + 1, ro, nI (W + ((mvA nx a k).flatMap (fun p => if 2 ≤ s p.1 then F (mvI s p) else [])).length), iI (((mvA nx a k).flatMap (fun p => if 2 ≤ s p.1 then F (mvI s p) else [])).foldl min l), iI (((mvA nx a k).flatMap (fun p => if 2 ≤ s p.1 then F (mvI s p) else [])).foldl max mo)), ?_, nI_ad k 1, e2, ?_⟩
            · unfold Ledger_fillOne_L13 Ledger_fillOne_L13_J92
              dsimp only
              rw [gd_eq hixa, nI_clamp (show a < 2 ^ 31 by omega), if_neg (hnl ro e2), if_pos ((nI_ltN (by omega) (by omega)).mpr hk), ob_eq (areNext_in hG hx ha hk), ht, if_pos (show (if false = true then (1 : Int32) else 0) = 0 from rfl)]
            · show acI ((mvA nx a k ++ (if (nx a).testBit k then [(a, k)] else [])).flatMap (fun p => if 2 ≤ s p.1 then F (mvI s p) else [])) W l mo _ _ _
              rw [ht, if_neg (by decide), List.append_nil]
              exact ⟨rfl, rfl, rfl⟩
          | true =>
            have hne : ¬ a = k := fun e => by rw [← e, hir] at ht; cases ht
            have hro1 : rowI (upd (upd ro a (ro a - 2)) k ((upd ro a (ro a - 2)) k + 1)) (mvI s (a, k)) := fun w hw => by
              rw [mv_at hne]
              by_cases y : w = k
              · rw [y, upd_at, upd_ne (fun q => hne q.symm), if_neg (fun q => hne q.symm), if_pos rfl, e2 k (by omega)]
                exact iI_add _ 1
              · rw [upd_ne y]
                by_cases y2 : w = a
                · rw [y2, upd_at, if_pos rfl, e2 a (by omega)]
                  exact iI_sub _ 2
                · rw [upd_ne y2, if_neg y2, if_neg y, e2 w hw]
            obtain ⟨ro2, w', l', m', q1, q2, q3⟩ := hgo (mvI s (a, k)) _ (W + ((mvA nx a k).flatMap (fun p => if 2 ≤ s p.1 then F (mvI s p) else [])).length) _ _ (hmv (a, k) h2) hro1 (ag_fold hag (hoi (mvA nx a k)))
            refine ⟨(nI k + 1, upd (upd ro2 a (ro2 a + 2)) k ((upd ro2 a (ro2 a + 2)) k - 1), w', l', m'), ?_, nI_ad k 1, fun w hw => ?_, ?_⟩
            · unfold Ledger_fillOne_L13 Ledger_fillOne_L13_J92
              dsimp only
              rw [gd_eq hixa, nI_clamp (show a < 2 ^ 31 by omega), if_neg (hnl ro e2), if_pos ((nI_ltN (by omega) (by omega)).mpr hk), ob_eq (areNext_in hG hx ha hk), ht, if_neg (show ¬ (if true = true then (1 : Int32) else 0) = 0 by decide), gd_eq hixa, gd_eq hixa, gd_eq hixk, gd_eq hixk, nI_clamp (show k < 2 ^ 31 by omega), show nI st + 1 = nI (st + 1) from nI_ad st 1, ob_eq q1]
              dsimp only
              rw [gd_eq hixa, gd_eq hixa, gd_eq hixk, gd_eq hixk]
            · show upd (upd ro2 a (ro2 a + 2)) k ((upd ro2 a (ro2 a + 2)) k - 1) w = _
              by_cases y : w = k
              · rw [y, upd_at, upd_ne (fun q => hne q.symm), q2 k (by omega), mv_at hne, if_neg (fun q => hne q.symm), if_pos rfl, show iI (s k + 1) - 1 = iI (s k + 1 - 1) from iI_sub _ 1, show s k + 1 - 1 = s k by omega]
              · rw [upd_ne y]
                by_cases y2 : w = a
                · rw [y2, upd_at, q2 a (by omega), mv_at hne, if_pos rfl, show iI (s a - 2) + 2 = iI (s a - 2 + 2) from iI_add _ 2, show s a - 2 + 2 = s a by omega]
                · rw [upd_ne y2, q2 w hw, mv_at hne, if_neg y2, if_neg y]
            · show acI ((mvA nx a k ++ (if (nx a).testBit k then [(a, k)] else [])).flatMap (fun p => if 2 ≤ s p.1 then F (mvI s p) else [])) W l mo w' l' m'
              rw [ht, if_pos rfl, List.flatMap_append, List.flatMap_singleton]
              refine ac_app ?_
              rw [if_pos h2]
              exact q3)
        (by
          rintro ⟨u1, ro, w1, l1, m1⟩ ⟨e1, e2, e3⟩
          dsimp only at e1 e2 e3
          subst e1
          refine ⟨(ro, w1, l1, m1), ?_, e2, e3⟩
          unfold Ledger_fillOne_L13
          dsimp only
          rw [gd_eq hixa, nI_clamp (show a < 2 ^ 31 by omega), if_neg (hnl ro e2), if_neg (fun z => by have := (nI_ltN (by omega) (by omega)).mp z; omega)])
        0 (0, ro, nI W, iI l, iI mo) (Nat.zero_le _) ⟨rfl, hro, rfl, rfl, rfl⟩
      exact ⟨ro', w1, l1, m1, r1, r2, r3⟩
    · have hnil : (mvA nx a n).flatMap (fun p => if 2 ≤ s p.1 then F (mvI s p) else []) = [] := by
        rw [List.eq_nil_iff_forall_not_mem]
        intro x hx2
        obtain ⟨p, p1, p2⟩ := List.mem_flatMap.mp hx2
        rw [if_neg (by rw [(mvA_mem.mp p1).1]; exact h2)] at p2
        cases p2
      rw [hnil]
      refine ⟨ro, nI W, iI l, iI mo, lp_inr ?_, hro, rfl, rfl, rfl⟩
      unfold Ledger_fillOne_L13
      dsimp only
      rw [gd_eq hixa, nI_clamp (show a < 2 ^ 31 by omega), if_pos (show ro a < 2 by rw [hro a (by omega)]; exact (iI_lt (a := s a) (b := 2) ⟨by omega, by omega⟩ ⟨by omega, by omega⟩).mpr (by omega))]
  obtain ⟨⟨ro', w1, l1, m1⟩, r1, r2, r3⟩ := lp_inv (f := Ledger_fillOne_L2 go (nI st) needs changes lost thr2 (nI n) next) (fun k u => u.1 = nI k ∧ rowI u.2.1 s ∧ acI ((mvL n nx k).flatMap (fun p => if 2 ≤ s p.1 then F (mvI s p) else [])) W l mo u.2.2.1 u.2.2.2.1 u.2.2.2.2) n (fun r => rowI r.1 s ∧ acI ((mvL n nx n).flatMap (fun p => if 2 ≤ s p.1 then F (mvI s p) else [])) W l mo r.2.1 r.2.2.1 r.2.2.2)
    (by
      rintro k ⟨u1, ro, w1, l1, m1⟩ hk ⟨e1, e2, e3, e4, e5⟩
      dsimp only at e1 e2 e3 e4 e5
      subst e1; subst e3; subst e4; subst e5
      left
      obtain ⟨ro', w', l', m', q1, q2, q3⟩ := inner k hk ro _ _ _ e2 (ag_fold hag (hoi (mvL n nx k)))
      refine ⟨(nI k + 1, ro', w', l', m'), ?_, nI_ad k 1, q2, ?_⟩
      · unfold Ledger_fillOne_L2 Ledger_fillOne_L2_J98
        dsimp only
        rw [if_pos ((nI_ltN (by omega) (by omega)).mpr hk), ob_eq q1]
      · show acI ((mvL n nx k ++ mvA nx k n).flatMap (fun p => if 2 ≤ s p.1 then F (mvI s p) else [])) W l mo w' l' m'
        rw [List.flatMap_append]
        exact ac_app q3)
    (by
      rintro ⟨u1, ro, w1, l1, m1⟩ ⟨e1, e2, e3⟩
      dsimp only at e1 e2 e3
      subst e1
      refine ⟨(ro, w1, l1, m1), ?_, e2, e3⟩
      unfold Ledger_fillOne_L2
      exact if_neg (fun z => by have := (nI_ltN (by omega) (by omega)).mp z; omega))
    0 (0, row, nI W, iI l, iI mo) (Nat.zero_le _) ⟨rfl, hr, rfl, rfl, rfl⟩
  exact ⟨ro', w1, l1, m1, ob_eq r1, r2, r3⟩
end FIL
