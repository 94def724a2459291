/-! LEDGERS: the class goes all stretches -/
def ldS (n : Nat) (nx : Nat → Nat) (ln : LnF) (N L : Nat) (A : Nat → Nat) : Prop :=
  L ≤ 3 ∧ N ≤ 10 ∧ A 0 = 0 ∧ A (L + 1) = N + 1 ∧ (∀ i, i < N → ∀ p, ln i = some p → p.1 < n ∧ p.2 < n ∧ (nx p.1).testBit p.2 = true) ∧ (∀ st, st ≤ L → A st < A (st + 1)) ∧ (∀ st, st ≤ L → ∀ i, A st ≤ i → i + 1 < A (st + 1) → ∃ p, ln i = some p) ∧ ∀ st, st < L → ln (A (st + 1) - 1) = none
def caS (ln : LnF) (A : Nat → Nat) (L : Nat) (needs changes : Nat → Int32) : Prop := ∀ st, st ≤ L → ∀ w, w < 12 → needs (st * 12 + w) = iI (ndL ln (A st) (A (st + 1) - 1 - A st) w) ∧ changes (st * 12 + w) = iI (cgL ln (A st) (A (st + 1) - 1 - A st) w)
theorem ld_le {n : Nat} {nx : Nat → Nat} {ln : LnF} {N L : Nat} {A : Nat → Nat} (h : ldS n nx ln N L A) : ∀ d st, st + d = L + 1 → A st + d ≤ N + 1 := by
  intro d
  induction d with
  | zero => intro st hd; rw [show st = L + 1 by omega, h.2.2.2.1]; omega
  | succ d ih =>
    intro st hd
    have h1 := ih (st + 1) (by omega)
    have h2 := h.2.2.2.2.2.1 st (by omega)
    omega
theorem mv_st {s : Nat → Int} {B : Int} (hs : stB s B) {p : Nat × Nat} (hp : 2 ≤ s p.1) : stB (mvI s p) (B + 1) := fun w hw => by
  have h1 := hs w hw
  have h2 := dlt_le p w
  show 0 ≤ s w + dlt p w ∧ s w + dlt p w ≤ B + 1
  refine ⟨?_, by omega⟩
  by_cases e : w = p.1
  · rw [← e] at hp; omega
  · have : 0 ≤ dlt p w := by
      unfold dlt
      rw [if_neg e]
      by_cases y : w = p.2
      · rw [if_pos y]; omega
      · rw [if_neg y]; omega
    omega
theorem ou_bd {ln : LnF} {ml : List (Nat × Nat)} {thr : Nat} (hthr : thr < 12) : ∀ (m i : Nat) (s : Nat → Int) (B : Int), stB s B → ∀ x, x ∈ ouL ln ml thr m i s → 0 ≤ x ∧ x ≤ B + m := by
  intro m
  induction m with
  | zero =>
    intro i s B hs x hx
    have hx : x ∈ [s thr] := hx
    rw [List.mem_singleton] at hx
    have := hs thr hthr
    rw [hx]
    omega
  | succ m ih =>
    intro i s B hs x hx
    rw [ou_succ] at hx
    obtain ⟨p, p1, p2⟩ := List.mem_flatMap.mp hx
    by_cases h : 2 ≤ s p.1
    · rw [if_pos h] at p2
      have := ih (i + 1) (mvI s p) (B + 1) (mv_st hs h) x p2
      omega
    · rw [if_neg h] at p2; cases p2
theorem nd_cg {ln : LnF} {a : Nat} (w : Nat) : ∀ m : Nat, 0 ≤ ndL ln a m w + cgL ln a m w := by
  intro m
  induction m with
  | zero => show (0 : Int) ≤ 0 + 0; omega
  | succ m ih =>
    cases h : ln (a + m) with
    | none =>
      have e1 : cgL ln a (m + 1) w = cgL ln a m w := by
        show cgL ln a m w + _ = _
        rw [h]; exact Int.add_zero _
      have e2 : ndL ln a (m + 1) w = ndL ln a m w := by
        show (match ln (a + m) with | none => ndL ln a m w | some p => if w = p.1 then max (ndL ln a m w) (2 - cgL ln a m w) else ndL ln a m w) = _
        rw [h]
      rw [e1, e2]; exact ih
    | some p =>
      have hd := dlt_le p w
      rw [cg_some h, nd_some h]
      by_cases e : w = p.1
      · rw [if_pos e]; omega
      · rw [if_neg e]
        have : 0 ≤ dlt p w := by
          unfold dlt
          rw [if_neg e]
          by_cases y : w = p.2
          · rw [if_pos y]; omega
          · rw [if_neg y]; omega
        omega
section GOE
variable {n : Nat} {nx : Nat → Nat} {next needs changes : Nat → Int32} {ln : LnF} {N L thr : Nat} {A : Nat → Nat}
theorem go_ok (hG : GoodG n nx) (hx : ∀ w, w < 12 → next w = nI (nx w)) (hthr : thr < 12) (hL : ldS n nx ln N L A) (hca : caS ln A L needs changes) : ∀ F st, st ≤ L → L - st < F → ∀ (s : Nat → Int) (row : Nat → Int32) (W : Nat) (l mo : Int), stB s (40 + (A st : Int)) → rowI row s → agB l mo →
    ∃ row' w' l' m', Ledger_go F needs changes row (nI L) (nI thr) (nI W) (iI l) (iI mo) (nI n) next (nI st) = some (row', w', l', m') ∧ rowI row' s ∧ acI (ouL ln (mvL n nx n) thr (N - A st) (A st) s) W l mo w' l' m' := by
  intro F
  induction F with
  | zero => intro st _ h; omega
  | succ F ih =>
    intro st hst hF s row W l mo hs hr hag
    have n12 := hG.1
    obtain ⟨hL3, hN10, hA0, hAN, hlg, hAlt, hseg, hlo⟩ := id hL
    have hAs := hAlt st hst
    have hle := ld_le hL (L - st) (st + 1) (by omega)
    -- this stretch
    have hN2 : N - A st = (A (st + 1) - 1 - A st) + (N - (A (st + 1) - 1)) := by omega
    have hm10 : A (st + 1) - 1 - A st ≤ 10 := by omega
    have hbd := fun w => seg_bound (ln := ln) (a := A st) w (A (st + 1) - 1 - A st)
    obtain ⟨o1, o2⟩ := ou_str (ln := ln) (ml := mvL n nx n) (thr := thr) (a := A st) (m := A (st + 1) - 1 - A st) (fun i h1 h2 => by
      obtain ⟨p, hp⟩ := hseg st hst i h1 (by omega)
      have := hlg i (by omega) p hp
      exact ⟨p, hp, by omega⟩) (N - (A (st + 1) - 1)) s (fun w hw => (hs w hw).1)
    rw [← hN2] at o1 o2
    have hst3 : nI st ≤ 3 := (nI_leN (b := 3) (by omega) (by omega)).mpr (by omega)
    show ∃ row' w' l' m', Ledger_goO (Ledger_go F) needs changes row (nI L) (nI thr) (nI W) (iI l) (iI mo) (nI n) next (nI st) = some (row', w', l', m') ∧ rowI row' s ∧ acI (ouL ln (mvL n nx n) thr (N - A st) (A st) s) W l mo w' l' m'
    rcases lackAt_ok (show st ≤ 3 by omega) (fun w hw => (hca st hst w hw).1) (fun w hw => by have := hbd w; exact ⟨by omega, by omega⟩) hr (fun w hw => by have := hs w hw; exact ⟨by omega, by omega⟩) with ⟨k1, k2⟩ | ⟨w0, hw0, k1, k2⟩
    · have hout : ouL ln (mvL n nx n) thr (N - A st) (A st) s = ouL ln (mvL n nx n) thr (N - (A (st + 1) - 1)) (A (st + 1) - 1) (fun w => s w + cgL ln (A st) (A (st + 1) - 1 - A st) w) := by
        rw [o1 k2, show A st + (A (st + 1) - 1 - A st) = A (st + 1) - 1 by omega]
      obtain ⟨row1, c1, c2⟩ := change_ok (show st ≤ 3 by omega) (fun w hw => (hca st hst w hw).2) hr 1
      have c2 : rowI row1 (fun w => s w + cgL ln (A st) (A (st + 1) - 1 - A st) w) := fun w hw => by
        refine (c2 w hw).trans ?_
        show iI (s w + 1 * cgL ln (A st) (A (st + 1) - 1 - A st) w) = iI (s w + cgL ln (A st) (A (st + 1) - 1 - A st) w)
        rw [Int.one_mul]
      have hs1 : stB (fun w => s w + cgL ln (A st) (A (st + 1) - 1 - A st) w) (40 + ((A (st + 1) - 1 : Nat) : Int)) := fun w hw => by
        have h1 := hs w hw
        have h2 := hbd w
        have h3 := k2 w hw
        have h4 := nd_cg (ln := ln) (a := A st) w (A (st + 1) - 1 - A st)
        show 0 ≤ s w + cgL ln (A st) (A (st + 1) - 1 - A st) w ∧ s w + cgL ln (A st) (A (st + 1) - 1 - A st) w ≤ 40 + ((A (st + 1) - 1 : Nat) : Int)
        omega
      -- what is done there
      suffices hmid : ∃ row2 w' l' m', (if nI st < nI L then (if nI st = (nI L - 1) then (ob (Ledger_fillLast needs changes row1 (nI thr) (nI W) (iI l) (iI mo) (nI n) next (nI L)) fun x3 => Ledger_goO_J83 (Ledger_go F) (nI st) needs changes x3.1 (nI L) (nI thr) x3.2.1 x3.2.2.1 x3.2.2.2 (nI n) next) else (ob (Ledger_fillOne (Ledger_go F) needs changes row1 (nI L) (nI thr) (nI W) (iI l) (iI mo) (nI n) next (nI st)) fun x4 => Ledger_goO_J83 (Ledger_go F) (nI st) needs changes x4.1 (nI L) (nI thr) x4.2.1 x4.2.2.1 x4.2.2.2 (nI n) next)) else (gd (ix (nI thr) 12) (ob (Ledger_tell (iI l) (iI mo) (row1 (nI thr).toNatClampNeg)) fun x7 => Ledger_goO_J83 (Ledger_go F) (nI st) needs changes row1 (nI L) (nI thr) (nI W + 1) x7.1 x7.2 (nI n) next))) = Ledger_goO_J83 (Ledger_go F) (nI st) needs changes row2 (nI L) (nI thr) w' l' m' (nI n) next ∧ rowI row2 (fun w => s w + cgL ln (A st) (A (st + 1) - 1 - A st) w) ∧ acI (ouL ln (mvL n nx n) thr (N - A st) (A st) s) W l mo w' l' m' by
        obtain ⟨row2, w', l', m', q1, q2, q3⟩ := hmid
        obtain ⟨row3, d1, d2⟩ := change_ok (show st ≤ 3 by omega) (fun w hw => (hca st hst w hw).2) q2 (-1)
        refine ⟨row3, w', l', m', ?_, fun w hw => ?_, q3⟩
        · unfold Ledger_goO
          rw [if_pos hst3, ob_eq k1, if_pos rfl, ob_eq (show Ledger_change changes row (nI st) 1 = some row1 from c1), q1]
          unfold Ledger_goO_J83
          rw [ob_eq (show Ledger_change changes row2 (nI st) (-1) = some row3 from d1)]
        · rw [d2 w hw]
          congr 1
          show s w + cgL ln (A st) (A (st + 1) - 1 - A st) w + -1 * cgL ln (A st) (A (st + 1) - 1 - A st) w = s w
          omega
      rw [hout]
      by_cases z : st < L
      · -- a lost line behind it
        have hln := hlo st z
        have hNe : N - (A (st + 1) - 1) = (N - A (st + 1)) + 1 := by have := ld_le hL (L - st) (st + 1) (by omega); omega
        have hou : ouL ln (mvL n nx n) thr (N - (A (st + 1) - 1)) (A (st + 1) - 1) (fun w => s w + cgL ln (A st) (A (st + 1) - 1 - A st) w) = (mvL n nx n).flatMap (fun p => if 2 ≤ s p.1 + cgL ln (A st) (A (st + 1) - 1 - A st) p.1 then ouL ln (mvL n nx n) thr (N - A (st + 1)) (A (st + 1)) (mvI (fun w => s w + cgL ln (A st) (A (st + 1) - 1 - A st) w) p) else []) := by
          rw [hNe, ou_succ, chc_none hln, show A (st + 1) - 1 + 1 = A (st + 1) by omega]
        rw [hou, if_pos ((nI_ltN (by omega) (by omega)).mpr z)]
        have hbig : ∀ s', stB s' (40 + ((A (st + 1) - 1 : Nat) : Int) + 1) → oiB (ouL ln (mvL n nx n) thr (N - A (st + 1)) (A (st + 1)) s') := fun s' hs' x hx2 => by
          have := ou_bd hthr (N - A (st + 1)) (A (st + 1)) s' _ hs' x hx2
          omega
        by_cases z2 : st + 1 = L
        · rw [if_pos (show nI st = nI L - 1 by rw [← z2]; exact (nI_subN (a := st + 1) (b := 1) (by omega)).symm)]
          have hbL := fun w => seg_bound (ln := ln) (a := A L) w (A (L + 1) - 1 - A L)
          -- the last stretch at once
          have hfun : (fun p : Nat × Nat => if 2 ≤ s p.1 + cgL ln (A st) (A (st + 1) - 1 - A st) p.1 then ouL ln (mvL n nx n) thr (N - A (st + 1)) (A (st + 1)) (mvI (fun w => s w + cgL ln (A st) (A (st + 1) - 1 - A st) w) p) else []) = hhS (ndL ln (A L) (A (L + 1) - 1 - A L)) (cgL ln (A L) (A (L + 1) - 1 - A L)) (fun w => s w + cgL ln (A st) (A (st + 1) - 1 - A st) w) thr := by
            funext p
            by_cases hp : 2 ≤ s p.1 + cgL ln (A st) (A (st + 1) - 1 - A st) p.1
            · rw [if_pos hp, z2]
              have hAL := hAlt L (Nat.le_refl _)
              obtain ⟨u1, u2⟩ := ou_str (ln := ln) (ml := mvL n nx n) (thr := thr) (a := A L) (m := A (L + 1) - 1 - A L) (fun i h1 h2 => by
                obtain ⟨p, hp⟩ := hseg L (Nat.le_refl _) i h1 (by omega)
                have := hlg i (by omega) p hp
                exact ⟨p, hp, by omega⟩) 0 (mvI (fun w => s w + cgL ln (A st) (A (st + 1) - 1 - A st) w) p) (fun w hw => (mv_st hs1 (p := p) hp w hw).1)
              rw [show A (L + 1) - 1 - A L + 0 = N - A L by omega, show A (L + 1) - 1 - A L = N - A L by omega] at u1 u2
              rw [show A (L + 1) - 1 - A L = N - A L by omega]
              rw [z2] at u1 u2 hp
              by_cases hv : ∀ w, w < 12 → ndL ln (A L) (N - A L) w ≤ mvI (fun w => s w + cgL ln (A st) (A L - 1 - A st) w) p w
              · rw [u1 hv, hh_yes ⟨hp, hv⟩]
                rfl
              · rw [u2 hv, hh_no (fun y => hv y.2)]
            · rw [if_neg hp, hh_no (fun y => hp y.1)]
          rw [hfun]
          obtain ⟨row2, w', l', m', q1, q2, q3⟩ := fillLast_ok hG hx (st := L) hL3 (fun w hw => (hca L (Nat.le_refl _) w hw).1) (fun w hw => (hca L (Nat.le_refl _) w hw).2) (fun w hw => by have := hbL w; exact ⟨by omega, by have := ld_le hL 1 L rfl; omega⟩) c2 (fun w hw => ⟨(hs1 w hw).1, Int.le_trans (hs1 w hw).2 (by omega)⟩) hthr (by
            rw [← hfun]
            intro x hx2
            obtain ⟨p, p1, p2⟩ := List.mem_flatMap.mp hx2
            by_cases hp : 2 ≤ s p.1 + cgL ln (A st) (A (st + 1) - 1 - A st) p.1
            · rw [if_pos hp] at p2
              exact hbig _ (mv_st hs1 hp) x p2
            · rw [if_neg hp] at p2; cases p2) (W := W) hag
          exact ⟨row2, w', l', m', ob_eq q1, q2, q3⟩
        · rw [if_neg (fun y => z2 (by
            have e : nI L - 1 = nI (L - 1) := nI_subN (b := 1) (by omega)
            rw [e] at y
            have := (nI_inj (by omega) (by omega)).mp y
            omega))]
          obtain ⟨row2, w', l', m', q1, q2, q3⟩ := fillOne_ok hG hx (st := st) (needs := needs) (changes := changes) (Ledger_go F) (lost := nI L) (thr2 := nI thr) (F := fun s' => ouL ln (mvL n nx n) thr (N - A (st + 1)) (A (st + 1)) s') (B := 40 + ((A (st + 1) - 1 : Nat) : Int)) (by omega) (fun s' row' W l mo h1 h2 h3 => ih (st + 1) (by omega) (by omega) s' row' W l mo (fun w hw => by have := h1 w hw; omega) h2 h3) hbig c2 hs1 (W := W) hag
          exact ⟨row2, w', l', m', ob_eq q1, q2, q3⟩
      · have e : st = L := by omega
        rw [if_neg (fun y => z ((nI_ltN (by omega) (by omega)).mp y)), gd_eq (ixN hthr (by omega)), nI_clamp (show thr < 2 ^ 31 by omega), c2 thr hthr]
        have ht : 0 ≤ s thr + cgL ln (A st) (A (st + 1) - 1 - A st) thr ∧ s thr + cgL ln (A st) (A (st + 1) - 1 - A st) thr ≤ 40 + ((A (st + 1) - 1 : Nat) : Int) := hs1 thr hthr
        rw [ob_eq (tell_ok hag (show 0 ≤ s thr + cgL ln (A st) (A (st + 1) - 1 - A st) thr ∧ s thr + cgL ln (A st) (A (st + 1) - 1 - A st) thr ≤ 100 by omega))]
        refine ⟨row1, _, _, _, rfl, c2, ?_⟩
        rw [show N - (A (st + 1) - 1) = 0 by rw [e, hAN]; omega]
        exact ⟨nI_ad W 1, rfl, rfl⟩
    · rw [o2 (fun y => by have := y w0 hw0; omega)]
      refine ⟨row, nI W, iI l, iI mo, ?_, hr, rfl, rfl, rfl⟩
      unfold Ledger_goO
      rw [if_pos hst3, ob_eq k1, if_neg (show ¬ nI w0 = -1 from fun z => nI_pos (show w0 < 2 ^ 31 by omega) (by rw [z]; decide))]
end GOE
