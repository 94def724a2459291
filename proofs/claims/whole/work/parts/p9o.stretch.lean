/-! LEDGERS: the class's steps -/
def rowI (row : Nat → Int32) (s : Nat → Int) : Prop := ∀ w, w < 12 → row w = iI (s w)
def stB (s : Nat → Int) (B : Int) : Prop := ∀ w, w < 12 → 0 ≤ s w ∧ s w ≤ B
def agB (l mo : Int) : Prop := 0 ≤ l ∧ l ≤ 2147483647 ∧ 0 ≤ mo ∧ mo ≤ 100
def acI (xs : List Int) (W : Nat) (l mo : Int) (w' l' m' : Int32) : Prop := w' = nI (W + xs.length) ∧ l' = iI (xs.foldl min l) ∧ m' = iI (xs.foldl max mo)
def oiB (xs : List Int) : Prop := ∀ x, x ∈ xs → 0 ≤ x ∧ x ≤ 100
theorem ag_fold {l mo : Int} {xs : List Int} (h : agB l mo) (hx : oiB xs) : agB (xs.foldl min l) (xs.foldl max mo) := by
  obtain ⟨a1, a2, a3⟩ := fold_min (xs := xs) (l := l)
  obtain ⟨b1, b2, b3⟩ := fold_max (xs := xs) (l := mo)
  obtain ⟨h1, h2, h3, h4⟩ := h
  refine ⟨?_, by omega, by omega, ?_⟩
  · rcases a3 with e | e
    · omega
    · exact (hx _ e).1
  · rcases b3 with e | e
    · omega
    · exact (hx _ e).2
theorem ac_app {xs ys : List Int} {W : Nat} {l mo : Int} {w' l' m' : Int32} (h : acI ys (W + xs.length) (xs.foldl min l) (xs.foldl max mo) w' l' m') : acI (xs ++ ys) W l mo w' l' m' := by
  obtain ⟨h1, h2, h3⟩ := h
  refine ⟨?_, ?_, ?_⟩
  · rw [h1, List.length_append, Nat.add_assoc]
  · rw [h2, List.foldl_append]
  · rw [h3, List.foldl_append]
theorem oi_app {xs ys : List Int} (h1 : oiB xs) (h2 : oiB ys) : oiB (xs ++ ys) := fun x hx => by
  rcases List.mem_append.mp hx with h | h
  · exact h1 x h
  · exact h2 x h
theorem tell_ok {l mo x : Int} (h : agB l mo) (hx : 0 ≤ x ∧ x ≤ 100) : Ledger_tell (iI l) (iI mo) (iI x) = some (iI (min l x), iI (max mo x)) := by
  obtain ⟨h1, h2, h3, h4⟩ := h
  unfold Ledger_tell
  rw [iI_min ⟨by omega, by omega⟩ ⟨by omega, by omega⟩, iI_max ⟨by omega, by omega⟩ ⟨by omega, by omega⟩]
theorem at48 (st w : Nat) : nI st * 12 + nI w = nI (st * 12 + w) := by
  rw [show nI st * 12 = nI (st * 12) from nI_mulN st 12, nI_ad]
section STR
variable {n : Nat} {nx : Nat → Nat} {next needs changes row : Nat → Int32} {s N C : Nat → Int} {st thr : Nat}
theorem lackAt_ok (hst : st ≤ 3) (hN : ∀ w, w < 12 → needs (st * 12 + w) = iI (N w)) (hNb : ∀ w, w < 12 → sm31 (N w)) (hr : rowI row s) (hs : ∀ w, w < 12 → sm31 (s w)) :
    (Ledger_lackAt needs row (nI st) = some (-1) ∧ ∀ w, w < 12 → N w ≤ s w) ∨ ∃ w0, w0 < 12 ∧ Ledger_lackAt needs row (nI st) = some (nI w0) ∧ s w0 < N w0 := by
  obtain ⟨r, r1, r2⟩ := lp_inv (f := Ledger_lackAt_L2 (nI st) needs row) (fun k u => u = nI k ∧ ∀ w, w < k → N w ≤ s w) 12 (fun r => (∃ w0, r = Sum.inl (nI w0) ∧ w0 < 12 ∧ s w0 < N w0) ∨ (r = Sum.inr () ∧ ∀ w, w < 12 → N w ≤ s w))
    (by
      rintro k u hk ⟨rfl, e2⟩
      have hhead : Ledger_lackAt_L2 (nI st) needs row (nI k) = if iI (s k) < iI (N k) then some (.inr (.inl (nI k))) else some (.inl (nI k + 1)) := by
        unfold Ledger_lackAt_L2
        rw [if_pos (show nI k < 12 from (nI_ltN (b := 12) (by omega) (by omega)).mpr hk), gd_eq (ixN hk (by omega)), at48, gd_eq (ixN (show st * 12 + k < 48 by omega) (by omega)), nI_clamp (show k < 2 ^ 31 by omega), nI_clamp (show st * 12 + k < 2 ^ 31 by omega), hr k hk, hN k hk]
      by_cases z : s k < N k
      · right
        exact ⟨_, hhead.trans (if_pos ((iI_lt (hs k hk) (hNb k hk)).mpr z)), Or.inl ⟨k, rfl, hk, z⟩⟩
      · left
        refine ⟨_, hhead.trans (if_neg (fun y => z ((iI_lt (hs k hk) (hNb k hk)).mp y))), nI_ad k 1, fun w hw => ?_⟩
        by_cases y : w = k
        · rw [y]; omega
        · exact e2 w (by omega))
    (by
      rintro u ⟨rfl, e2⟩
      refine ⟨Sum.inr (), ?_, Or.inr ⟨rfl, e2⟩⟩
      unfold Ledger_lackAt_L2
      exact if_neg (by decide))
    0 0 (Nat.zero_le _) ⟨rfl, fun w hw => by omega⟩
  unfold Ledger_lackAt
  rw [ob_eq r1]
  rcases r2 with ⟨w0, rfl, a1, a2⟩ | ⟨rfl, a1⟩
  · exact Or.inr ⟨w0, a1, rfl, a2⟩
  · exact Or.inl ⟨rfl, a1⟩
theorem change_ok (hst : st ≤ 3) (hC : ∀ w, w < 12 → changes (st * 12 + w) = iI (C w)) (hr : rowI row s) (t : Int) : ∃ row', Ledger_change changes row (nI st) (iI t) = some row' ∧ rowI row' (fun w => s w + t * C w) := by
  obtain ⟨r, r1, r2⟩ := lp_inv (f := Ledger_change_L2 (nI st) (iI t) changes) (fun k u => u.1 = nI k ∧ ∀ w, w < 12 → u.2 w = iI (if w < k then s w + t * C w else s w)) 12 (fun r => rowI r (fun w => s w + t * C w))
    (by
      rintro k ⟨u1, ro⟩ hk ⟨e1, e2⟩
      dsimp only at e1 e2
      subst e1
      left
      refine ⟨(nI k + 1, upd ro k (iI (s k + t * C k))), ?_, nI_ad k 1, fun w hw => ?_⟩
      · unfold Ledger_change_L2
        dsimp only
        rw [if_pos (show nI k < 12 from (nI_ltN (b := 12) (by omega) (by omega)).mpr hk), gd_eq (ixN hk (by omega)), at48, gd_eq (ixN (show st * 12 + k < 48 by omega) (by omega)), gd_eq (ixN hk (by omega)), nI_clamp (show k < 2 ^ 31 by omega), nI_clamp (show st * 12 + k < 2 ^ 31 by omega), e2 k hk, if_neg (by omega), hC k hk, iI_mul, iI_add]
      · show upd ro k _ w = _
        by_cases y : w = k
        · rw [y, upd_at, if_pos (by omega)]
        · rw [upd_ne y, e2 w hw]
          by_cases y2 : w < k
          · rw [if_pos y2, if_pos (by omega)]
          · rw [if_neg y2, if_neg (by omega)])
    (by
      rintro ⟨u1, ro⟩ ⟨e1, e2⟩
      dsimp only at e1 e2
      subst e1
      refine ⟨ro, ?_, fun w hw => by rw [e2 w hw, if_pos hw]⟩
      unfold Ledger_change_L2
      exact if_neg (show ¬ nI 12 < 12 by decide))
    0 (0, row) (Nat.zero_le _) ⟨rfl, fun w hw => by rw [if_neg (by omega)]; exact hr w hw⟩
  exact ⟨r, ob_eq r1, r2⟩
/-- the last lost line: which moves will do -/
def vaP (N s : Nat → Int) (p : Nat × Nat) : Prop := 2 ≤ s p.1 ∧ ∀ w, w < 12 → N w ≤ mvI s p w
noncomputable def hhS (N C s : Nat → Int) (thr : Nat) (p : Nat × Nat) : List Int := @ite (List Int) (vaP N s p) (Classical.propDecidable _) [mvI s p thr + C thr] []
theorem hh_yes {p : Nat × Nat} (h : vaP N s p) : hhS N C s thr p = [mvI s p thr + C thr] := if_pos h
theorem hh_no {p : Nat × Nat} (h : ¬ vaP N s p) : hhS N C s thr p = [] := if_neg h
theorem hh_len (a : Nat) : ∀ k, ((mvA nx a k).flatMap (hhS N C s thr)).length = cnP (fun b => (nx a).testBit b = true ∧ vaP N s (a, b)) k := by
  intro k
  induction k with
  | zero => rfl
  | succ k ih =>
    show ((mvA nx a k ++ (if (nx a).testBit k then [(a, k)] else [])).flatMap (hhS N C s thr)).length = _
    rw [List.flatMap_append, List.length_append, ih]
    cases hb : (nx a).testBit k with
    | false => rw [if_neg (by decide), (cnP_succ (fun b => (nx a).testBit b = true ∧ vaP N s (a, b)) k).2 (fun y => by rw [hb] at y; cases y.1)]; rfl
    | true =>
      rw [if_pos rfl, List.flatMap_singleton]
      by_cases h : vaP N s (a, k)
      · rw [(cnP_succ (fun b => (nx a).testBit b = true ∧ vaP N s (a, b)) k).1 ⟨hb, h⟩, hh_yes h]; rfl
      · rw [(cnP_succ (fun b => (nx a).testBit b = true ∧ vaP N s (a, b)) k).2 (fun y => h y.2), hh_no h]; rfl
theorem hh_mem {a : Nat} {x : Int} : x ∈ (mvA nx a n).flatMap (hhS N C s thr) ↔ ∃ b, b < n ∧ (nx a).testBit b = true ∧ vaP N s (a, b) ∧ x = mvI s (a, b) thr + C thr := by
  rw [List.mem_flatMap]
  constructor
  · rintro ⟨p, p1, p2⟩
    obtain ⟨q1, q2, q3⟩ := mvA_mem.mp p1
    obtain ⟨c, b⟩ := p
    have q1 : c = a := q1
    subst q1
    by_cases h : vaP N s (c, b)
    · rw [hh_yes h, List.mem_singleton] at p2
      exact ⟨b, q2, q3, h, p2⟩
    · rw [hh_no h] at p2; cases p2
  · rintro ⟨b, b1, b2, b3, b4⟩
    exact ⟨(a, b), mvA_mem.mpr ⟨rfl, b1, b2⟩, by rw [hh_yes b3, List.mem_singleton]; exact b4⟩
theorem mv_at {a b : Nat} (hab : ¬ a = b) (w : Nat) : mvI s (a, b) w = if w = a then s w - 2 else if w = b then s w + 1 else s w := by
  unfold mvI dlt
  by_cases h1 : w = a
  · rw [if_pos h1, if_pos h1, if_neg (fun y => hab (h1.symm.trans y))]; omega
  · rw [if_neg h1, if_neg h1]
    by_cases h2 : w = b
    · rw [if_pos h2, if_pos h2]; omega
    · rw [if_neg h2, if_neg h2]; omega
/-- one well from which the last lost line goes -/
theorem last_a (hG : GoodG n nx) (hx : ∀ w, w < 12 → next w = nI (nx w)) (hL : st ≤ 3) (hN : ∀ w, w < 12 → needs (st * 12 + w) = iI (N w)) (hNb : ∀ w, w < 12 → 0 ≤ N w ∧ N w ≤ 100) (hr : rowI row s) (hs : stB s 60) (hthr : thr < 12) {tg : Nat → Prop} {tgt : Int32} (htg : ∀ a, a < n → nI (nx a) &&& tgt = nI (mkP n (fun b => (nx a).testBit b = true ∧ tg b)))
    (hva : ∀ a b, a < n → (nx a).testBit b = true → (vaP N s (a, b) ↔ tg b ∧ N a ≤ s a - 2)) {a : Nat} (ha : a < n) (hout : oiB ((mvA nx a n).flatMap (hhS N C s thr))) {W : Nat} {l mo : Int} (hag : agB l mo) :
    ∃ w' l' m', Ledger_fillLast_L90 (nI st) tgt (iI (s thr + C thr)) needs row (nI thr) (nI n) next (nI a, nI W, iI l, iI mo) = some (.inl (nI a + 1, w', l', m')) ∧ acI ((mvA nx a n).flatMap (hhS N C s thr)) W l mo w' l' m' := by
  have n12 := hG.1
  have h2n : 2 ^ n ≤ 2 ^ 12 := Nat.pow_le_pow_right (by omega) n12
  have hir := hG.2.2.2.2
  have h31 : ∀ P, mkP n P < 2 ^ 12 := fun P => Nat.lt_of_lt_of_le (mkP_lt n P) h2n
  have hma := h31 (fun b => (nx a).testBit b = true ∧ tg b)
  obtain ⟨a1, a2, a3, a4⟩ := id hag
  have hsa := hs a (by omega)
  have hNa := hNb a (by omega)
  have hpt : 2 ^ thr < 2 ^ 12 := Nat.pow_lt_pow_right (by omega) hthr
  have hempty : ((mvA nx a n).flatMap (hhS N C s thr)) = [] → ∃ w' l' m', some (Sum.inl (nI a + 1, nI W, iI l, iI mo)) = some (Sum.inl (α := Int32 × Int32 × Int32 × Int32) (β := Int32 × Int32 × Int32) (nI a + 1, w', l', m')) ∧ acI ((mvA nx a n).flatMap (hhS N C s thr)) W l mo w' l' m' := fun h => by
    rw [h]
    exact ⟨_, _, _, rfl, rfl, rfl, rfl⟩
  have hnil : (∀ b, b < n → (nx a).testBit b = true → ¬ vaP N s (a, b)) → ((mvA nx a n).flatMap (hhS N C s thr)) = [] := fun h => by
    rw [List.eq_nil_iff_forall_not_mem]
    intro x hx
    obtain ⟨b, b1, b2, b3, -⟩ := hh_mem.mp hx
    exact h b b1 b2 b3
  unfold Ledger_fillLast_L90 Ledger_fillLast_L90_J213
  dsimp only
  rw [if_pos ((nI_ltN (by omega) (by omega)).mpr ha), gd_eq (ixN (show a < 12 by omega) (by omega)), nI_clamp (show a < 2 ^ 31 by omega), hx a (by omega), htg a ha]
  by_cases z1 : mkP n (fun b => (nx a).testBit b = true ∧ tg b) = 0
  · rw [z1, if_pos (show nI 0 = 0 from rfl)]
    refine hempty (hnil (fun b b1 b2 b3 => ?_))
    have := (mkP_bit n (fun b => (nx a).testBit b = true ∧ tg b) b).mpr ⟨b1, b2, ((hva a b ha b2).mp b3).1⟩
    rw [z1, Nat.zero_testBit] at this
    cases this
  · rw [if_neg (show ¬ nI (mkP n (fun b => (nx a).testBit b = true ∧ tg b)) = 0 from fun y => z1 ((nI_inj (b := 0) (by omega) (by omega)).mp y)), gd_eq (ixN (show a < 12 by omega) (by omega)), at48, gd_eq (ixN (show st * 12 + a < 48 by omega) (by omega)), nI_clamp (show st * 12 + a < 2 ^ 31 by omega), hN a (by omega), hr a (by omega), show iI (s a) - 2 = iI (s a - 2) from iI_sub (s a) 2]
    by_cases z2 : s a - 2 < N a
    · rw [if_pos ((iI_lt ⟨by omega, by omega⟩ ⟨by omega, by omega⟩).mpr z2)]
      refine hempty (hnil (fun b b1 b2 b3 => ?_))
      have := ((hva a b ha b2).mp b3).2
      omega
    · rw [if_neg (fun y => z2 ((iI_lt ⟨by omega, by omega⟩ ⟨by omega, by omega⟩).mp y)), ob_eq (bitCount_all _ (by omega)), popc_mkP n12]
      have hvi : ∀ b, b < n → (nx a).testBit b = true → (vaP N s (a, b) ↔ tg b) := fun b b1 b2 => (hva a b ha b2).trans ⟨fun y => y.1, fun y => ⟨y, by omega⟩⟩
      have hcnt : cnP (fun b => (nx a).testBit b = true ∧ tg b) n = ((mvA nx a n).flatMap (hhS N C s thr)).length := by
        rw [hh_len]
        have : ∀ k, k ≤ n → cnP (fun b => (nx a).testBit b = true ∧ tg b) k = cnP (fun b => (nx a).testBit b = true ∧ vaP N s (a, b)) k := by
          intro k
          induction k with
          | zero => intro _; rfl
          | succ k ih =>
            intro hk
            by_cases y : (nx a).testBit k = true ∧ tg k
            · rw [(cnP_succ (fun b => (nx a).testBit b = true ∧ tg b) k).1 y, (cnP_succ (fun b => (nx a).testBit b = true ∧ vaP N s (a, b)) k).1 ⟨y.1, (hvi k (by omega) y.1).mpr y.2⟩, ih (by omega)]
            · rw [(cnP_succ (fun b => (nx a).testBit b = true ∧ tg b) k).2 y, (cnP_succ (fun b => (nx a).testBit b = true ∧ vaP N s (a, b)) k).2 (fun y2 => y ⟨y2.1, (hvi k (by omega) y2.1).mp y2.2⟩), ih (by omega)]
        exact this n (Nat.le_refl _)
      rw [hcnt, nI_ad]
      -- what is told
      have hbit : ((nI (mkP n (fun b => (nx a).testBit b = true ∧ tg b)) >>> (nI thr &&& 31)) &&& 1) = if (mkP n (fun b => (nx a).testBit b = true ∧ tg b)).testBit thr then 1 else 0 := bit_nI (by omega) (by omega)
      have hless : nI (mkP n (fun b => (nx a).testBit b = true ∧ tg b)) &&& (((1 : Int32) <<< (nI thr &&& 31)) ^^^ (-1)) = nI (less (mkP n (fun b => (nx a).testBit b = true ∧ tg b)) (2 ^ thr)) := by
        rw [shl_nI (by omega), nand_nI (by omega) (by omega)]
      have hll := less_lt (b := 2 ^ thr) hma
      have hval : ∀ b, (nx a).testBit b = true → mvI s (a, b) thr + C thr = if b = thr then s thr + C thr + 1 else if a = thr then s thr + C thr - 2 else s thr + C thr := fun b hb => by
        have hab : ¬ a = b := fun e => by rw [← e, hir] at hb; cases hb
        rw [mv_at hab]
        by_cases y1 : b = thr
        · rw [if_pos y1, if_neg (fun y => hab (by omega)), if_pos y1.symm]; omega
        · rw [if_neg y1]
          by_cases y2 : a = thr
          · rw [if_pos y2, if_pos y2.symm]; omega
          · rw [if_neg y2, if_neg (fun y => y2 y.symm), if_neg (fun y => y1 y.symm)]
      -- the second of the two
      have hJ : ∀ (ys : List Int) (l2 mo2 : Int), agB l2 mo2 → (∀ x, x ∈ ys → x ∈ (mvA nx a n).flatMap (hhS N C s thr)) → (∀ b, b < n → (nx a).testBit b = true → tg b → b = thr → s thr + C thr + 1 ∈ ys) → l2 = ys.foldl min l → mo2 = ys.foldl max mo →
          ∃ w' l' m', Ledger_fillLast_L90_J177 (nI st) tgt (iI (s thr + C thr)) (nI a) (nI (mkP n (fun b => (nx a).testBit b = true ∧ tg b))) needs row (nI thr) (nI (W + ((mvA nx a n).flatMap (hhS N C s thr)).length)) (iI l2) (iI mo2) (nI n) next = some (.inl (nI a + 1, w', l', m')) ∧ acI ((mvA nx a n).flatMap (hhS N C s thr)) W l mo w' l' m' := by
        intro ys l2 mo2 h2 hys hys2 hl2 hm2
        unfold Ledger_fillLast_L90_J177 Ledger_fillLast_L90_J210 Ledger_fillLast_L90_J213
        rw [hless]
        by_cases y : less (mkP n (fun b => (nx a).testBit b = true ∧ tg b)) (2 ^ thr) = 0
        · rw [y, if_pos (show nI 0 = 0 from rfl)]
          have hset : ∀ x, x ∈ ys ↔ x ∈ (mvA nx a n).flatMap (hhS N C s thr) := fun x => by
            refine ⟨hys x, fun hx => ?_⟩
            obtain ⟨b, b1, b2, b3, b4⟩ := hh_mem.mp hx
            have htb := (hvi b b1 b2).mp b3
            have hbt : b = thr := by
              refine Classical.byContradiction (fun hne => ?_)
              have : (less (mkP n (fun b => (nx a).testBit b = true ∧ tg b)) (2 ^ thr)).testBit b = true := by
                rw [less_bit, (mkP_bit n (fun b => (nx a).testBit b = true ∧ tg b) b).mpr ⟨b1, b2, htb⟩, Nat.testBit_two_pow, decide_eq_false (fun e => hne e.symm)]
                rfl
              rw [y, Nat.zero_testBit] at this
              cases this
            rw [hval b b2, if_pos hbt] at b4
            rw [b4]
            exact hys2 b b1 b2 htb hbt
          refine ⟨_, _, _, rfl, rfl, ?_, ?_⟩
          · rw [hl2, (fold_set hset l).1]
          · rw [hm2, (fold_set hset mo).2]
        · rw [if_neg (show ¬ nI (less (mkP n (fun b => (nx a).testBit b = true ∧ tg b)) (2 ^ thr)) = 0 from fun q => y ((nI_inj (b := 0) (by omega) (by omega)).mp q))]
          have hex : ∃ b, b < n ∧ (nx a).testBit b = true ∧ tg b ∧ ¬ b = thr := by
            refine Classical.byContradiction (fun hno => y (zero_of_bits (fun i => ?_)))
            rw [less_bit]
            cases hb : (mkP n (fun b => (nx a).testBit b = true ∧ tg b)).testBit i with
            | false => rfl
            | true =>
              obtain ⟨q1, q2, q3⟩ := (mkP_bit n (fun b => (nx a).testBit b = true ∧ tg b) i).mp hb
              rw [Nat.testBit_two_pow]
              by_cases e : thr = i
              · rw [decide_eq_true e]; rfl
              · exact absurd ⟨i, q1, q2, q3, fun q => e q.symm⟩ hno
          obtain ⟨b0, c1, c2, c3, c4⟩ := hex
          have hin : (if a = thr then s thr + C thr - 2 else s thr + C thr) ∈ (mvA nx a n).flatMap (hhS N C s thr) := hh_mem.mpr ⟨b0, c1, c2, (hvi b0 c1 c2).mpr c3, by rw [hval b0 c2, if_neg c4]⟩
          have hset : ∀ x, x ∈ ys ++ [if a = thr then s thr + C thr - 2 else s thr + C thr] ↔ x ∈ (mvA nx a n).flatMap (hhS N C s thr) := fun x => by
            rw [List.mem_append, List.mem_singleton]
            constructor
            · rintro (q | q)
              · exact hys x q
              · rw [q]; exact hin
            · intro hx
              obtain ⟨b, b1, b2, b3, b4⟩ := hh_mem.mp hx
              rw [hval b b2] at b4
              by_cases e : b = thr
              · rw [if_pos e] at b4
                rw [b4]
                exact Or.inl (hys2 b b1 b2 ((hvi b b1 b2).mp b3) e)
              · rw [if_neg e] at b4
                exact Or.inr b4
          have hend : ∀ x : Int, x = (if a = thr then s thr + C thr - 2 else s thr + C thr) → ob (Ledger_tell (iI l2) (iI mo2) (iI x)) (fun x1 => some (Sum.inl (α := Int32 × Int32 × Int32 × Int32) (β := Int32 × Int32 × Int32) (nI a + 1, nI (W + ((mvA nx a n).flatMap (hhS N C s thr)).length), x1.1, x1.2))) = some (.inl (nI a + 1, nI (W + ((mvA nx a n).flatMap (hhS N C s thr)).length), iI ((ys ++ [if a = thr then s thr + C thr - 2 else s thr + C thr]).foldl min l), iI ((ys ++ [if a = thr then s thr + C thr - 2 else s thr + C thr]).foldl max mo))) := fun x hx => by
            rw [ob_eq (tell_ok h2 (by rw [hx]; exact hout _ hin)), List.foldl_append, List.foldl_append, ← hl2, ← hm2, hx]
            rfl
          refine ⟨nI (W + ((mvA nx a n).flatMap (hhS N C s thr)).length), iI ((ys ++ [if a = thr then s thr + C thr - 2 else s thr + C thr]).foldl min l), iI ((ys ++ [if a = thr then s thr + C thr - 2 else s thr + C thr]).foldl max mo), ?_, rfl, ?_, ?_⟩
          rotate_left
          · exact congrArg iI (fold_set hset l).1
          · exact congrArg iI (fold_set hset mo).2
          · by_cases e : a = thr
            · rw [if_pos (by rw [e]), show iI (s thr + C thr) - 2 = iI (s thr + C thr - 2) from iI_sub _ 2]
              exact hend _ (by rw [if_pos e])
            · rw [if_neg (fun q => e ((nI_inj (by omega) (by omega)).mp q))]
              exact hend _ (by rw [if_neg e])
      rw [hbit]
      by_cases y : (mkP n (fun b => (nx a).testBit b = true ∧ tg b)).testBit thr = true
      · obtain ⟨t1, t2, t3⟩ := (mkP_bit n (fun b => (nx a).testBit b = true ∧ tg b) thr).mp y
        have hin : s thr + C thr + 1 ∈ (mvA nx a n).flatMap (hhS N C s thr) := hh_mem.mpr ⟨thr, t1, t2, (hvi thr t1 t2).mpr t3, by rw [hval thr t2, if_pos rfl]⟩
        rw [if_pos y, if_neg one_ne0, show iI (s thr + C thr) + 1 = iI (s thr + C thr + 1) from iI_add _ 1, ob_eq (tell_ok hag (hout _ hin))]
        exact hJ [s thr + C thr + 1] _ _ (ag_fold (xs := [s thr + C thr + 1]) hag (fun x hx => by rw [List.mem_singleton] at hx; rw [hx]; exact hout _ hin)) (fun x hx => by rw [List.mem_singleton] at hx; rw [hx]; exact hin) (fun _ _ _ _ _ => List.mem_singleton.mpr rfl) rfl rfl
      · rw [if_neg y, if_pos rfl]
        exact hJ [] l mo hag (fun x hx => by cases hx) (fun b b1 b2 b3 b4 => by
          rw [b4] at b1 b2 b3
          exact absurd ((mkP_bit n (fun b => (nx a).testBit b = true ∧ tg b) thr).mpr ⟨b1, b2, b3⟩) y) rfl rfl
end STR
