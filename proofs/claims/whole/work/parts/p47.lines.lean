/-! LINES of a land -/
def minus (adj : Nat → Nat → Bool) (a b : Nat) : Nat → Nat → Bool := fun p q => adj p q && !(decide (p = a ∧ q = b) || decide (p = b ∧ q = a))
theorem minus_sy {adj : Nat → Nat → Bool} (h : Sy adj) (a b : Nat) : Sy (minus adj a b) := by
  refine ⟨fun p q => ?_, fun p => ?_⟩
  · unfold minus
    rw [h.1 p q, Bool.or_comm (decide (p = a ∧ q = b)), decide_eq_decide.mpr (show p = b ∧ q = a ↔ q = a ∧ p = b from ⟨fun z => ⟨z.2, z.1⟩, fun z => ⟨z.2, z.1⟩⟩), decide_eq_decide.mpr (show p = a ∧ q = b ↔ q = b ∧ p = a from ⟨fun z => ⟨z.2, z.1⟩, fun z => ⟨z.2, z.1⟩⟩)]
  · unfold minus
    rw [h.2 p]; rfl
/-- two masks changed -/
theorem two_upd {f : Nat → Int32} {nx : Nat → Nat} {a b A B w : Nat} (h : f w = nI (nx w)) : upd (upd f a (nI A)) b (nI B) w = nI (if w = b then B else if w = a then A else nx w) := by
  by_cases e : w = b
  · subst e; rw [upd_at, if_pos rfl]
  · rw [upd_ne e, if_neg e]
    by_cases e2 : w = a
    · subst e2; rw [upd_at, if_pos rfl]
    · rw [upd_ne e2, if_neg e2]; exact h
theorem nx_plus {n : Nat} {adj : Nat → Nat → Bool} {a b : Nat} (ha : a < n) (hb : b < n) (hab : a ≠ b) (w : Nat) :
    (if w = b then nxOf n adj b ||| 2 ^ a else if w = a then nxOf n adj a ||| 2 ^ b else nxOf n adj w) = nxOf n (plus adj a b) w := by
  apply Nat.eq_of_testBit_eq
  intro v
  rw [nxOf_bit]
  unfold plus
  by_cases e : w = b
  · subst e
    rw [if_pos rfl, Nat.testBit_or, nxOf_bit, Nat.testBit_two_pow, decide_eq_true hb]
    by_cases hv : v = a
    · subst hv; simp [ha]
    · simp [hv, Ne.symm hv, Ne.symm hab]
  · rw [if_neg e]
    by_cases e2 : w = a
    · subst e2
      rw [if_pos rfl, Nat.testBit_or, nxOf_bit, Nat.testBit_two_pow, decide_eq_true ha]
      by_cases hv : v = b
      · subst hv; simp [hb]
      · simp [hv, Ne.symm hv, e]
    · rw [if_neg e2, nxOf_bit]; simp [e, e2]
theorem nx_minus {n : Nat} {adj : Nat → Nat → Bool} {a b : Nat} (hab : a ≠ b) (w : Nat) :
    (if w = b then less (nxOf n adj b) (2 ^ a) else if w = a then less (nxOf n adj a) (2 ^ b) else nxOf n adj w) = nxOf n (minus adj a b) w := by
  apply Nat.eq_of_testBit_eq
  intro v
  rw [nxOf_bit]
  unfold minus
  by_cases e : w = b
  · subst e
    rw [if_pos rfl, less_bit, nxOf_bit, Nat.testBit_two_pow]
    by_cases hv : v = a
    · subst hv; simp
    · simp [hv, Ne.symm hv, Ne.symm hab]
  · rw [if_neg e]
    by_cases e2 : w = a
    · subst e2
      rw [if_pos rfl, less_bit, nxOf_bit, Nat.testBit_two_pow]
      by_cases hv : v = b
      · subst hv; simp
      · simp [hv, Ne.symm hv, e]
    · rw [if_neg e2, nxOf_bit]; simp [e, e2]
theorem nx_lt32 {n : Nat} (hn : n ≤ 12) (adj : Nat → Nat → Bool) (w : Nat) : nxOf n adj w < 2 ^ 32 := Nat.lt_of_lt_of_le (nxOf_lt n adj w) (Nat.le_trans (Nat.pow_le_pow_right (by decide) hn) (by decide))
theorem pw_lt32 {w : Nat} (hw : w < 12) : 2 ^ w < 2 ^ 32 := Nat.pow_lt_pow_right (by decide) (by omega)
theorem cm_part {n : Nat} (hn : n ≤ 12) {adj : Nat → Nat → Bool} {next : Nat → Int32} (h : CM n adj next) {a b : Nat} (ha : a < n) (hb : b < n) (hab : a ≠ b) :
    ∃ next', Land_part (nI n) next (nI a) (nI b) = some next' ∧ CM n (minus adj a b) next' := by
  refine ⟨upd (upd next a (nI (less (nxOf n adj a) (2 ^ b)))) b (nI (less (nxOf n adj b) (2 ^ a))), ?_, fun w hw => (two_upd (h w hw)).trans (by rw [nx_minus hab])⟩
  unfold Land_part
  rw [ob_eq (has_yes ha hn), if_neg one_ne0, ob_eq (has_yes hb hn), if_neg one_ne0, gd_eq (ixN (by omega) (by decide)), gd_eq (ixN (by omega) (by decide)), gd_eq (ixN (by omega) (by decide)), gd_eq (ixN (by omega) (by decide)), nI_clamp (by omega), nI_clamp (by omega), shl_nI (by omega), shl_nI (by omega), h a (by omega), upd_ne (Ne.symm hab), h b (by omega), nand_nI (nx_lt32 hn adj a) (pw_lt32 (by omega)), nand_nI (nx_lt32 hn adj b) (pw_lt32 (by omega))]
theorem has_m1 {n : Nat} (hn : n ≤ 12) : Land_has (nI n) (-1) = some 0 := has_no hn (fun w hw z => nI_pos (show w < 2 ^ 31 by omega) (by rw [← z]; decide))
section LN
variable {bytes tape : Nat → Int32} {E : Nat}
theorem j59_dead {v3 v4 F : Int32} (hF : ¬ F = 0) {i : Nat} (hi : i < 1000) (w : Int32) (next : Nat → Int32) : LandReader_readLine_J59 v3 v4 bytes 0 (nI i) F w next = some (0, nI i, F, next) := by
  unfold LandReader_readLine_J59
  exact (ob_eq (peek_dead (show i < 2 ^ 31 by omega))).trans ((if_neg (by decide)).trans ((if_neg (by decide)).trans ((ob_eq (failN hF _ _)).trans rfl)))
/-- a line, read by both -/
theorem line_ok (hT : TX bytes tape E) (hE : E ≤ 60) {n i k : Nat} (hn : n ≤ 12) (hi : i ≤ E) (hk : k ≤ 10) {adj : Nat → Nat → Bool} (hs : Sy adj) {next nextAt many : Nat → Int32} (hc : CM n adj next) (hm : many 0 = nI n) (hr : RMk 0 n adj nextAt) (f : Int32) :
    (∃ q F next' p' nx' nl', q < 1000 ∧ LandReader_readLine bytes (nI E) (nI i) 0 (nI n) next (nI k) = some (0, nI q, F, next') ∧ ¬ F = 0 ∧ Mo_readsLine tape (nI i) (nI E) f many nextAt (nI k) = some (0, p', F, nx', nl')) ∨
    ∃ adj' next' nx', k < 10 ∧ i + 3 ≤ E ∧ Sy adj' ∧ CM n adj' next' ∧ RMk 0 n adj' nx' ∧ LandReader_readLine bytes (nI E) (nI i) 0 (nI n) next (nI k) = some (nI E, nI (i + 3), 0, next') ∧ Mo_readsLine tape (nI i) (nI E) f many nextAt (nI k) = some (1, nI (i + 3), f, nx', nI (k + 1)) := by
  have e1 : nI i + 1 = nI (i + 1) := nI_ad i 1
  have e2 : nI (i + 1) + 1 = nI (i + 2) := nI_ad (i + 1) 1
  have e2' : nI i + 2 = nI (i + 2) := nI_ad i 2
  have e3 : nI (i + 2) + 1 = nI (i + 3) := nI_ad (i + 2) 1
  have ek : nI k + 1 = nI (k + 1) := nI_ad k 1
  have r0 : ∀ w, w < n → nextAt w = nI (nxOf n adj w) := fun w hw => by
    have := hr w hw
    rw [Nat.mul_zero, Nat.zero_add] at this
    exact this
  rcases letter_cases hT (show i < 1000 by omega) with ⟨w, hw, hiE, hcw, l1, l2, l3⟩ | ⟨hcw, l1, l2⟩
  · by_cases hk10 : k < 10
    · have hk10' : nI k < 10 := (nI_ltN (b := 10) (by omega) (by decide)).mpr hk10
      have cls : ∀ {x}, LandReader_readLine_J40 (nI i) (nI w) bytes (nI E) (nI (i + 1)) 0 (nI n) next = some x → LandReader_readLine bytes (nI E) (nI i) 0 (nI n) next (nI k) = some x := by
        intro x hx
        unfold LandReader_readLine
        exact (ob_eq (l1 0)).trans ((if_neg (nI_pos (by omega))).trans ((if_pos hk10').trans hx))
      have ref : ∀ {x}, (gd (ix 0 4) (if (nI w) < (many (0 : Int32).toNatClampNeg) then (ob (Mo_here tape (nI i + 1) (nI E)) fun x8 => if x8 = 45 then (Mo_readsLine_J99 (nI w) 1 tape (nI i + 1) (nI E) f many nextAt (nI k + 1)) else (Mo_readsLine_J99 (nI w) 0 tape (nI i + 1) (nI E) f many nextAt (nI k + 1))) else (ob (Mo_wrongAt f 7 (nI i)) fun x10 => gd (isB x10.1) (some (x10.1, nI i, x10.2, nextAt, nI k + 1))))) = some x → Mo_readsLine tape (nI i) (nI E) f many nextAt (nI k) = some x := by
        intro x hx
        unfold Mo_readsLine
        refine (ob_eq l2).trans ((if_neg one_ne0).trans ((if_neg (neN (b := 10) (by omega) (by decide) (by omega))).trans ((ob_eq (here_eq hT (by omega))).trans ?_)))
        rw [l3]
        exact hx
      by_cases hwn : w < n
      · have hwn' : nI w < nI n := (nI_ltN (by omega) (by omega)).mpr hwn
        have cls2 : ∀ {x}, LandReader_readLine_J59 (nI i) (nI w) bytes (nI E) (nI (i + 1)) 0 (nI n) next = some x → LandReader_readLine bytes (nI E) (nI i) 0 (nI n) next (nI k) = some x := by
          intro x hx
          refine cls ?_
          unfold LandReader_readLine_J40
          exact (if_pos hwn').trans hx
        have ref2 : ∀ {x}, (if ch bytes E (i + 1) = 45 then (Mo_readsLine_J99 (nI w) 1 tape (nI (i + 1)) (nI E) f many nextAt (nI (k + 1))) else (Mo_readsLine_J99 (nI w) 0 tape (nI (i + 1)) (nI E) f many nextAt (nI (k + 1)))) = some x → Mo_readsLine tape (nI i) (nI E) f many nextAt (nI k) = some x := by
          intro x hx
          refine ref ?_
          refine (gd_eq (show ix 0 4 = true from rfl)).trans ((if_pos (show nI w < many (0 : Int32).toNatClampNeg from ?_)).trans ?_)
          · show nI w < many 0
            rw [hm]; exact hwn'
          · rw [e1, ek]
            exact (ob_eq (here_eq hT (by omega))).trans hx
        have hpk := peek_eq (bytes := bytes) (show E ≤ 260 by omega) (show i + 1 < 2 ^ 31 by omega)
        -- a sign: the second letter
        have sign : ∀ (v5 k0 : Int32), (v5 = 45 ∧ k0 = 1) ∨ (v5 = 47 ∧ k0 = 0) → (∀ {x}, LandReader_readLine_J98 (nI i) (nI w) v5 bytes (nI E) (nI (i + 1)) 0 (nI n) next = some x → LandReader_readLine bytes (nI E) (nI i) 0 (nI n) next (nI k) = some x) → (∀ {x}, Mo_readsLine_J123 (nI w) k0 tape (nI (i + 1)) (nI E) f many nextAt (nI (k + 1)) = some x → Mo_readsLine tape (nI i) (nI E) f many nextAt (nI k) = some x) →
            ((∃ q F next' p' nx' nl', q < 1000 ∧ LandReader_readLine bytes (nI E) (nI i) 0 (nI n) next (nI k) = some (0, nI q, F, next') ∧ ¬ F = 0 ∧ Mo_readsLine tape (nI i) (nI E) f many nextAt (nI k) = some (0, p', F, nx', nl')) ∨
    ∃ adj' next' nx', k < 10 ∧ i + 3 ≤ E ∧ Sy adj' ∧ CM n adj' next' ∧ RMk 0 n adj' nx' ∧ LandReader_readLine bytes (nI E) (nI i) 0 (nI n) next (nI k) = some (nI E, nI (i + 3), 0, next') ∧ Mo_readsLine tape (nI i) (nI E) f many nextAt (nI k) = some (1, nI (i + 3), f, nx', nI (k + 1))) := by
          intro v5 k0 hv c r
          have hsk : Tape_skip (nI (i + 1)) = some (nI (i + 2)) := by unfold Tape_skip; rw [e2]
          rcases letter_cases hT (show i + 2 < 1000 by omega) with ⟨v, hv12, hvE, hcv, m1, m2, m3⟩ | ⟨hcv, m1, m2⟩
          · have c' : ∀ {x}, (if nI v < nI n then (if nI v = nI w then (ob (Tape_fail (nI E) 0 8 (nI i + 2)) fun x3 => some (x3.1, nI (i + 3), x3.2, next)) else (if v5 = 45 then (ob (Land_join (nI n) next (nI w) (nI v)) fun x4 => some (nI E, nI (i + 3), 0, x4)) else (ob (Land_part (nI n) next (nI w) (nI v)) fun x5 => some (nI E, nI (i + 3), 0, x5)))) else (ob (Tape_fail (nI E) 0 7 (nI i + 2)) fun x8 => some (x8.1, nI (i + 3), x8.2, next))) = some x → LandReader_readLine bytes (nI E) (nI i) 0 (nI n) next (nI k) = some x := by
              intro x hx
              refine c ?_
              unfold LandReader_readLine_J98
              exact (ob_eq hsk).trans ((ob_eq (m1 0)).trans hx)
            have r' : ∀ {x}, (gd (ix 0 4) (if (nI v) < (many (0 : Int32).toNatClampNeg) then (if nI w = nI v then (ob (Mo_wrongAt f 8 (nI (i + 2))) fun x6 => gd (isB x6.1) (some (x6.1, nI (i + 2), x6.2, nextAt, nI (k + 1)))) else (if k0 = 0 then (gd (ix (nI w) 48) (Mo_readsLine_J239 (nI w) k0 (nI v) ((nextAt (nI w).toNatClampNeg) &&& (((1 : Int32) <<< (nI v &&& 31)) ^^^ (-1))) (nI w) tape (nI (i + 3)) (nI E) f many nextAt (nI (k + 1)))) else (gd (ix (nI w) 48) (Mo_readsLine_J239 (nI w) k0 (nI v) ((nextAt (nI w).toNatClampNeg) ||| ((1 : Int32) <<< (nI v &&& 31))) (nI w) tape (nI (i + 3)) (nI E) f many nextAt (nI (k + 1)))))) else (ob (Mo_wrongAt f 7 (nI (i + 2))) fun x12 => gd (isB x12.1) (some (x12.1, nI (i + 2), x12.2, nextAt, nI (k + 1)))))) = some x → Mo_readsLine tape (nI i) (nI E) f many nextAt (nI k) = some x := by
              intro x hx
              refine r ?_
              unfold Mo_readsLine_J123
              rw [e2]
              refine (ob_eq m2).trans ((if_neg one_ne0).trans ((ob_eq (here_eq hT (by omega))).trans ?_))
              rw [m3, e3]
              exact hx
            by_cases hvn : v < n
            · have hvn' : nI v < nI n := (nI_ltN (by omega) (by omega)).mpr hvn
              have hvm : nI v < many (0 : Int32).toNatClampNeg := by
                show nI v < many 0
                rw [hm]; exact hvn'
              by_cases hvw : v = w
              · left
                refine ⟨i + 3, flt 8 (i + 2), next, nI (i + 2), nextAt, nI (k + 1), by omega, c' ?_, flt_ne (by omega) (by omega), r' ?_⟩
                · rw [if_pos hvn', if_pos (by rw [hvw]), ob_eq (fail0 _ _ _), e2']; rfl
                · rw [gd_eq (show ix 0 4 = true from rfl), if_pos hvm, if_pos (by rw [hvw])]; rfl
              · right
                have hne : ¬ nI w = nI v := neN (by omega) (by omega) (Ne.symm hvw)
                have hne' : ¬ nI v = nI w := neN (by omega) (by omega) hvw
                rcases hv with ⟨rfl, rfl⟩ | ⟨rfl, rfl⟩
                · obtain ⟨next', g1, g2⟩ := cm_join hn hs hc hwn hvn (Ne.symm hvw)
                  refine ⟨plus adj w v, next', upd (upd nextAt w (nI (nxOf n adj w ||| 2 ^ v))) v (nI (nxOf n adj v ||| 2 ^ w)), hk10, by omega, plus_sy hs (Ne.symm hvw), g2, fun u hu => ?_, c' ?_, r' ?_⟩
                  · rw [Nat.mul_zero, Nat.zero_add]
                    exact (two_upd (r0 u hu)).trans (by rw [nx_plus hwn hvn (Ne.symm hvw)])
                  · rw [if_pos hvn', if_neg hne', if_pos rfl, ob_eq g1]
                  · rw [gd_eq (show ix 0 4 = true from rfl), if_pos hvm, if_neg hne, if_neg one_ne0, gd_eq (ixN (by omega) (by decide))]
                    unfold Mo_readsLine_J239 Mo_readsLine_J274
                    rw [gd_eq (ixN (by omega) (by decide)), if_neg one_ne0, gd_eq (ixN (by omega) (by decide)), gd_eq (ixN (by omega) (by decide)), nI_clamp (by omega), nI_clamp (by omega), shl_nI (by omega), shl_nI (by omega), r0 w hwn, or_nI (nx_lt32 hn adj w) (pw_lt32 (by omega)), upd_ne hvw, r0 v hvn, or_nI (nx_lt32 hn adj v) (pw_lt32 (by omega))]
                · obtain ⟨next', g1, g2⟩ := cm_part hn hc hwn hvn (Ne.symm hvw)
                  refine ⟨minus adj w v, next', upd (upd nextAt w (nI (less (nxOf n adj w) (2 ^ v)))) v (nI (less (nxOf n adj v) (2 ^ w))), hk10, by omega, minus_sy hs w v, g2, fun u hu => ?_, c' ?_, r' ?_⟩
                  · rw [Nat.mul_zero, Nat.zero_add]
                    exact (two_upd (r0 u hu)).trans (by rw [nx_minus (Ne.symm hvw)])
                  · rw [if_pos hvn', if_neg hne', if_neg (by decide), ob_eq g1]
                  · rw [gd_eq (show ix 0 4 = true from rfl), if_pos hvm, if_neg hne, if_pos rfl, gd_eq (ixN (by omega) (by decide))]
                    unfold Mo_readsLine_J239 Mo_readsLine_J274
                    rw [gd_eq (ixN (by omega) (by decide)), if_pos rfl, gd_eq (ixN (by omega) (by decide)), gd_eq (ixN (by omega) (by decide)), nI_clamp (by omega), nI_clamp (by omega), shl_nI (by omega), shl_nI (by omega), r0 w hwn, nand_nI (nx_lt32 hn adj w) (pw_lt32 (by omega)), upd_ne hvw, r0 v hvn, nand_nI (nx_lt32 hn adj v) (pw_lt32 (by omega))]
            · left
              have hvn' : ¬ nI v < nI n := fun z => hvn ((nI_ltN (by omega) (by omega)).mp z)
              have hvm : ¬ nI v < many (0 : Int32).toNatClampNeg := by
                show ¬ nI v < many 0
                rw [hm]; exact hvn'
              refine ⟨i + 3, flt 7 (i + 2), next, nI (i + 2), nextAt, nI (k + 1), by omega, c' ?_, flt_ne (by omega) (by omega), r' ?_⟩
              · rw [if_neg hvn', ob_eq (fail0 _ _ _), e2']; rfl
              · rw [gd_eq (show ix 0 4 = true from rfl), if_neg hvm]; rfl
          · left
            refine ⟨i + 2, flt 1 (i + 2), next, nI (i + 2), nextAt, nI (k + 1), by omega, c ?_, flt_ne (by omega) (by omega), r ?_⟩
            · unfold LandReader_readLine_J98
              have hne : ¬ (-1 : Int32) = nI w := fun z => nI_pos (show w < 2 ^ 31 by omega) (by rw [← z]; decide)
              refine (ob_eq hsk).trans ((ob_eq m1).trans ((if_pos (m1_lt hn)).trans ((if_neg hne).trans ?_)))
              have hj : Land_join (nI n) next (nI w) (-1) = some next := by
                unfold Land_join
                rw [ob_eq (has_yes hwn hn), if_neg one_ne0, ob_eq (has_m1 hn), if_pos rfl]
              have hp : Land_part (nI n) next (nI w) (-1) = some next := by
                unfold Land_part
                rw [ob_eq (has_yes hwn hn), if_neg one_ne0, ob_eq (has_m1 hn), if_pos rfl]
              by_cases h45 : v5 = 45
              · exact (if_pos h45).trans ((ob_eq hj).trans rfl)
              · exact (if_neg h45).trans ((ob_eq hp).trans rfl)
            · unfold Mo_readsLine_J123
              rw [e2]
              exact (ob_eq m2).trans rfl
        by_cases h45 : ch bytes E (i + 1) = 45
        · refine sign 45 1 (Or.inl ⟨rfl, rfl⟩) (fun hx => cls2 ?_) (fun hx => ref2 ?_)
          · unfold LandReader_readLine_J59
            rw [h45] at hpk
            exact (ob_eq hpk).trans ((if_pos rfl).trans hx)
          · rw [if_pos h45]
            unfold Mo_readsLine_J99
            exact (if_neg one_ne0).trans hx
        · by_cases h47 : ch bytes E (i + 1) = 47
          · refine sign 47 0 (Or.inr ⟨rfl, rfl⟩) (fun hx => cls2 ?_) (fun hx => ref2 ?_)
            · unfold LandReader_readLine_J59
              rw [h47] at hpk
              exact (ob_eq hpk).trans ((if_neg (by decide)).trans ((if_pos rfl).trans hx))
            · rw [if_neg h45]
              unfold Mo_readsLine_J99
              exact (if_pos rfl).trans ((ob_eq (here_eq hT (by omega))).trans ((if_pos h47).trans hx))
          · left
            refine ⟨i + 1, flt 1 (i + 1), next, nI (i + 1), nextAt, nI (k + 1), by omega, cls2 ?_, flt_ne (by omega) (by omega), ref2 ?_⟩
            · unfold LandReader_readLine_J59
              exact (ob_eq hpk).trans ((if_neg h45).trans ((if_neg h47).trans ((ob_eq (fail0 _ _ _)).trans rfl)))
            · rw [if_neg h45]
              unfold Mo_readsLine_J99
              exact (if_pos rfl).trans ((ob_eq (here_eq hT (by omega))).trans ((if_neg h47).trans rfl))
      · left
        have hwn' : ¬ nI w < nI n := fun z => hwn ((nI_ltN (by omega) (by omega)).mp z)
        have hF : ¬ flt 7 i = 0 := flt_ne (by omega) (by omega)
        refine ⟨i + 1, flt 7 i, next, nI i, nextAt, nI (k + 1), by omega, cls ?_, hF, ref ?_⟩
        · unfold LandReader_readLine_J40
          exact (if_neg hwn').trans ((ob_eq (fail0 _ _ _)).trans (j59_dead hF (by omega) _ _))
        · refine (gd_eq (show ix 0 4 = true from rfl)).trans ((if_neg (show ¬ nI w < many (0 : Int32).toNatClampNeg from ?_)).trans ?_)
          · show ¬ nI w < many 0
            rw [hm]; exact hwn'
          · rw [ek]; rfl
    · left
      have hk0 : k = 10 := by omega
      subst hk0
      have hF : ¬ flt 4 i = 0 := flt_ne (by omega) (by omega)
      refine ⟨i + 1, flt 4 i, next, nI i, nextAt, nI 10, by omega, ?_, hF, ?_⟩
      · unfold LandReader_readLine
        exact (ob_eq (l1 0)).trans ((if_neg (nI_pos (by omega))).trans ((if_neg (show ¬ (nI 10 : Int32) < 10 by decide)).trans ((ob_eq (fail0 _ _ _)).trans (j59_dead hF (by omega) _ _))))
      · unfold Mo_readsLine
        exact (ob_eq l2).trans ((if_neg one_ne0).trans ((if_pos rfl).trans rfl))
  · left
    have hF : ¬ flt 1 i = 0 := flt_ne (by omega) (by omega)
    refine ⟨i, flt 1 i, next, nI i, nextAt, nI k, by omega, ?_, hF, ?_⟩
    · unfold LandReader_readLine LandReader_readLine_J40
      exact (ob_eq l1).trans ((if_pos (show (-1 : Int32) < 0 by decide)).trans ((if_pos (m1_lt hn)).trans (j59_dead hF (by omega) _ _)))
    · unfold Mo_readsLine
      exact (ob_eq l2).trans rfl
/-- all lines -/
theorem lines_ok (hT : TX bytes tape E) (hE : E ≤ 60) {n i : Nat} (hn : n ≤ 12) (hi : i ≤ E) {adj : Nat → Nat → Bool} (hs : Sy adj) {next nextAt many : Nat → Int32} (hc : CM n adj next) (hm : many 0 = nI n) (hr : RMk 0 n adj nextAt) (f : Int32) :
    ∃ r r', lp (LandReader_readLand_L7 bytes (nI n)) (0, nI E, nI i, 0, next) = some r ∧ lp (Mo_land_L35 tape (nI E) many) (1, nI i, f, nextAt, 0) = some r' ∧
      ((∃ p F next' p' nx' nl', r = (0, p, F, next') ∧ ¬ F = 0 ∧ r' = (0, p', F, nx', nl')) ∨ ∃ j adj' next' nx' nl', r = (nI E, nI j, 0, next') ∧ r' = (1, nI j, f, nx', nl') ∧ Sy adj' ∧ CM n adj' next' ∧ RMk 0 n adj' nx') := by
  refine lp_sim2 (f := LandReader_readLand_L7 bytes (nI n)) (g := Mo_land_L35 tape (nI E) many)
    (fun k s t => ∃ i adj next nextAt, s = (nI k, nI E, nI i, 0, next) ∧ t = (1, nI i, f, nextAt, nI k) ∧ k ≤ 10 ∧ i ≤ E ∧ Sy adj ∧ CM n adj next ∧ RMk 0 n adj nextAt) 11 _ ?_ ?_ 0 _ _ (Nat.zero_le _) ⟨i, adj, next, nextAt, rfl, rfl, by omega, hi, hs, hc, hr⟩
  · rintro k s t hk ⟨i, adj, next, nextAt, rfl, rfl, hk10, hi, hs, hc, hr⟩
    have hk60 : nI k ≤ 60 := (nI_leN (b := 60) (by omega) (by decide)).mpr (by omega)
    have ek : nI k + 1 = nI (k + 1) := nI_ad k 1
    have e1 : nI i + 1 = nI (i + 1) := nI_ad i 1
    by_cases hiE : i < E
    · have hiE' : nI i < nI E := (nI_ltN (by omega) (by omega)).mpr hiE
      have hat : Tape_atEnd (nI E) (nI i) = some 0 := if_pos hiE'
      -- behind a fault both end
      have done : ∀ {q : Nat} {F : Int32} {next' nx' : Nat → Int32} {p' nl' : Int32}, ¬ F = 0 → LandReader_readLand_L7 bytes (nI n) (nI k, nI E, nI i, 0, next) = some (.inl (nI (k + 1), 0, nI q, F, next')) → Mo_land_L35 tape (nI E) many (1, nI i, f, nextAt, nI k) = some (.inl (0, p', F, nx', nl')) →
          ∃ r r', lp (LandReader_readLand_L7 bytes (nI n)) (nI k, nI E, nI i, 0, next) = some r ∧ lp (Mo_land_L35 tape (nI E) many) (1, nI i, f, nextAt, nI k) = some r' ∧ ((∃ p F next' p' nx' nl', r = (0, p, F, next') ∧ ¬ F = 0 ∧ r' = (0, p', F, nx', nl')) ∨ ∃ j adj' next' nx' nl', r = (nI E, nI j, 0, next') ∧ r' = (1, nI j, f, nx', nl') ∧ Sy adj' ∧ CM n adj' next' ∧ RMk 0 n adj' nx') := by
        intro q F next' nx' p' nl' hF h1 h2
        refine ⟨(0, nI q, F, next'), (0, p', F, nx', nl'), lp_inl h1 (lp_inr ?_), lp_inl h2 (lp_inr (if_pos rfl)), Or.inl ⟨nI q, F, next', p', nx', nl', rfl, hF, rfl⟩⟩
        unfold LandReader_readLand_L7
        exact (if_pos ((nI_leN (b := 60) (by omega) (by decide)).mpr (by omega))).trans (if_neg hF)
      by_cases h59 : ch bytes E i = 59
      · have htk : Tape_take bytes (nI E) (nI i) 0 59 = some (1, nI E, nI (i + 1), 0) := by
          unfold Tape_take
          rw [ob_eq (peek_eq (bytes := bytes) hT.1 (show i < 2 ^ 31 by omega)), if_pos h59, e1]
        have hts : Mo_takes tape (nI i) (nI E) f 59 = some (1, nI (i + 1), f) := by
          unfold Mo_takes
          rw [ob_eq (here_eq hT (show i < 2 ^ 31 by omega)), if_pos h59, e1]
        have c : ∀ {x : Int32 × Int32 × Int32 × (Nat → Int32)}, LandReader_readLine bytes (nI E) (nI (i + 1)) 0 (nI n) next (nI k) = some x → LandReader_readLand_L7 bytes (nI n) (nI k, nI E, nI i, 0, next) = some (.inl (nI (k + 1), x.1, x.2.1, x.2.2.1, x.2.2.2)) := by
          intro x hx
          unfold LandReader_readLand_L7 LandReader_readLand_L7_J56
          refine (if_pos hk60).trans ((if_pos rfl).trans ((ob_eq hat).trans ((if_pos rfl).trans ((ob_eq htk).trans ((if_neg one_ne0).trans ((ob_eq hx).trans ?_))))))
          show some (Sum.inl (nI k + 1, _)) = _
          rw [ek]
        have r : ∀ {x : Int32 × Int32 × Int32 × (Nat → Int32) × Int32}, Mo_readsLine tape (nI (i + 1)) (nI E) f many nextAt (nI k) = some x → Mo_land_L35 tape (nI E) many (1, nI i, f, nextAt, nI k) = if x.1 = 0 then some (.inl (0, x.2.1, x.2.2.1, x.2.2.2.1, x.2.2.2.2)) else some (.inl (1, x.2.1, x.2.2.1, x.2.2.2.1, x.2.2.2.2)) := by
          intro x hx
          unfold Mo_land_L35 Mo_land_L35_J70 Mo_land_L35_J71
          exact (if_neg one_ne0).trans ((if_pos hiE').trans ((ob_eq hts).trans ((if_neg one_ne0).trans (ob_eq hx))))
        rcases line_ok hT hE (i := i + 1) (k := k) hn (by omega) hk10 hs hc hm hr f with ⟨q, F, next', p', nx', nl', hq, g1, g2, g3⟩ | ⟨adj', next', nx', g1, g2, g3, g4, g5, g6, g7⟩
        · right
          exact done g2 (c g1) ((r g3).trans (if_pos rfl))
        · left
          exact ⟨_, _, c g6, (r g7).trans (if_neg one_ne0), i + 1 + 3, adj', next', nx', rfl, rfl, by omega, g2, g3, g4, g5⟩
      · right
        have hF : ¬ flt 1 i = 0 := flt_ne (by omega) (by omega)
        have htk : Tape_take bytes (nI E) (nI i) 0 59 = some (0, 0, nI i, flt 1 i) := by
          unfold Tape_take
          rw [ob_eq (peek_eq (bytes := bytes) hT.1 (show i < 2 ^ 31 by omega)), if_neg h59, ob_eq (fail0 _ _ _)]; rfl
        have hts : Mo_takes tape (nI i) (nI E) f 59 = some (0, nI i, flt 1 i) := by
          unfold Mo_takes
          rw [ob_eq (here_eq hT (show i < 2 ^ 31 by omega)), if_neg h59]; rfl
        refine done (q := i) (next' := next) (nx' := nextAt) (p' := nI i) (nl' := nI k) hF ?_ ?_
        · unfold LandReader_readLand_L7 LandReader_readLand_L7_J56
          refine (if_pos hk60).trans ((if_pos rfl).trans ((ob_eq hat).trans ((if_pos rfl).trans ((ob_eq htk).trans ((if_pos rfl).trans ?_)))))
          show some (Sum.inl (nI k + 1, _)) = _
          rw [ek]
        · unfold Mo_land_L35 Mo_land_L35_J70 Mo_land_L35_J71
          exact (if_neg one_ne0).trans ((if_pos hiE').trans ((ob_eq hts).trans (if_pos rfl)))
    · right
      have hiE' : ¬ nI i < nI E := fun z => hiE ((nI_ltN (by omega) (by omega)).mp z)
      refine ⟨_, _, lp_inr ?_, lp_inr ?_, Or.inr ⟨i, adj, next, nextAt, nI k, rfl, rfl, hs, hc, hr⟩⟩
      · unfold LandReader_readLand_L7
        exact (if_pos hk60).trans ((if_pos rfl).trans ((ob_eq (show Tape_atEnd (nI E) (nI i) = some 1 from if_neg hiE')).trans (if_neg one_ne0)))
      · unfold Mo_land_L35
        exact (if_neg one_ne0).trans (if_neg hiE')
  · rintro s t ⟨i, adj, next, nextAt, -, -, h, -⟩
    omega
end LN
