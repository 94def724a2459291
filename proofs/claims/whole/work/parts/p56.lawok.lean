/-! LAW, all of it -/
section LL
variable {bytes tape : Nat → Int32} {E : Nat}
/-- the reference: a rule and what is behind it -/
def RuleTo (tape : Nat → Int32) (E : Nat) (st : S14) (r : S14) : Prop := ∃ x, Mo_readsRule tape st.2.1 (nI E) st.2.2.1 st.2.2.2.1 st.2.2.2.2.1 st.2.2.2.2.2.1 st.2.2.2.2.2.2.1 st.2.2.2.2.2.2.2.1 st.2.2.2.2.2.2.2.2.1 st.2.2.2.2.2.2.2.2.2.1 st.2.2.2.2.2.2.2.2.2.2.1 st.2.2.2.2.2.2.2.2.2.2.2.1 st.2.2.2.2.2.2.2.2.2.2.2.2.1 st.2.2.2.2.2.2.2.2.2.2.2.2.2 = some x ∧ (x.1 = 0 ∨ x.1 = 1) ∧ lp (Mo_law_L31 tape (nI E)) x = some r
theorem l31_end0 {x : S14} (h : x.1 = 0) : lp (Mo_law_L31 tape (nI E)) x = some x := lp_inr (show Mo_law_L31 tape (nI E) x = some (.inr x) from if_pos h)
theorem rule_dead {q s : Nat} {F : Int32} (hq : q < 1000) (hF : ¬ F = 0) (r : Int32) (kinds worths tests code : Nat → Int32) : Law_readRule bytes 0 (nI q) F r kinds worths tests code (nI s) = some (0, nI q, F, r, kinds, worths, tests, code, nI s) := by
  unfold Law_readRule
  exact (ob_eq (peek_dead (show q < 2 ^ 31 by omega))).trans ((if_neg (by decide)).trans ((if_neg (by decide)).trans ((if_neg (by decide)).trans ((if_neg (by decide)).trans ((ob_eq (failN hF _ _)).trans rfl)))))
abbrev T9 : Type := Int32 × Int32 × Int32 × Int32 × (Nat → Int32) × (Nat → Int32) × (Nat → Int32) × (Nat → Int32) × Int32
theorem law_loop_both (hT : TX bytes tape E) (hE : E ≤ 240) (hE1 : 1 ≤ E) (kinds worths tests code said waitsAt letter from_ half to_ : Nat → Int32) (f num op w : Int32) :
    ∃ r, lp (Law_read_L12 bytes) (0, nI E, 0, 0, 0, kinds, worths, tests, code, 0) = some r ∧
      ((∃ (q : Nat) (F r' : Int32) (tl : (Nat → Int32) × (Nat → Int32) × (Nat → Int32) × (Nat → Int32) × Int32), (r = .inl (0, nI q, F, r', tl) ∨ r = .inr (0, nI q, F, r', tl)) ∧ ¬ F = 0 ∧ ∃ x : S14, RuleTo tape E (1, 0, f, num, op, 0, w, 0, said, waitsAt, letter, from_, half, to_) x ∧ x.1 = 0 ∧ x.2.2.1 = F) ∨
        ∃ (j n : Nat) (kinds' worths' tests' code' : Nat → Int32) (s c : Nat) (num' op' w' : Int32) (said' waits' letter' from' half' to' : Nat → Int32), r = .inl (nI E, nI j, 0, nI n, kinds', worths', tests', code', nI s) ∧ RuleTo tape E (1, 0, f, num, op, 0, w, 0, said, waitsAt, letter, from_, half, to_) (1, nI j, f, num', op', nI c, w', nI n, said', waits', letter', from', half', to') ∧ LawR n kinds' worths' tests' code' letter' from' half' to' said' s c) := by
  refine lp_inv2 (f := Law_read_L12 bytes) (fun k st => ∃ (i n s c : Nat) (kinds worths tests code : Nat → Int32) (num' op' w' : Int32) (said' waits' letter' from' half' to' : Nat → Int32), st = (nI k, nI E, nI i, 0, nI n, kinds, worths, tests, code, nI s) ∧ 2 * k ≤ i ∧ i ≤ E ∧ s ≤ 2 * i ∧ c ≤ i ∧ LawR n kinds worths tests code letter' from' half' to' said' s c ∧ ∀ r, RuleTo tape E (1, nI i, f, num', op', nI c, w', nI n, said', waits', letter', from', half', to') r → RuleTo tape E (1, 0, f, num, op, 0, w, 0, said, waitsAt, letter, from_, half, to_) r) 240 _ ?_ ?_ 0 _ (Nat.zero_le _) ⟨0, 0, 0, 0, kinds, worths, tests, code, num, op, w, said, waitsAt, letter, from_, half, to_, rfl, by omega, by omega, by omega, by omega, ⟨by omega, by omega, by omega, fun t ht => by omega⟩, fun r hr => hr⟩
  · rintro k st hk ⟨i, n, s, c, kinds, worths, tests, code, num', op', w', said', waits', letter', from', half', to', rfl, h1, h2, h3, h4, h5, h6⟩
    have hk' : nI k < 240 := (nI_ltN (b := 240) (by omega) (by decide)).mpr hk
    have ek : nI k + 1 = nI (k + 1) := nI_ad k 1
    rcases rule_both hT hE h2 h3 h4 h5 f num' op' w' (waitsAt := waits') with ⟨q, F, r', tl, s', hq, hs', g1, g2, x, g3, g4, g5⟩ | ⟨j, kinds', worths', tests', code', s', c', said2, waits2, num2, op2, w2, letter2, from2, half2, to2, g1, g2, g3, g4, g5, g6, g7⟩
    · right
      refine ⟨_, lp_inr (r := .inl (0, nI q, F, r', tl.1, tl.2.1, tl.2.2.1, tl.2.2.2, nI s')) ?_, Or.inl ⟨q, F, r', _, Or.inl rfl, g2, x, h6 x ⟨x, g3, Or.inl g4, l31_end0 g4⟩, g4, g5⟩⟩
      unfold Law_read_L12
      exact (if_pos hk').trans ((ob_eq g1).trans (if_neg g2))
    · have hend : ∀ {r}, lp (Mo_law_L31 tape (nI E)) (1, nI j, f, num2, op2, nI c', w2, nI (n + 1), said2, waits2, letter2, from2, half2, to2) = some r → RuleTo tape E (1, 0, f, num, op, 0, w, 0, said, waitsAt, letter, from_, half, to_) r := fun hr => h6 _ ⟨_, g6, Or.inr rfl, hr⟩
      by_cases hjE : j < E
      · have hjE' : nI j < nI E := (nI_ltN (by omega) (by omega)).mpr hjE
        have hat : Tape_atEnd (nI E) (nI j) = some 0 := if_pos hjE'
        have hstep : ∀ {y : Int32 × Int32 × Int32 × Int32}, Tape_take bytes (nI E) (nI j) 0 59 = some y → Law_read_L12 bytes (nI k, nI E, nI i, 0, nI n, kinds, worths, tests, code, nI s) = some (.inl (nI (k + 1), y.2.1, y.2.2.1, y.2.2.2, nI (n + 1), kinds', worths', tests', code', nI s')) := by
          intro y hy
          unfold Law_read_L12
          refine (if_pos hk').trans ((ob_eq g1).trans ((if_pos rfl).trans ((ob_eq hat).trans ((if_pos rfl).trans ((ob_eq hy).trans ?_)))))
          show some (Sum.inl (nI k + 1, _)) = _
          rw [ek]
        have hpj := peek_eq (bytes := bytes) hT.1 (show j < 2 ^ 31 by omega)
        by_cases h59 : ch bytes E j = 59
        · left
          have htk : Tape_take bytes (nI E) (nI j) 0 59 = some (1, nI E, nI (j + 1), 0) := by
            unfold Tape_take
            rw [ob_eq hpj, if_pos h59, show nI j + 1 = nI (j + 1) from nI_ad j 1]
          have hts : Mo_takes tape (nI j) (nI E) f 59 = some (1, nI (j + 1), f) := by
            unfold Mo_takes
            rw [ob_eq (here_eq hT (show j < 2 ^ 31 by omega)), if_pos h59, show nI j + 1 = nI (j + 1) from nI_ad j 1]
          refine ⟨_, hstep htk, j + 1, n + 1, s', c', kinds', worths', tests', code', num2, op2, w2, said2, waits2, letter2, from2, half2, to2, rfl, by omega, by omega, by omega, by omega, g7, fun r hr => hend ?_⟩
          obtain ⟨x, x1, xf, x2⟩ := hr
          have hL : Mo_law_L31 tape (nI E) (1, nI j, f, num2, op2, nI c', w2, nI (n + 1), said2, waits2, letter2, from2, half2, to2) = some (.inl (if x.1 = 0 then (0, x.2) else (1, x.2))) := by
            unfold Mo_law_L31 Mo_law_L31_J66 Mo_law_L31_J67
            refine (if_neg one_ne0).trans ((if_pos hjE').trans ((ob_eq hts).trans ((if_neg one_ne0).trans ((ob_eq x1).trans ?_))))
            by_cases e : x.1 = 0
            · rw [if_pos e, if_pos e]
            · rw [if_neg e, if_neg e]
          refine lp_inl hL ?_
          by_cases e : x.1 = 0
          · rw [if_pos e]
            have : x = (0, x.2) := by rw [← e]
            rw [← this]; exact x2
          · rw [if_neg e]
            have e1 : x.1 = 1 := xf.resolve_left e
            have : x = (1, x.2) := by rw [← e1]
            rw [← this]; exact x2
        · right
          have hF : ¬ flt 1 j = 0 := flt_ne (by omega) (by omega)
          have htk : Tape_take bytes (nI E) (nI j) 0 59 = some (0, 0, nI j, flt 1 j) := by
            unfold Tape_take
            rw [ob_eq hpj, if_neg h59, ob_eq (fail0 _ _ _)]; rfl
          have hts : Mo_takes tape (nI j) (nI E) f 59 = some (0, nI j, flt 1 j) := by
            unfold Mo_takes
            rw [ob_eq (here_eq hT (show j < 2 ^ 31 by omega)), if_neg h59]; rfl
          have hL : Mo_law_L31 tape (nI E) (1, nI j, f, num2, op2, nI c', w2, nI (n + 1), said2, waits2, letter2, from2, half2, to2) = some (.inl (0, nI j, flt 1 j, num2, op2, nI c', w2, nI (n + 1), said2, waits2, letter2, from2, half2, to2)) := by
            unfold Mo_law_L31 Mo_law_L31_J66 Mo_law_L31_J67
            exact (if_neg one_ne0).trans ((if_pos hjE').trans ((ob_eq hts).trans (if_pos rfl)))
          have hbad := hend (lp_inl hL (l31_end0 rfl))
          by_cases hk2 : k + 1 < 240
          · refine ⟨_, lp_inl (hstep htk) (lp_inr (r := .inl (0, nI j, flt 1 j, nI (n + 1), kinds', worths', tests', code', nI s')) ?_), Or.inl ⟨j, flt 1 j, nI (n + 1), _, Or.inl rfl, hF, _, hbad, rfl, rfl⟩⟩
            unfold Law_read_L12
            exact (if_pos ((nI_ltN (b := 240) (by omega) (by decide)).mpr hk2)).trans ((ob_eq (rule_dead (show j < 1000 by omega) hF _ _ _ _ _)).trans (if_neg hF))
          · refine ⟨_, lp_inl (hstep htk) (lp_inr (r := .inr (0, nI j, flt 1 j, nI (n + 1), kinds', worths', tests', code', nI s')) ?_), Or.inl ⟨j, flt 1 j, nI (n + 1), _, Or.inr rfl, hF, _, hbad, rfl, rfl⟩⟩
            unfold Law_read_L12
            exact if_neg (fun z => hk2 ((nI_ltN (b := 240) (by omega) (by decide)).mp z))
      · right
        have hjE' : ¬ nI j < nI E := fun z => hjE ((nI_ltN (by omega) (by omega)).mp z)
        refine ⟨_, lp_inr (r := .inl (nI E, nI j, 0, nI (n + 1), kinds', worths', tests', code', nI s')) ?_, Or.inr ⟨j, n + 1, kinds', worths', tests', code', s', c', num2, op2, w2, said2, waits2, letter2, from2, half2, to2, rfl, hend (lp_inr ?_), g7⟩⟩
        · unfold Law_read_L12
          exact (if_pos hk').trans ((ob_eq g1).trans ((if_pos rfl).trans ((ob_eq (show Tape_atEnd (nI E) (nI j) = some 1 from if_neg hjE')).trans (if_neg one_ne0))))
        · unfold Mo_law_L31
          exact (if_neg one_ne0).trans (if_neg hjE')
  · rintro st ⟨i, n, s, c, kinds, worths, tests, code, num', op', w', said', waits', letter', from', half', to', -, h1, h2, -⟩
    omega
end LL
