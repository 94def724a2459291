/-! LEDGERS: read by both -/
section LDG
variable {bytes tape : Nat → Int32} {E : Nat} {n : Nat} {nx : Nat → Nat} {next nextTo : Nat → Int32}
theorem wrongAt_eq (f a b : Int32) : Mo_wrongAt f a b = some (0, (-1000) * a - b) := rfl
/-- a line, read by both -/
theorem lline_ok (hT : TX bytes tape E) (hE : E ≤ 60) (hG : GoodG n nx) (hx : ∀ w, w < 12 → next w = nI (nx w)) (hx2 : ∀ w, w < 12 → nextTo w = nI (nx w)) {i k L : Nat} (hi : i ≤ E) {ln : LnF} {A : Nat → Nat} {needs changes gF gT : Nat → Int32} (hr : rlS n nx ln k L A needs changes) (hre : reS n nx ln k gF gT) (f : Int32) :
    (∃ q F needs' changes' lost' p' gF' gT' gm lm, q < 1000 ∧ Ledger_readLine needs changes (nI L) bytes (nI E) (nI i) 0 (nI n) next (nI k) = some (needs', changes', lost', 0, nI q, F) ∧ ¬ F = 0 ∧ Mo_readsMove nextTo (nI n) tape (nI i) (nI E) f gF gT (nI k) (nI L) = some (0, p', F, gF', gT', gm, lm)) ∨
    ∃ i' L' ln' A' needs' changes' gF' gT', k < 10 ∧ i < i' ∧ i' ≤ E ∧ Ledger_readLine needs changes (nI L) bytes (nI E) (nI i) 0 (nI n) next (nI k) = some (needs', changes', nI L', nI E, nI i', 0) ∧ Mo_readsMove nextTo (nI n) tape (nI i) (nI E) f gF gT (nI k) (nI L) = some (1, nI i', f, gF', gT', nI (k + 1), nI L') ∧ rlS n nx ln' (k + 1) L' A' needs' changes' ∧ reS n nx ln' (k + 1) gF' gT' := by
  have n12 := hG.1
  have hk10 := hr.1.2.1
  have hL3 := hr.1.1
  have e1 : nI i + 1 = nI (i + 1) := nI_ad i 1
  have e2 : nI (i + 1) + 1 = nI (i + 2) := nI_ad (i + 1) 1
  have e2' : nI i + 2 = nI (i + 2) := nI_ad i 2
  have e3 : nI (i + 2) + 1 = nI (i + 3) := nI_ad (i + 2) 1
  have ek : nI k + 1 = nI (k + 1) := nI_ad k 1
  have ekk : nI k + 1 - 1 = nI k := by rw [ek]; exact nI_subN (a := k + 1) (b := 1) (by omega)
  have hpk := peek_eq (bytes := bytes) (show E ≤ 260 by omega) (show i < 2 ^ 31 by omega)
  have hhr := here_eq hT (show i < 2 ^ 31 by omega)
  have h12n : ∀ p, nx p < 2 ^ 31 := fun p => Nat.lt_of_lt_of_le (hG.2.1 p) (Nat.pow_le_pow_right (by omega) (by omega))
  by_cases h63 : ch bytes E i = 63
  · -- a lost line
    have hiE : i < E := by
      rcases ch_cases hT i with z | ⟨z, -⟩
      · rw [z] at h63; exact absurd h63 (by decide)
      · exact z
    have cls : ∀ {x}, (if nI k < 10 then (Ledger_readLine_J63 (nI i) 1 (-1) needs changes (nI L) bytes (nI E) (nI i) 0 (nI n) next) else (ob (Tape_fail (nI E) 0 4 (nI i)) fun x1 => some (needs, changes, nI L, x1.1, nI i, x1.2))) = some x → Ledger_readLine needs changes (nI L) bytes (nI E) (nI i) 0 (nI n) next (nI k) = some x := by
      intro x hx
      unfold Ledger_readLine Ledger_readLine_J20 Ledger_readLine_J35 Ledger_readLine_J47
      exact (ob_eq hpk).trans ((if_pos h63).trans ((if_neg one_ne0).trans ((if_neg one_ne0).trans hx)))
    have ref : ∀ {x}, Mo_readsMove_J28 63 nextTo (nI n) tape (nI i) (nI E) f gF gT (nI k) (nI L) = some x → Mo_readsMove nextTo (nI n) tape (nI i) (nI E) f gF gT (nI k) (nI L) = some x := by
      intro x hx
      unfold Mo_readsMove
      rw [ob_eq hhr, if_pos h63, h63]
      exact hx
    by_cases hk : k < 10
    · have hk' : nI k < 10 := (nI_ltN (b := 10) (by omega) (by decide)).mpr hk
      have hkn : ¬ nI k = 10 := neN (b := 10) (by omega) (by decide) (by omega)
      by_cases hL : L < 3
      · right
        refine ⟨i + 1, L + 1, _, _, needs, changes, _, _, hk, by omega, by omega, cls ?_, ref ?_, rl_lost hr hk hL, re_lost hre⟩
        · rw [if_pos hk']
          unfold Ledger_readLine_J63 Ledger_readLost Tape_skip
          rw [if_neg one_ne0, if_pos (show nI L < 3 from (nI_ltN (b := 3) (by omega) (by decide)).mpr hL), e1, show nI L + 1 = nI (L + 1) from nI_ad L 1]
          rfl
        · unfold Mo_readsMove_J28
          rw [if_neg hkn, ekk, gd_eq (ixN hk (by decide)), if_pos rfl, if_neg (show ¬ nI L = 3 from neN (b := 3) (by omega) (by decide) (by omega)), nI_clamp (show k < 2 ^ 31 by omega), e1, ek, show nI L + 1 = nI (L + 1) from nI_ad L 1]
      · left
        refine ⟨i, flt 5 i, needs, changes, nI L, nI i, upd gF k (-1), gT, nI (k + 1), nI L, by omega, cls ?_, flt_ne (by omega) (by omega), ref ?_⟩
        rotate_left
        · unfold Mo_readsMove_J28
          rw [if_neg hkn, ekk, gd_eq (ixN hk (by decide)), if_pos rfl, if_pos (show nI L = 3 by rw [show L = 3 by omega]; rfl), nI_clamp (show k < 2 ^ 31 by omega), ek]
          rfl
        · rw [if_pos hk']
          unfold Ledger_readLine_J63 Ledger_readLost
          rw [if_neg one_ne0, if_neg (show ¬ nI L < 3 from fun z => hL ((nI_ltN (b := 3) (by omega) (by decide)).mp z)), ob_eq (fail0 _ _ _)]
          rfl
    · left
      have hk0 : k = 10 := by omega
      subst hk0
      refine ⟨i, flt 4 i, needs, changes, nI L, nI i, gF, gT, nI 10, nI L, by omega, cls ?_, flt_ne (by omega) (by omega), ref ?_⟩
      · rw [if_neg (show ¬ (nI 10 : Int32) < 10 by decide), ob_eq (fail0 _ _ _)]
        rfl
      · unfold Mo_readsMove_J28
        rw [if_pos (show nI 10 = 10 from rfl)]
        rfl
  · rcases letter_cases hT (show i < 1000 by omega) with ⟨w, hw, hiE, hcw, l1, l2, l3⟩ | ⟨hcw, l1, l2⟩
    · have hwp : ¬ nI w < 0 := nI_pos (by omega)
      have cls : ∀ {x}, (if nI k < 10 then (Ledger_readLine_J63 (nI i) 0 (nI w) needs changes (nI L) bytes (nI E) (nI (i + 1)) 0 (nI n) next) else (ob (Tape_fail (nI E) 0 4 (nI i)) fun x1 => some (needs, changes, nI L, x1.1, nI (i + 1), x1.2))) = some x → Ledger_readLine needs changes (nI L) bytes (nI E) (nI i) 0 (nI n) next (nI k) = some x := by
        intro x hx
        unfold Ledger_readLine Ledger_readLine_J20 Ledger_readLine_J35 Ledger_readLine_J47
        exact (ob_eq hpk).trans ((if_neg h63).trans ((if_pos rfl).trans ((ob_eq (l1 0)).trans ((if_pos rfl).trans ((if_neg hwp).trans hx)))))
      have ref : ∀ {x}, Mo_readsMove_J28 (ch bytes E i) nextTo (nI n) tape (nI i) (nI E) f gF gT (nI k) (nI L) = some x → Mo_readsMove nextTo (nI n) tape (nI i) (nI E) f gF gT (nI k) (nI L) = some x := by
        intro x hx
        unfold Mo_readsMove
        rw [ob_eq hhr, if_neg h63, ob_eq l2, if_neg one_ne0]
        exact hx
      by_cases hk : k < 10
      · have hk' : nI k < 10 := (nI_ltN (b := 10) (by omega) (by decide)).mpr hk
        have hkn : ¬ nI k = 10 := neN (b := 10) (by omega) (by decide) (by omega)
        have ref2 : ∀ {x}, (if nI w < nI n then (ob (Mo_takes tape (nI (i + 1)) (nI E) f 62) fun x7 =>
            if x7.1 = 0 then (some (0, x7.2.1, x7.2.2, upd gF k (-1), gT, nI (k + 1), nI L)) else (ob (Mo_isLetter tape x7.2.1 (nI E)) fun x8 =>
            if x8 = 0 then (ob (Mo_wrongAt x7.2.2 1 x7.2.1) fun x9 => gd (isB x9.1) (some (x9.1, x7.2.1, x9.2, upd gF k (-1), gT, nI (k + 1), nI L))) else (ob (Mo_here tape x7.2.1 (nI E)) fun x11 =>
            if (x11 - 97) < nI n then (gd (ix (nI w) 12) (ob (Mo_has (nextTo (nI w).toNatClampNeg) (x11 - 97)) fun x13 =>
            if x13 = 0 then (ob (Mo_wrongAt x7.2.2 8 x7.2.1) fun x14 => gd (isB x14.1) (some (x14.1, x7.2.1, x14.2, upd gF k (-1), gT, nI (k + 1), nI L))) else (gd (ix (nI k) 10) (gd (ix (nI k) 10) (some (1, x7.2.1 + 1, x7.2.2, upd (upd gF k (-1)) k (nI w), upd gT k (x11 - 97), nI (k + 1), nI L)))))) else (ob (Mo_wrongAt x7.2.2 7 x7.2.1) fun x19 => gd (isB x19.1) (some (x19.1, x7.2.1, x19.2, upd gF k (-1), gT, nI (k + 1), nI L)))))) else (ob (Mo_wrongAt f 7 (nI i)) fun x24 => gd (isB x24.1) (some (x24.1, nI i, x24.2, upd gF k (-1), gT, nI (k + 1), nI L)))) = some x → Mo_readsMove nextTo (nI n) tape (nI i) (nI E) f gF gT (nI k) (nI L) = some x := by
          intro x hx
          refine ref ?_
          unfold Mo_readsMove_J28
          rw [if_neg hkn, ekk, gd_eq (ixN hk (by decide)), if_neg h63, l3, e1, ek, nI_clamp (show k < 2 ^ 31 by omega)]
          exact hx
        by_cases hwn : w < n
        · have hwn' : nI w < nI n := (nI_ltN (by omega) (by omega)).mpr hwn
          have cls2 : ∀ {x}, (ob (Tape_take bytes (nI E) (nI (i + 1)) 0 62) fun x1 =>
              if x1.1 = 0 then (some (needs, changes, nI L, x1.2.1, x1.2.2.1, x1.2.2.2)) else (ob (Tape_letter bytes x1.2.1 x1.2.2.1 x1.2.2.2) fun x2 =>
              if x2.1 < nI n then (if x2.1 < 0 then (Ledger_readLine_J167 (nI w) x2.1 needs changes (nI L) bytes x2.2.1 x2.2.2.1 x2.2.2.2 (nI n) next) else (ob (Land_areNext (nI n) next (nI w) x2.1) fun x3 =>
              if x3 = 0 then (ob (Tape_fail x2.2.1 x2.2.2.2 8 (nI i + 2)) fun x4 => some (needs, changes, nI L, x4.1, x2.2.2.1, x4.2)) else (Ledger_readLine_J167 (nI w) x2.1 needs changes (nI L) bytes x2.2.1 x2.2.2.1 x2.2.2.2 (nI n) next))) else (ob (Tape_fail x2.2.1 x2.2.2.2 7 (nI i + 2)) fun x7 => some (needs, changes, nI L, x7.1, x2.2.2.1, x7.2)))) = some x → Ledger_readLine needs changes (nI L) bytes (nI E) (nI i) 0 (nI n) next (nI k) = some x := by
            intro x hx
            refine cls ?_
            rw [if_pos hk']
            unfold Ledger_readLine_J63
            exact (if_pos rfl).trans ((if_pos hwn').trans ((if_neg hwp).trans hx))
          by_cases h62 : ch bytes E (i + 1) = 62
          · have hi1 : i + 1 < E := by
              rcases ch_cases hT (i + 1) with z | ⟨z, -⟩
              · rw [z] at h62; exact absurd h62 (by decide)
              · exact z
            have htk : Tape_take bytes (nI E) (nI (i + 1)) 0 62 = some (1, nI E, nI (i + 2), 0) := by
              unfold Tape_take
              rw [ob_eq (peek_eq (bytes := bytes) hT.1 (show i + 1 < 2 ^ 31 by omega)), if_pos h62, e2]
            have hts : Mo_takes tape (nI (i + 1)) (nI E) f 62 = some (1, nI (i + 2), f) := by
              unfold Mo_takes
              rw [ob_eq (here_eq hT (show i + 1 < 2 ^ 31 by omega)), if_pos h62, e2]
            rcases letter_cases hT (show i + 2 < 1000 by omega) with ⟨v, hv12, hvE, hcv, m1, m2, m3⟩ | ⟨hcv, m1, m2⟩
            · by_cases hvn : v < n
              · have hvn' : nI v < nI n := (nI_ltN (by omega) (by omega)).mpr hvn
                cases hb : (nx w).testBit v with
                | true =>
                  right
                  obtain ⟨needs', changes', g1, g2⟩ := rl_told hG hr hk hwn hvn hb
                  refine ⟨i + 3, L, _, _, needs', changes', _, _, hk, by omega, by omega, cls2 ?_, ref2 ?_, g2, re_told hre hwn hvn hb⟩
                  · rw [ob_eq htk]
                    dsimp only
                    rw [if_neg one_ne0, ob_eq (m1 0)]
                    dsimp only
                    rw [if_pos hvn', if_neg (nI_pos (show v < 2 ^ 31 by omega)), ob_eq (areNext_in hG hx hwn hvn), hb, if_neg (show ¬ (if true = true then (1 : Int32) else 0) = 0 by decide)]
                    unfold Ledger_readLine_J167
                    rw [if_neg (nI_pos (show v < 2 ^ 31 by omega)), ob_eq g1]
                  · rw [if_pos hwn', ob_eq hts]
                    dsimp only
                    rw [if_neg one_ne0, ob_eq m2, if_neg one_ne0, ob_eq (here_eq hT (show i + 2 < 2 ^ 31 by omega)), m3, if_pos hvn', gd_eq (ixN (show w < 12 by omega) (by decide)), nI_clamp (show w < 2 ^ 31 by omega), hx2 w (by omega), ob_eq (Mo_has_eq (h12n w) (show v < 32 by omega)), hb, if_neg (show ¬ (if true = true then (1 : Int32) else 0) = 0 by decide), gd_eq (ixN hk (by decide)), gd_eq (ixN hk (by decide)), e3]
                | false =>
                  left
                  refine ⟨i + 3, flt 8 (i + 2), needs, changes, nI L, nI (i + 2), upd gF k (-1), gT, nI (k + 1), nI L, by omega, cls2 ?_, flt_ne (by omega) (by omega), ref2 ?_⟩
                  rotate_left
                  · rw [if_pos hwn', ob_eq hts]
                    dsimp only
                    rw [if_neg one_ne0, ob_eq m2, if_neg one_ne0, ob_eq (here_eq hT (show i + 2 < 2 ^ 31 by omega)), m3, if_pos hvn', gd_eq (ixN (show w < 12 by omega) (by decide)), nI_clamp (show w < 2 ^ 31 by omega), hx2 w (by omega), ob_eq (Mo_has_eq (h12n w) (show v < 32 by omega)), hb, if_pos (show (if false = true then (1 : Int32) else 0) = 0 from rfl)]
                    rfl
                  · rw [ob_eq htk]
                    dsimp only
                    rw [if_neg one_ne0, ob_eq (m1 0)]
                    dsimp only
                    rw [if_pos hvn', if_neg (nI_pos (show v < 2 ^ 31 by omega)), ob_eq (areNext_in hG hx hwn hvn), hb, if_pos (show (if false = true then (1 : Int32) else 0) = 0 from rfl), ob_eq (fail0 _ _ _), e2']
                    rfl
              · left
                have hvn' : ¬ nI v < nI n := fun z => hvn ((nI_ltN (by omega) (by omega)).mp z)
                refine ⟨i + 3, flt 7 (i + 2), needs, changes, nI L, nI (i + 2), upd gF k (-1), gT, nI (k + 1), nI L, by omega, cls2 ?_, flt_ne (by omega) (by omega), ref2 ?_⟩
                rotate_left
                · rw [if_pos hwn', ob_eq hts]
                  dsimp only
                  rw [if_neg one_ne0, ob_eq m2, if_neg one_ne0, ob_eq (here_eq hT (show i + 2 < 2 ^ 31 by omega)), m3, if_neg hvn']
                  rfl
                · rw [ob_eq htk]
                  dsimp only
                  rw [if_neg one_ne0, ob_eq (m1 0)]
                  dsimp only
                  rw [if_neg hvn', ob_eq (fail0 _ _ _), e2']
                  rfl
            · left
              refine ⟨i + 2, flt 1 (i + 2), needs, changes, nI L, nI (i + 2), upd gF k (-1), gT, nI (k + 1), nI L, by omega, cls2 ?_, flt_ne (by omega) (by omega), ref2 ?_⟩
              rotate_left
              · rw [if_pos hwn', ob_eq hts]
                dsimp only
                rw [if_neg one_ne0, ob_eq m2, if_pos rfl]
                rfl
              · rw [ob_eq htk]
                dsimp only
                rw [if_neg one_ne0, ob_eq m1]
                dsimp only
                rw [if_pos (m1_lt n12), if_pos (show (-1 : Int32) < 0 by decide)]
                unfold Ledger_readLine_J167
                rw [if_pos (show (-1 : Int32) < 0 by decide)]
          · left
            refine ⟨i + 1, flt 1 (i + 1), needs, changes, nI L, nI (i + 1), upd gF k (-1), gT, nI (k + 1), nI L, by omega, cls2 ?_, flt_ne (by omega) (by omega), ref2 ?_⟩
            rotate_left
            · have hts : Mo_takes tape (nI (i + 1)) (nI E) f 62 = some (0, nI (i + 1), flt 1 (i + 1)) := by
                unfold Mo_takes
                rw [ob_eq (here_eq hT (show i + 1 < 2 ^ 31 by omega)), if_neg h62]; rfl
              rw [if_pos hwn', ob_eq hts]
              dsimp only
              rw [if_pos rfl]
            · have htk : Tape_take bytes (nI E) (nI (i + 1)) 0 62 = some (0, 0, nI (i + 1), flt 1 (i + 1)) := by
                unfold Tape_take
                rw [ob_eq (peek_eq (bytes := bytes) hT.1 (show i + 1 < 2 ^ 31 by omega)), if_neg h62, ob_eq (fail0 _ _ _)]; rfl
              rw [ob_eq htk]
              dsimp only
              rw [if_pos rfl]
        · left
          have hwn' : ¬ nI w < nI n := fun z => hwn ((nI_ltN (by omega) (by omega)).mp z)
          refine ⟨i + 1, flt 7 i, needs, changes, nI L, nI i, upd gF k (-1), gT, nI (k + 1), nI L, by omega, cls ?_, flt_ne (by omega) (by omega), ref2 ?_⟩
          rotate_left
          · rw [if_neg hwn']
            rfl
          · rw [if_pos hk']
            unfold Ledger_readLine_J63
            rw [if_pos rfl, if_neg hwn', ob_eq (fail0 _ _ _)]
            rfl
      · left
        have hk0 : k = 10 := by omega
        subst hk0
        refine ⟨i + 1, flt 4 i, needs, changes, nI L, nI i, gF, gT, nI 10, nI L, by omega, cls ?_, flt_ne (by omega) (by omega), ref ?_⟩
        · rw [if_neg (show ¬ (nI 10 : Int32) < 10 by decide), ob_eq (fail0 _ _ _)]
          rfl
        · unfold Mo_readsMove_J28
          rw [if_pos (show nI 10 = 10 from rfl)]
          rfl
    · left
      refine ⟨i, flt 1 i, needs, changes, nI L, nI i, gF, gT, nI k, nI L, by omega, ?_, flt_ne (by omega) (by omega), ?_⟩
      · unfold Ledger_readLine Ledger_readLine_J20 Ledger_readLine_J35
        rw [ob_eq hpk, if_neg h63, if_pos rfl, ob_eq l1]
        dsimp only
        rw [if_pos rfl, if_pos (show (-1 : Int32) < 0 by decide)]
        unfold Ledger_readLine_J63
        rw [if_pos rfl, if_pos (m1_lt n12), if_pos (show (-1 : Int32) < 0 by decide)]
      · unfold Mo_readsMove
        rw [ob_eq hhr, if_neg h63, ob_eq l2, if_pos rfl]
        rfl
end LDG
