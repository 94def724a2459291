/-! THE LAW'S CODE, reckoned by both -/
section EV
variable {code given : Nat → Int32}
theorem cls_pre {H p n : Nat} {T : Int32} {cs : Nat → Int32} (hH : H < 48) (hp : p + 1 < 640) (hn : n < 640) :
    Law_reckon_L10 code given (nI H, T, nI p, nI n, cs) = (if code p = 1 then (gd (ix (nI H) 48) (Law_reckon_L10_J339 (nI H + 1) T (nI p + 2) (nI n) code given (upd cs (nI H).toNatClampNeg (code (p + 1))))) else (if code p = 2 then (if code (p + 1) < 0 then (Law_reckon_L10_J117 (nI H) T (nI p) (nI n) (nI H) code given cs) else (if code (p + 1) ≤ 8 then (gd (ix (code (p + 1)) 9) (Law_reckon_L10_J118 (nI H) T (nI p) (nI n) (given (code (p + 1)).toNatClampNeg) (nI H) code given cs)) else (Law_reckon_L10_J117 (nI H) T (nI p) (nI n) (nI H) code given cs))) else (if code p = 38 then (if T = 0 then (Law_reckon_L10_J148 (nI H) T (nI n) (code (p + 1)) code given cs) else (Law_reckon_L10_J148 (nI H) T (nI n) (nI p + 2) code given cs)) else (if code p = 124 then (if T = 0 then (Law_reckon_L10_J173 (nI H) T (nI n) (nI p + 2) code given cs) else (Law_reckon_L10_J173 (nI H) T (nI n) (code (p + 1)) code given cs)) else (if code p = 33 then (Law_reckon_L10_J339 (nI H) (1 - T) (nI p + 1) (nI n) code given cs) else (if code p = 4 then (some (.inr (.inr (.inl (T, cs))))) else (if nI H < 2 then (some (.inr (.inr (.inr (.inl (nI H, code p, cs)))))) else (gd (ix (nI H - 2) 48) (gd (ix (nI H - 1) 48) (if cs (nI H - 1 : Int32).toNatClampNeg = 0 then (if code p = 47 then (some (.inr (.inr (.inr (.inr (.inl cs)))))) else (if code p = 37 then (some (.inr (.inr (.inr (.inr (.inl cs)))))) else (Law_reckon_L10_J271 (nI H) T (nI p) (nI n) (code p) (cs (nI H - 2 : Int32).toNatClampNeg) (cs (nI H - 1 : Int32).toNatClampNeg) code given cs))) else (Law_reckon_L10_J271 (nI H) T (nI p) (nI n) (code p) (cs (nI H - 2 : Int32).toNatClampNeg) (cs (nI H - 1 : Int32).toNatClampNeg) code given cs))))))))))) := by
  have e1 : nI p + 1 = nI (p + 1) := nI_ad p 1
  have c0 : (nI p).toNatClampNeg = p := nI_clamp (by omega)
  have c1 : (nI (p + 1)).toNatClampNeg = p + 1 := nI_clamp (by omega)
  unfold Law_reckon_L10
  refine (if_pos (show nI n < 640 from (nI_ltN (b := 640) (by omega) (by decide)).mpr hn)).trans ((if_neg (nI_pos (show p < 2 ^ 31 by omega))).trans ?_)
  show (if nI p + 1 < 640 then (if nI H < 48 then (gd (ix (nI p) 640) (gd (ix (nI p + 1) 640) _)) else _) else _) = _
  rw [e1]
  refine (if_pos (show nI (p + 1) < 640 from (nI_ltN (b := 640) (by omega) (by decide)).mpr hp)).trans ((if_pos (show nI H < 48 from (nI_ltN (b := 48) (by omega) (by decide)).mpr hH)).trans ((gd_eq (ixN (show p < 640 by omega) (by decide))).trans ((gd_eq (ixN hp (by decide))).trans ?_)))
  rw [c0, c1]
theorem j339 {H' T' p' : Int32} {n : Nat} {cs : Nat → Int32} : Law_reckon_L10_J339 H' T' p' (nI n) code given cs = some (.inl (H', T', p', nI (n + 1), cs)) := by
  unfold Law_reckon_L10_J339
  rw [show nI n + 1 = nI (n + 1) from nI_ad n 1]
theorem cls_num {H p n : Nat} {T : Int32} {cs : Nat → Int32} (hH : H < 48) (hp : p + 1 < 640) (hn : n < 640) (h : code p = 1) : Law_reckon_L10 code given (nI H, T, nI p, nI n, cs) = some (.inl (nI (H + 1), T, nI (p + 2), nI (n + 1), upd cs H (code (p + 1)))) := by
  rw [cls_pre hH hp hn, if_pos h, gd_eq (ixN hH (by decide)), j339, show nI H + 1 = nI (H + 1) from nI_ad H 1, show nI p + 2 = nI (p + 2) from nI_ad p 2, nI_clamp (by omega)]
theorem cls_fact {H p n k : Nat} {T : Int32} {cs : Nat → Int32} (hH : H < 48) (hp : p + 1 < 640) (hn : n < 640) (h : code p = 2) (hk : k < 9) (h2 : code (p + 1) = nI k) : Law_reckon_L10 code given (nI H, T, nI p, nI n, cs) = some (.inl (nI (H + 1), T, nI (p + 2), nI (n + 1), upd cs H (given k))) := by
  rw [cls_pre hH hp hn, if_neg (by rw [h]; decide), if_pos h, h2, if_neg (nI_pos (show k < 2 ^ 31 by omega)), if_pos (show nI k ≤ 8 from (nI_leN (b := 8) (by omega) (by decide)).mpr (by omega)), gd_eq (ixN hk (by decide)), nI_clamp (show k < 2 ^ 31 by omega)]
  unfold Law_reckon_L10_J118
  rw [gd_eq (ixN hH (by decide)), j339, show nI H + 1 = nI (H + 1) from nI_ad H 1, show nI p + 2 = nI (p + 2) from nI_ad p 2, nI_clamp (by omega)]
theorem cls_and {H p n : Nat} {T : Int32} {cs : Nat → Int32} (hH : H < 48) (hp : p + 1 < 640) (hn : n < 640) (h : code p = 38) : Law_reckon_L10 code given (nI H, T, nI p, nI n, cs) = some (.inl (nI H, T, if T = 0 then code (p + 1) else nI (p + 2), nI (n + 1), cs)) := by
  rw [cls_pre hH hp hn, if_neg (by rw [h]; decide), if_neg (by rw [h]; decide), if_pos h]
  unfold Law_reckon_L10_J148
  rw [j339, j339, show nI p + 2 = nI (p + 2) from nI_ad p 2]
  by_cases e : T = 0
  · rw [if_pos e, if_pos e]
  · rw [if_neg e, if_neg e]
theorem cls_or {H p n : Nat} {T : Int32} {cs : Nat → Int32} (hH : H < 48) (hp : p + 1 < 640) (hn : n < 640) (h : code p = 124) : Law_reckon_L10 code given (nI H, T, nI p, nI n, cs) = some (.inl (nI H, T, if T = 0 then nI (p + 2) else code (p + 1), nI (n + 1), cs)) := by
  rw [cls_pre hH hp hn, if_neg (by rw [h]; decide), if_neg (by rw [h]; decide), if_neg (by rw [h]; decide), if_pos h]
  unfold Law_reckon_L10_J173
  rw [j339, j339, show nI p + 2 = nI (p + 2) from nI_ad p 2]
  by_cases e : T = 0
  · rw [if_pos e, if_pos e]
  · rw [if_neg e, if_neg e]
theorem cls_not {H p n : Nat} {T : Int32} {cs : Nat → Int32} (hH : H < 48) (hp : p + 1 < 640) (hn : n < 640) (h : code p = 33) : Law_reckon_L10 code given (nI H, T, nI p, nI n, cs) = some (.inl (nI H, 1 - T, nI (p + 1), nI (n + 1), cs)) := by
  rw [cls_pre hH hp hn, if_neg (by rw [h]; decide), if_neg (by rw [h]; decide), if_neg (by rw [h]; decide), if_neg (by rw [h]; decide), if_pos h, j339, show nI p + 1 = nI (p + 1) from nI_ad p 1]
theorem cls_end4 {H p n : Nat} {T : Int32} {cs : Nat → Int32} (hH : H < 48) (hp : p + 1 < 640) (hn : n < 640) (h : code p = 4) : Law_reckon_L10 code given (nI H, T, nI p, nI n, cs) = some (.inr (.inr (.inl (T, cs)))) := by
  rw [cls_pre hH hp hn, if_neg (by rw [h]; decide), if_neg (by rw [h]; decide), if_neg (by rw [h]; decide), if_neg (by rw [h]; decide), if_neg (by rw [h]; decide), if_pos h]
theorem cls_end3 {p n : Nat} {T : Int32} {cs : Nat → Int32} (hp : p + 1 < 640) (hn : n < 640) (h : code p = 3) : Law_reckon_L10 code given (nI 1, T, nI p, nI n, cs) = some (.inr (.inr (.inr (.inl (nI 1, 3, cs))))) := by
  rw [cls_pre (by omega) hp hn, if_neg (by rw [h]; decide), if_neg (by rw [h]; decide), if_neg (by rw [h]; decide), if_neg (by rw [h]; decide), if_neg (by rw [h]; decide), if_neg (by rw [h]; decide), if_pos (by decide), h]
/-- a sign of two: what both reckon -/
def rk (kd : Nat) (a b : Int32) : Int32 := if kd = 2 then a + b else if kd = 3 then a - b else if kd = 4 then a * b else if kd = 5 then a / b else if kd = 6 then a % b else if kd = 7 then (if a < b then 1 else 0) else if kd = 8 then (if a ≤ b then 0 else 1) else (if a = b then 1 else 0)
theorem rk_bool {kd : Nat} (h : 7 ≤ kd) (a b : Int32) : rk kd a b = 0 ∨ rk kd a b = 1 := by
  unfold rk
  rw [if_neg (by omega), if_neg (by omega), if_neg (by omega), if_neg (by omega), if_neg (by omega)]
  split
  · split
    · exact Or.inr rfl
    · exact Or.inl rfl
  · split
    · split
      · exact Or.inl rfl
      · exact Or.inr rfl
    · split
      · exact Or.inr rfl
      · exact Or.inl rfl
theorem nz_of {b : Int32} (h : ¬ b = 0) : nz b = true := by unfold nz; rw [decide_eq_false h]; rfl
theorem reckon_eq {kd : Nat} (h2 : 2 ≤ kd) (h9 : kd ≤ 9) (a b : Int32) (hz : (kd = 5 ∨ kd = 6) → ¬ b = 0) : Mo_reckon (nI kd) a b = some (rk kd a b) := by
  have hc : kd = 2 ∨ kd = 3 ∨ kd = 4 ∨ kd = 5 ∨ kd = 6 ∨ kd = 7 ∨ kd = 8 ∨ kd = 9 := by omega
  unfold Mo_reckon rk
  rcases hc with rfl | rfl | rfl | rfl | rfl | rfl | rfl | rfl
  · rfl
  · rfl
  · rfl
  · exact (if_neg (by decide)).trans ((if_neg (by decide)).trans ((if_neg (by decide)).trans ((if_pos rfl).trans (gd_eq (nz_of (hz (Or.inl rfl)))))))
  · exact (if_neg (by decide)).trans ((if_neg (by decide)).trans ((if_neg (by decide)).trans ((if_neg (by decide)).trans ((if_pos rfl).trans (gd_eq (nz_of (hz (Or.inr rfl))))))))
  · refine (if_neg (by decide)).trans ((if_neg (by decide)).trans ((if_neg (by decide)).trans ((if_neg (by decide)).trans ((if_neg (by decide)).trans ((if_pos rfl).trans ?_)))))
    by_cases e : a < b
    · rw [if_pos e]; exact congrArg some (if_pos e).symm
    · rw [if_neg e]; exact congrArg some (if_neg e).symm
  · refine (if_neg (by decide)).trans ((if_neg (by decide)).trans ((if_neg (by decide)).trans ((if_neg (by decide)).trans ((if_neg (by decide)).trans ((if_neg (by decide)).trans ((if_pos rfl).trans ?_))))))
    by_cases e : a ≤ b
    · rw [if_pos e]; exact congrArg some (if_pos e).symm
    · rw [if_neg e]; exact congrArg some (if_neg e).symm
  · refine (if_neg (by decide)).trans ((if_neg (by decide)).trans ((if_neg (by decide)).trans ((if_neg (by decide)).trans ((if_neg (by decide)).trans ((if_neg (by decide)).trans ((if_neg (by decide)).trans ?_))))))
    by_cases e : a = b
    · rw [if_pos e]; exact congrArg some (if_pos e).symm
    · rw [if_neg e]; exact congrArg some (if_neg e).symm
/-- the class: a sign of two -/
theorem cls_bin {H p n kd : Nat} {T : Int32} {cs : Nat → Int32} (h2 : 2 ≤ H) (hH : H < 48) (hp : p + 1 < 640) (hn : n < 640) (k2 : 2 ≤ kd) (k9 : kd ≤ 9) (h : code p = sgnT kd) :
    Law_reckon_L10 code given (nI H, T, nI p, nI n, cs) = if (kd = 5 ∨ kd = 6) ∧ cs (H - 1) = 0 then some (.inr (.inr (.inr (.inr (.inl cs))))) else if kd ≤ 6 then some (.inl (nI (H - 1), T, nI (p + 1), nI (n + 1), upd cs (H - 2) (rk kd (cs (H - 2)) (cs (H - 1))))) else some (.inl (nI (H - 2), rk kd (cs (H - 2)) (cs (H - 1)), nI (p + 1), nI (n + 1), cs)) := by
  have hc : kd = 2 ∨ kd = 3 ∨ kd = 4 ∨ kd = 5 ∨ kd = 6 ∨ kd = 7 ∨ kd = 8 ∨ kd = 9 := by omega
  have e1 : nI H - 1 = nI (H - 1) := nI_subN (b := 1) (by omega)
  have e2 : nI H - 2 = nI (H - 2) := nI_subN (b := 2) (by omega)
  have hm1 : nI H + (-1) = nI (H - 1) := by
    have := pk_m1 (H - 1)
    rw [show H - 1 + 1 = H by omega] at this
    exact this
  have e3 : nI (H - 1) - 1 = nI (H - 2) := (nI_subN (b := 1) (by omega)).trans (by rw [show H - 1 - 1 = H - 2 by omega])
  have hm2 : nI H + (-2) = nI (H - 2) := by
    rw [show (-2 : Int32) = (-1) + (-1) from rfl, ← Int32.add_assoc, hm1]
    have := pk_m1 (H - 2)
    rw [show H - 2 + 1 = H - 1 by omega] at this
    exact this
  have ep : nI p + 1 = nI (p + 1) := nI_ad p 1
  have n1 : ¬ sgnT kd = 1 := by rcases hc with rfl | rfl | rfl | rfl | rfl | rfl | rfl | rfl <;> decide
  have n2 : ¬ sgnT kd = 2 := by rcases hc with rfl | rfl | rfl | rfl | rfl | rfl | rfl | rfl <;> decide
  have n3 : ¬ sgnT kd = 38 := by rcases hc with rfl | rfl | rfl | rfl | rfl | rfl | rfl | rfl <;> decide
  have n4 : ¬ sgnT kd = 124 := by rcases hc with rfl | rfl | rfl | rfl | rfl | rfl | rfl | rfl <;> decide
  have n5 : ¬ sgnT kd = 33 := by rcases hc with rfl | rfl | rfl | rfl | rfl | rfl | rfl | rfl <;> decide
  have n6 : ¬ sgnT kd = 4 := by rcases hc with rfl | rfl | rfl | rfl | rfl | rfl | rfl | rfl <;> decide
  rw [cls_pre hH hp hn, h, if_neg n1, if_neg n2, if_neg n3, if_neg n4, if_neg n5, if_neg n6, if_neg (show ¬ nI H < 2 from fun z => absurd ((nI_ltN (b := 2) (by omega) (by decide)).mp z) (by omega)), e1, e2, gd_eq (ixN (by omega) (by decide)), gd_eq (ixN (by omega) (by decide)), nI_clamp (by omega), nI_clamp (by omega)]
  -- the reckoning itself
  have hJ : ((kd = 5 ∨ kd = 6) → ¬ cs (H - 1) = 0) → Law_reckon_L10_J271 (nI H) T (nI p) (nI n) (sgnT kd) (cs (H - 2)) (cs (H - 1)) code given cs = if kd ≤ 6 then some (.inl (nI (H - 1), T, nI (p + 1), nI (n + 1), upd cs (H - 2) (rk kd (cs (H - 2)) (cs (H - 1))))) else some (.inl (nI (H - 2), rk kd (cs (H - 2)) (cs (H - 1)), nI (p + 1), nI (n + 1), cs)) := by
    intro hz
    generalize cs (H - 2) = a
    generalize cs (H - 1) = b at hz
    have hcmp : ∀ {x : Int32}, Law_compares (sgnT kd) a b = some x → (x = 0 ∨ x = 1) → Law_reckon_L10_J295 (nI H) (nI p + 1) (nI n) (sgnT kd) a b code given cs = some (.inl (nI (H - 2), x, nI (p + 1), nI (n + 1), cs)) := by
      intro x hx h01
      unfold Law_reckon_L10_J295 Law_reckon_L10_J315
      refine (ob_eq hx).trans ?_
      rw [hm2, ep, j339, j339]
      rcases h01 with rfl | rfl
      · exact if_pos rfl
      · exact if_neg one_ne0
    have hcomb : ∀ {x : Int32}, Law_combined (sgnT kd) a b = some x → (ob (Law_combined (sgnT kd) a b) fun x1 => gd (ix ((nI H + (-1)) - 1) 48) (Law_reckon_L10_J339 (nI H + (-1)) T (nI p + 1) (nI n) code given (upd cs ((nI H + (-1)) - 1 : Int32).toNatClampNeg x1))) = some (.inl (nI (H - 1), T, nI (p + 1), nI (n + 1), upd cs (H - 2) x)) := by
      intro x hx
      rw [ob_eq hx, hm1, e3, gd_eq (ixN (by omega) (by decide)), ep, j339, nI_clamp (by omega)]
    unfold Law_reckon_L10_J271
    rcases hc with rfl | rfl | rfl | rfl | rfl | rfl | rfl | rfl
    · exact hcomb rfl
    · exact hcomb rfl
    · exact hcomb rfl
    · have hb := hz (Or.inl rfl)
      exact hcomb ((show Law_combined 47 a b = _ from rfl).trans ((if_neg hb).trans (gd_eq (nz_of hb))))
    · have hb := hz (Or.inr rfl)
      exact hcomb ((show Law_combined 37 a b = _ from rfl).trans ((if_neg hb).trans (gd_eq (nz_of hb))))
    · refine hcmp (x := rk 7 a b) ?_ (rk_bool (by omega) a b)
      show (if a < b then (some 1) else (some 0)) = some (if a < b then 1 else 0)
      by_cases e : a < b
      · rw [if_pos e, if_pos e]
      · rw [if_neg e, if_neg e]
    · refine hcmp (x := rk 8 a b) ?_ (rk_bool (by omega) a b)
      show (if a ≤ b then (some 0) else (some 1)) = some (if a ≤ b then 0 else 1)
      by_cases e : a ≤ b
      · rw [if_pos e, if_pos e]
      · rw [if_neg e, if_neg e]
    · refine hcmp (x := rk 9 a b) ?_ (rk_bool (by omega) a b)
      show (if a = b then (some 1) else (some 0)) = some (if a = b then 1 else 0)
      by_cases e : a = b
      · rw [if_pos e, if_pos e]
      · rw [if_neg e, if_neg e]
  by_cases hz : cs (H - 1) = 0
  · rw [if_pos hz]
    by_cases h56 : kd = 5 ∨ kd = 6
    · have hR : (kd = 5 ∨ kd = 6) ∧ cs (H - 1) = 0 := ⟨h56, hz⟩
      rw [if_pos hR]
      rcases h56 with rfl | rfl
      · exact if_pos (show sgnT 5 = 47 from rfl)
      · exact (if_neg (show ¬ sgnT 6 = 47 by decide)).trans (if_pos (show sgnT 6 = 37 from rfl))
    · have hn : ¬ ((kd = 5 ∨ kd = 6) ∧ cs (H - 1) = 0) := fun y => h56 y.1
      have m1 : sgnT kd = 47 → kd = 5 := by rcases hc with rfl | rfl | rfl | rfl | rfl | rfl | rfl | rfl <;> decide
      have m2 : sgnT kd = 37 → kd = 6 := by rcases hc with rfl | rfl | rfl | rfl | rfl | rfl | rfl | rfl <;> decide
      rw [if_neg hn, if_neg (fun z => h56 (Or.inl (m1 z))), if_neg (fun z => h56 (Or.inr (m2 z)))]
      exact hJ (fun y => absurd y h56)
  · have hn : ¬ ((kd = 5 ∨ kd = 6) ∧ cs (H - 1) = 0) := fun y => hz y.2
    rw [if_neg hz, if_neg hn]
    exact hJ (fun _ => hz)
end EV
section ER
variable {codes facts : Nat → Int32} {b : Int32}
theorem ref_pre {d k kd ar e : Nat} {rs : Nat → Int32} (hk : k < e) (he : e ≤ 240) (hkd : kd < 20) (har : ar < 1048576) (h : codes k = nI (kd * 1048576 + ar)) :
    Mo_reckonsTo_L16 (nI e) b codes facts (nI d, nI k, rs) = (if nI kd = 0 then (Mo_reckonsTo_L16_J63 (nI e) (nI d) b (nI (k + 1)) (nI kd) (nI ar) codes rs facts) else (if nI kd = 1 then (Mo_reckonsTo_L16_J63 (nI e) (nI d) b (nI (k + 1)) (nI kd) (nI ar) codes rs facts) else (if nI kd = 10 then (gd (ix (nI d - 1) 260) (gd (ix (nI d - 1) 260) (Mo_reckonsTo_L16_J230 (nI e) (nI d) b (nI (k + 1)) codes (upd rs (nI d - 1 : Int32).toNatClampNeg (1 - (rs (nI d - 1 : Int32).toNatClampNeg))) facts))) else (if nI kd = 11 then (Mo_reckonsTo_L16_J135 (nI e) (nI d) b (nI (k + 1)) (nI kd) (nI ar) codes rs facts) else (if nI kd = 12 then (Mo_reckonsTo_L16_J135 (nI e) (nI d) b (nI (k + 1)) (nI kd) (nI ar) codes rs facts) else (if nI kd = 5 then (Mo_reckonsTo_L16_J192 (nI e) (nI d - 1) b (nI (k + 1)) (nI kd) codes rs facts) else (if nI kd = 6 then (Mo_reckonsTo_L16_J192 (nI e) (nI d - 1) b (nI (k + 1)) (nI kd) codes rs facts) else (Mo_reckonsTo_L16_J203 (nI e) (nI d - 1) b (nI (k + 1)) (nI kd) codes rs facts)))))))) := by
  have c0 : (nI k).toNatClampNeg = k := nI_clamp (by omega)
  have hx : ix (nI k) 260 = true := ixN (by omega) (by decide)
  unfold Mo_reckonsTo_L16
  refine (if_pos (show nI k < nI e from (nI_ltN (by omega) (by omega)).mpr hk)).trans ((gd_eq hx).trans ((gd_eq hx).trans ?_))
  show (if codes (nI k).toNatClampNeg / 1048576 = 0 then (Mo_reckonsTo_L16_J63 (nI e) (nI d) b (nI k + 1) (codes (nI k).toNatClampNeg / 1048576) (codes (nI k).toNatClampNeg % 1048576) codes rs facts) else _) = _
  rw [c0, h, kd_div hkd har, kd_mod hkd har, show nI k + 1 = nI (k + 1) from nI_ad k 1]
theorem ref_num {d k ar e : Nat} {rs : Nat → Int32} (hk : k < e) (he : e ≤ 240) (hd : d < 260) (har : ar < 1048576) (h : codes k = nI (0 * 1048576 + ar)) : Mo_reckonsTo_L16 (nI e) b codes facts (nI d, nI k, rs) = some (.inl (nI (d + 1), nI (k + 1), upd rs d (nI ar))) := by
  rw [ref_pre (kd := 0) hk he (by decide) har h, if_pos (show nI 0 = 0 from rfl)]
  unfold Mo_reckonsTo_L16_J63 Mo_reckonsTo_L16_J85 Mo_reckonsTo_L16_J230
  rw [if_pos (show nI 0 = 0 from rfl), gd_eq (ixN hd (by decide)), nI_clamp (by omega), show nI d + 1 = nI (d + 1) from nI_ad d 1]
theorem ref_fact {d k ar e : Nat} {rs : Nat → Int32} (hk : k < e) (he : e ≤ 240) (hd : d < 260) (har : ar < 9) (h : codes k = nI (1 * 1048576 + ar)) : Mo_reckonsTo_L16 (nI e) b codes facts (nI d, nI k, rs) = some (.inl (nI (d + 1), nI (k + 1), upd rs d (facts ar))) := by
  rw [ref_pre (kd := 1) hk he (by decide) (by omega) h, if_neg (show ¬ nI 1 = 0 by decide), if_pos (show nI 1 = 1 from rfl)]
  unfold Mo_reckonsTo_L16_J63 Mo_reckonsTo_L16_J85 Mo_reckonsTo_L16_J230
  rw [if_neg (show ¬ nI 1 = 0 by decide), gd_eq (ixN har (by decide)), gd_eq (ixN hd (by decide)), nI_clamp (by omega), nI_clamp (by omega), show nI d + 1 = nI (d + 1) from nI_ad d 1]
theorem ref_not {k e : Nat} {rs : Nat → Int32} (hk : k < e) (he : e ≤ 240) {ar : Nat} (har : ar < 1048576) (h : codes k = nI (10 * 1048576 + ar)) : Mo_reckonsTo_L16 (nI e) b codes facts (nI 1, nI k, rs) = some (.inl (nI 1, nI (k + 1), upd rs 0 (1 - rs 0))) := by
  rw [ref_pre (kd := 10) hk he (by decide) har h, if_neg (show ¬ nI 10 = 0 by decide), if_neg (show ¬ nI 10 = 1 by decide), if_pos (show nI 10 = 10 from rfl)]
  rfl
theorem ref_jmp {k ar e kd : Nat} {rs : Nat → Int32} (hk : k < e) (he : e ≤ 240) (har : ar < 1048576) (hkd : kd = 11 ∨ kd = 12) (h : codes k = nI (kd * 1048576 + ar)) : Mo_reckonsTo_L16 (nI e) 0 codes facts (nI 1, nI k, rs) = if rs 0 = (if kd = 12 then 1 else 0) then some (.inl (nI 1, nI ar, rs)) else some (.inl (nI 0, nI (k + 1), rs)) := by
  have hz : (0 : Int32) + nI ar = nI ar := (nI_ad 0 ar).trans (by rw [Nat.zero_add])
  rcases hkd with rfl | rfl
  · rw [ref_pre (kd := 11) hk he (by decide) har h, if_neg (show ¬ nI 11 = 0 by decide), if_neg (show ¬ nI 11 = 1 by decide), if_neg (show ¬ nI 11 = 10 by decide), if_pos (show nI 11 = 11 from rfl), if_neg (show ¬ 11 = 12 by decide)]
    unfold Mo_reckonsTo_L16_J135 Mo_reckonsTo_L16_J155 Mo_reckonsTo_L16_J230
    rw [hz]
    exact (gd_eq (show ix (nI 1 - 1) 260 = true from rfl)).trans (if_neg (by decide))
  · rw [ref_pre (kd := 12) hk he (by decide) har h, if_neg (show ¬ nI 12 = 0 by decide), if_neg (show ¬ nI 12 = 1 by decide), if_neg (show ¬ nI 12 = 10 by decide), if_neg (show ¬ nI 12 = 11 by decide), if_pos (show nI 12 = 12 from rfl), if_pos (show 12 = 12 from rfl)]
    unfold Mo_reckonsTo_L16_J135 Mo_reckonsTo_L16_J155 Mo_reckonsTo_L16_J230
    rw [hz]
    exact (gd_eq (show ix (nI 1 - 1) 260 = true from rfl)).trans (if_pos rfl)
theorem ref_bin {d k ar e kd : Nat} {rs : Nat → Int32} (hk : k < e) (he : e ≤ 240) (h2 : 2 ≤ d) (hd : d < 260) (k2 : 2 ≤ kd) (k9 : kd ≤ 9) (har : ar < 1048576) (h : codes k = nI (kd * 1048576 + ar)) :
    Mo_reckonsTo_L16 (nI e) b codes facts (nI d, nI k, rs) = if (kd = 5 ∨ kd = 6) ∧ rs (d - 1) = 0 then some (.inr (.inl rs)) else some (.inl (nI (d - 1), nI (k + 1), upd rs (d - 2) (rk kd (rs (d - 2)) (rs (d - 1))))) := by
  have e1 : nI d - 1 = nI (d - 1) := nI_subN (b := 1) (by omega)
  have e2 : nI (d - 1) - 1 = nI (d - 2) := (nI_subN (b := 1) (by omega)).trans (by rw [show d - 1 - 1 = d - 2 by omega])
  have hJ : ((kd = 5 ∨ kd = 6) → ¬ rs (d - 1) = 0) → Mo_reckonsTo_L16_J203 (nI e) (nI (d - 1)) b (nI (k + 1)) (nI kd) codes rs facts = some (.inl (nI (d - 1), nI (k + 1), upd rs (d - 2) (rk kd (rs (d - 2)) (rs (d - 1))))) := by
    intro hz
    unfold Mo_reckonsTo_L16_J203 Mo_reckonsTo_L16_J230
    rw [e2, gd_eq (ixN (by omega) (by decide)), gd_eq (ixN (by omega) (by decide)), nI_clamp (by omega), nI_clamp (by omega), ob_eq (reckon_eq k2 k9 _ _ hz), gd_eq (ixN (by omega) (by decide))]
  rw [ref_pre hk he (by omega) har h, if_neg (ne0N (by omega) (by omega)), if_neg (show ¬ nI kd = 1 from neN (b := 1) (by omega) (by decide) (by omega)), if_neg (show ¬ nI kd = 10 from neN (b := 10) (by omega) (by decide) (by omega)), if_neg (show ¬ nI kd = 11 from neN (b := 11) (by omega) (by decide) (by omega)), if_neg (show ¬ nI kd = 12 from neN (b := 12) (by omega) (by decide) (by omega)), e1]
  have h192 : (kd = 5 ∨ kd = 6) → Mo_reckonsTo_L16_J192 (nI e) (nI (d - 1)) b (nI (k + 1)) (nI kd) codes rs facts = if (kd = 5 ∨ kd = 6) ∧ rs (d - 1) = 0 then some (.inr (.inl rs)) else some (.inl (nI (d - 1), nI (k + 1), upd rs (d - 2) (rk kd (rs (d - 2)) (rs (d - 1))))) := by
    intro h56
    unfold Mo_reckonsTo_L16_J192
    rw [gd_eq (ixN (show d - 1 < 260 by omega) (by decide)), nI_clamp (by omega)]
    by_cases hz : rs (d - 1) = 0
    · rw [if_pos hz, if_pos ⟨h56, hz⟩]
    · rw [if_neg hz, if_neg (fun y => hz y.2)]; exact hJ (fun _ => hz)
  by_cases h5 : kd = 5
  · rw [if_pos (show nI kd = 5 by rw [h5]; rfl)]; exact h192 (Or.inl h5)
  · rw [if_neg (show ¬ nI kd = 5 from neN (b := 5) (by omega) (by decide) h5)]
    by_cases h6 : kd = 6
    · rw [if_pos (show nI kd = 6 by rw [h6]; rfl)]; exact h192 (Or.inr h6)
    · rw [if_neg (show ¬ nI kd = 6 from neN (b := 6) (by omega) (by decide) h6), if_neg (fun y => y.1.elim h5 h6)]
      exact hJ (fun y => absurd y (fun z => z.elim h5 h6))
end ER
