/-! NUMBER, LANDNUMBER -/
theorem why_ex {n : Nat} {nx : Nat → Nat} {w : Nat} (hG : GoodG n nx) (hw : w < n) {ways : Nat → Int32} (hr : RW n nx ways) : ∃ why, Numbers_refusalAt (nI n) ways (nI w) = some why := by
  obtain ⟨why, sh, wi, bi, q, -⟩ := refuse_ok hG hw hr hr (fun _ => 0) (fun _ => 0) 0
  exact ⟨why, q⟩
theorem number_ok {n : Nat} {nx : Nat → Nat} (hG : GoodG n nx) {next nextTo ways : Nat → Int32} (hx : ∀ w, w < 12 → next w = nI (nx w)) (hx2 : ∀ w, w < 12 → nextTo w = nI (nx w)) (hr : RW n nx ways) {bc bs : Nat} (hbc : 2 ≤ bc) (hbs : 196608 ≤ bs) {nf nm : Nat} (hz : SZ2 nf nm) {told lay rows : Nat → Int32} (hMN : MNs n nx told lay rows)
    (fo ma sh0 fi0 two full change : Nat → Int32) (mv wn sz ls : Int32) (far line shm wim nim hem ivm : Nat → Int32) (bim vm vy vg : Int32) (a1 a2 : Int32) :
    ∃ r y x, Dj_number bc bs (nI n) next ways told lay rows fo nf ma nm sh0 fi0 two full change mv wn sz ls a1 a2 = some (r, y) ∧ SZw n nx nf y ∧ Mo_number nextTo (nI n) far line shm wim nim hem ivm bim vm vy vg a1 a2 = some (r, x) := by
  have n12 := hG.1
  have hsame : SZw n nx nf (told, lay, rows, fo, nf, ma, nm, sh0, fi0, two, full, change, mv, wn, sz, ls, 0, 0) := ⟨hMN, hz, Nat.le_refl _, Nat.zero_le _, by show 0 + 3 * nf ≤ 3 * nf; omega⟩
  rcases well_cases a1 n12 with ⟨w, hw, rfl, e1, e2⟩ | ⟨e1, e2, -⟩
  · -- is it a question
    have ask : (Dj_asksLaying (nI n) a2 = some 0 ∧ ¬ a2 = 100 ∧ ¬ a2 = 101 ∧ Mo_isWell (nI n) a2 = some 0) ∨ (Dj_asksLaying (nI n) a2 = some 1 ∧ (a2 = 100 ∨ (¬ a2 = 100 ∧ a2 = 101) ∨ (¬ a2 = 100 ∧ ¬ a2 = 101 ∧ ∃ v, v < n ∧ a2 = nI v ∧ Mo_isWell (nI n) a2 = some 1))) := by
      unfold Dj_asksLaying Dj_asksLaying_J23
      by_cases h1 : a2 = 100
      · rw [if_pos h1]; exact Or.inr ⟨rfl, Or.inl h1⟩
      · rw [if_neg h1]
        by_cases h2 : a2 = 101
        · rw [if_pos h2]; exact Or.inr ⟨rfl, Or.inr (Or.inl ⟨h1, h2⟩)⟩
        · rw [if_neg h2]
          rcases well_cases a2 n12 with ⟨v, hv, ev, f1, f2⟩ | ⟨f1, f2, -⟩
          · rw [ob_eq f1, if_neg one_ne0]
            exact Or.inr ⟨rfl, Or.inr (Or.inr ⟨h1, h2, v, hv, ev, f2⟩)⟩
          · rw [ob_eq f1, if_pos rfl]
            exact Or.inl ⟨rfl, h1, h2, f2⟩
    rcases ask with ⟨k1, k2, k3, k4⟩ | ⟨k1, k2⟩
    · refine ⟨-1, _, (far, line, shm, wim, nim, hem, ivm, bim, vm, vy, vg), ?_, hsame, ?_⟩
      · unfold Dj_number
        rw [ob_eq e1, if_neg one_ne0, ob_eq k1, if_pos rfl]
      · unfold Mo_number
        rw [ob_eq e2, if_neg one_ne0, if_neg k2, if_neg k3, ob_eq k4, if_pos rfl]
    · obtain ⟨far', line', l1, l2⟩ := laysSteps_ok hG hx2 far line
      obtain ⟨why, y, x2, q1, q2, q3⟩ := ofWell_ok hG hx hx2 hr l2 hw hbc (bs := bs) (by omega) hz hMN fo ma sh0 fi0 two full change mv wn sz ls shm wim nim hem ivm bim vm vy vg
      have hMo : Mo_number nextTo (nI n) far line shm wim nim hem ivm bim vm vy vg (nI w) a2 = Mo_number_J30 (nI w) a2 nextTo (nI n) far line shm wim nim hem ivm bim vm vy vg := by
        unfold Mo_number
        rw [ob_eq e2, if_neg one_ne0]
        rcases k2 with z | ⟨z1, z2⟩ | ⟨z1, z2, v, -, -, z3⟩
        · rw [if_pos z]
        · rw [if_neg z1, if_pos z2]
        · rw [if_neg z1, if_neg z2, ob_eq z3, if_neg one_ne0]
      rw [hMo]
      have hcuY : SZw n nx nf y → cuOk bc bs 0 0 y.2.2.2.2.2.2.2.2.2.2.2.2.2.2.2.2.1 y.2.2.2.2.2.2.2.2.2.2.2.2.2.2.2.2.2 = true := fun h => by
        obtain ⟨-, ⟨s1, -⟩, -, s3, s4⟩ := h
        have : y.2.2.2.2.1 ≤ 65536 := by rcases s1 with z | z <;> omega
        exact cuOk_yes (by omega) (by omega)
      rcases q3 with ⟨q4, q5, q6, q7⟩ | ⟨rfl, T, LV, G, q4, q5, q6, q7, q8, q9, q10, q11, q12, q13, q14⟩
      · have hcu := hcuY q7
        refine ⟨why, y, (far', line', x2), ?_, q7, ?_⟩
        · unfold Dj_number
          rw [ob_eq e1, if_neg one_ne0, ob_eq k1, if_neg one_ne0, Nat.sub_zero, Nat.sub_zero, ob_eq q6]
          dsimp only
          rw [gd_eq hcu, if_pos q5, Nat.zero_add, Nat.zero_add]
        · unfold Mo_number_J30
          rw [ob_eq l1]
          dsimp only
          rw [ob_eq q1]
          dsimp only
          rw [if_neg q4]
      · have hcu := hcuY q6
        have hD : ∀ r, (if a2 = 100 then some (nI (T + 1)) else if a2 = 101 then some (y.2.1 w) else Numbers_jarsIn y.2.2.1 (nI w) a2) = some r → Dj_number bc bs (nI n) next ways told lay rows fo nf ma nm sh0 fi0 two full change mv wn sz ls (nI w) a2 = some (r, y) := fun r hr2 => by
          unfold Dj_number
          rw [ob_eq e1, if_neg one_ne0, ob_eq k1, if_neg one_ne0, Nat.sub_zero, Nat.sub_zero, ob_eq q5]
          dsimp only
          rw [gd_eq hcu, if_neg (nI_pos (show T + 1 < 2 ^ 31 by omega)), Nat.zero_add, Nat.zero_add]
          by_cases z1 : a2 = 100
          · rw [if_pos z1] at hr2 ⊢
            cases hr2
            rfl
          · rw [if_neg z1] at hr2 ⊢
            by_cases z2 : a2 = 101
            · rw [if_pos z2] at hr2 ⊢
              rw [gd_eq (ixN (show w < 12 by omega) (by omega)), nI_clamp (show w < 2 ^ 31 by omega)]
              cases hr2
              rfl
            · rw [if_neg z2] at hr2 ⊢
              rw [ob_eq hr2]
        have hM : ∀ r, (if a2 = 100 then some (nI T + 1) else if a2 = 101 then some (nI LV.length) else Mo_jarsBy x2.1 x2.2.1 (nI G) a2) = some r → Mo_number_J30 (nI w) a2 nextTo (nI n) far line shm wim nim hem ivm bim vm vy vg = some (r, far', line', x2) := fun r hr2 => by
          unfold Mo_number_J30
          rw [ob_eq l1]
          dsimp only
          rw [ob_eq q1]
          dsimp only
          rw [if_pos rfl]
          by_cases z1 : a2 = 100
          · rw [if_pos z1] at hr2 ⊢
            rw [q13]
            cases hr2
            rw [← q13]
          · rw [if_neg z1] at hr2 ⊢
            by_cases z2 : a2 = 101
            · rw [if_pos z2] at hr2 ⊢
              have h8 : x2.2.2.2.2.2.2.2.1 = nI LV.length := by rw [q14]
              cases hr2
              rw [← h8]
            · rw [if_neg z2] at hr2 ⊢
              have : x2.2.2.2.2.2.2.2.2 = nI G := by rw [q14]
              rw [this, ob_eq hr2, ← this]
        rcases k2 with z | ⟨z1, z2⟩ | ⟨z1, z2, v, hv, ev, -⟩
        · refine ⟨nI (T + 1), y, (far', line', x2), hD _ (if_pos z), q6, hM _ ?_⟩
          rw [if_pos z]
          exact congrArg some (nI_ad T 1)
        · refine ⟨nI LV.length, y, (far', line', x2), hD _ ?_, q6, hM _ ?_⟩
          · rw [if_neg z1, if_pos z2, q8]
          · rw [if_neg z1, if_pos z2]
        · refine ⟨nI (deR n (dnS n nx w) G v), y, (far', line', x2), hD _ ?_, q6, hM _ ?_⟩
          · rw [if_neg z1, if_neg z2, ev]
            unfold Numbers_jarsIn
            rw [row12 (by omega) (by omega), if_neg (nI_pos (by omega)), if_pos (show nI (12 * w + v) < 144 from (nI_ltN (b := 144) (by omega) (by omega)).mpr (by omega)), gd_eq (ixN (by omega) (by omega)), nI_clamp (by omega), q9 v hv]
          · rw [if_neg z1, if_neg z2, ev]
            exact jarsBy_ok n12 q10 q12 (by omega) hv
  · refine ⟨-1, _, (far, line, shm, wim, nim, hem, ivm, bim, vm, vy, vg), ?_, hsame, ?_⟩
    · unfold Dj_number
      rw [ob_eq e1, if_pos rfl]
    · unfold Mo_number
      rw [ob_eq e2, if_pos rfl]
