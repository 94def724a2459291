/-! PRODUCTS, by both -/
theorem le_12 {a : Nat} (h : a < 2 ^ 31) : nI a ≤ 12 ↔ a ≤ 12 := nI_leN (b := 12) h (by decide)
def adjP (m : Nat) (A B : Nat → Nat → Bool) (p q : Nat) : Bool := (decide (p / m = q / m) && B (p % m) (q % m)) || (decide (p % m = q % m) && A (p / m) (q / m))
theorem adjP_sy {m : Nat} {A B : Nat → Nat → Bool} (hA : Sy A) (hB : Sy B) : Sy (adjP m A B) := by
  refine ⟨fun p q => ?_, fun p => ?_⟩
  · unfold adjP
    rw [hA.1 (p / m), hB.1 (p % m), decide_eq_decide.mpr (show p / m = q / m ↔ q / m = p / m from ⟨Eq.symm, Eq.symm⟩), decide_eq_decide.mpr (show p % m = q % m ↔ q % m = p % m from ⟨Eq.symm, Eq.symm⟩)]
  · unfold adjP
    rw [hA.2, hB.2, Bool.and_false, Bool.and_false]; rfl
theorem cell_dm {i j m : Nat} (h : j < m) : (i * m + j) / m = i ∧ (i * m + j) % m = j := by
  constructor
  · rw [Nat.add_comm, Nat.add_mul_div_right _ _ (by omega), Nat.div_eq_of_lt h]; omega
  · rw [Nat.add_comm, Nat.add_mul_mod_self_right, Nat.mod_eq_of_lt h]
theorem cell_lt {i j n m : Nat} (hi : i < n) (hj : j < m) : i * m + j < n * m := by
  have h := Nat.mul_le_mul_right m (show i + 1 ≤ n by omega)
  rw [Nat.succ_mul] at h
  omega
theorem cm_next {n : Nat} (hn : n ≤ 12) {adj : Nat → Nat → Bool} {next : Nat → Int32} (hs : Sy adj) (h : CM n adj next) {p q : Nat} (hp : p < n) (hq : q < n) : Land_areNext (nI n) next (nI p) (nI q) = some (if adj p q then 1 else 0) := by
  rw [areNext_in (nxOf_good hn hs) h hp hq, nxOf_bit, decide_eq_true hp, decide_eq_true hq]; rfl
theorem ex_succ {K : Nat} {Q : Nat → Prop} : (∃ k, k < K + 1 ∧ Q k) ↔ (∃ k, k < K ∧ Q k) ∨ Q K := by
  constructor
  · rintro ⟨k, h1, h2⟩
    by_cases e : k = K
    · subst e; exact Or.inr h2
    · exact Or.inl ⟨k, by omega, h2⟩
  · rintro (⟨k, h1, h2⟩ | h)
    · exact ⟨k, by omega, h2⟩
    · exact ⟨K, by omega, h⟩
section PR
variable {n m : Nat} {A B : Nat → Nat → Bool} {nextA nextB : Nat → Int32}
theorem prod14 (hnm : n * m ≤ 12) (hn : n ≤ 12) (hm : m ≤ 12) {i j : Nat} (hi : i < n) (hj : j < m) (sA : Sy A) (cA : CM n A nextA) {P : Nat → Nat → Prop} {next : Nat → Int32} (h : EM (n * m) P next) :
    ∃ next', lp (Land_joinInProduct_L14 (nI i) (nI j) (nI (i * m + j)) (nI (n * m)) (nI n) nextA (nI m)) (0, next) = some next' ∧ EM (n * m) (fun p q => P p q ∨ ∃ k, k < i ∧ (A i k = true ∧ ((p = i * m + j ∧ q = k * m + j) ∨ (p = k * m + j ∧ q = i * m + j)))) next' := by
  refine lp_inv (f := Land_joinInProduct_L14 (nI i) (nI j) (nI (i * m + j)) (nI (n * m)) (nI n) nextA (nI m)) (fun K s => ∃ nx, s = (nI K, nx) ∧ EM (n * m) (fun p q => P p q ∨ ∃ k, k < K ∧ (A i k = true ∧ ((p = i * m + j ∧ q = k * m + j) ∨ (p = k * m + j ∧ q = i * m + j)))) nx) i _ ?_ ?_ 0 _ (Nat.zero_le _) ⟨next, rfl, em_congr h (fun p q _ _ => ⟨Or.inl, fun z => z.elim id (fun ⟨k, hk, _⟩ => absurd hk (Nat.not_lt_zero _))⟩)⟩
  · rintro K s hK ⟨nx, rfl, hE⟩
    have hlt : nI K < nI i := (nI_ltN (by omega) (by omega)).mpr hK
    have e1 : nI K + 1 = nI (K + 1) := nI_ad K 1
    have hnx := cm_next hn sA cA hi (show K < n by omega)
    cases hb : A i K with
    | false =>
      refine Or.inl ⟨(nI (K + 1), nx), ?_, nx, rfl, em_congr hE (fun p q _ _ => ?_)⟩
      · unfold Land_joinInProduct_L14 Land_joinInProduct_L14_J46
        rw [hb, if_neg Bool.false_ne_true] at hnx
        refine (if_pos hlt).trans ((ob_eq hnx).trans ((if_pos rfl).trans ?_))
        show some (Sum.inl (nI K + 1, nx)) = _
        rw [e1]
      · rw [ex_succ, hb]
        constructor
        · rintro (z | z)
          · exact Or.inl z
          · exact Or.inr (Or.inl z)
        · rintro (z | z | z)
          · exact Or.inl z
          · exact Or.inr z
          · cases z.1
    | true =>
      have hc : K * m + j ≠ i * m + j := fun z => by
        have := congrArg (fun x => x / m) z
        simp only [(cell_dm hj).1] at this
        omega
      obtain ⟨nx', g1, g2⟩ := em_join hnm hE (a := i * m + j) (b := K * m + j) (cell_lt hi hj) (cell_lt (by omega) hj) (Ne.symm hc)
      refine Or.inl ⟨(nI (K + 1), nx'), ?_, nx', rfl, em_congr g2 (fun p q _ _ => ?_)⟩
      · unfold Land_joinInProduct_L14 Land_joinInProduct_L14_J46
        rw [hb, if_pos rfl] at hnx
        refine (if_pos hlt).trans ((ob_eq hnx).trans ((if_neg one_ne0).trans ((ob_eq (a := nx') ?_).trans ?_)))
        · show Land_join (nI (n * m)) nx (nI (i * m + j)) (nI K * nI m + nI j) = _
          rw [nI_mulN, nI_ad]; exact g1
        · show some (Sum.inl (nI K + 1, nx')) = _
          rw [e1]
      · rw [ex_succ]
        constructor
        · rintro ((z | z) | z)
          · exact Or.inl z
          · exact Or.inr (Or.inl z)
          · exact Or.inr (Or.inr ⟨hb, z⟩)
        · rintro (z | z | z)
          · exact Or.inl (Or.inl z)
          · exact Or.inl (Or.inr z)
          · exact Or.inr z.2
  · rintro s ⟨nx, rfl, hE⟩
    refine ⟨nx, ?_, hE⟩
    unfold Land_joinInProduct_L14
    exact if_neg (not_self (by omega))
theorem prod55 (hnm : n * m ≤ 12) (hm : m ≤ 12) {i j : Nat} (hi : i < n) (hn : n ≤ 12) (hj : j < m) (sB : Sy B) (cB : CM m B nextB) {P : Nat → Nat → Prop} {next : Nat → Int32} (h : EM (n * m) P next) :
    ∃ next', lp (Land_joinInProduct_L55 (nI i) (nI j) (nI (i * m + j)) (nI (n * m)) (nI m) nextB) (0, next) = some next' ∧ EM (n * m) (fun p q => P p q ∨ ∃ k, k < j ∧ (B j k = true ∧ ((p = i * m + j ∧ q = i * m + k) ∨ (p = i * m + k ∧ q = i * m + j)))) next' := by
  refine lp_inv (f := Land_joinInProduct_L55 (nI i) (nI j) (nI (i * m + j)) (nI (n * m)) (nI m) nextB) (fun K s => ∃ nx, s = (nI K, nx) ∧ EM (n * m) (fun p q => P p q ∨ ∃ k, k < K ∧ (B j k = true ∧ ((p = i * m + j ∧ q = i * m + k) ∨ (p = i * m + k ∧ q = i * m + j)))) nx) j _ ?_ ?_ 0 _ (Nat.zero_le _) ⟨next, rfl, em_congr h (fun p q _ _ => ⟨Or.inl, fun z => z.elim id (fun ⟨k, hk, _⟩ => absurd hk (Nat.not_lt_zero _))⟩)⟩
  · rintro K s hK ⟨nx, rfl, hE⟩
    have hlt : nI K < nI j := (nI_ltN (by omega) (by omega)).mpr hK
    have e1 : nI K + 1 = nI (K + 1) := nI_ad K 1
    have hnx := cm_next hm sB cB hj (show K < m by omega)
    cases hb : B j K with
    | false =>
      refine Or.inl ⟨(nI (K + 1), nx), ?_, nx, rfl, em_congr hE (fun p q _ _ => ?_)⟩
      · unfold Land_joinInProduct_L55 Land_joinInProduct_L55_J88
        rw [hb, if_neg Bool.false_ne_true] at hnx
        refine (if_pos hlt).trans ((ob_eq hnx).trans ((if_pos rfl).trans ?_))
        show some (Sum.inl (nI K + 1, nx)) = _
        rw [e1]
      · rw [ex_succ, hb]
        constructor
        · rintro (z | z)
          · exact Or.inl z
          · exact Or.inr (Or.inl z)
        · rintro (z | z | z)
          · exact Or.inl z
          · exact Or.inr z
          · cases z.1
    | true =>
      obtain ⟨nx', g1, g2⟩ := em_join hnm hE (a := i * m + j) (b := i * m + K) (cell_lt hi hj) (cell_lt hi (by omega)) (by omega)
      refine Or.inl ⟨(nI (K + 1), nx'), ?_, nx', rfl, em_congr g2 (fun p q _ _ => ?_)⟩
      · unfold Land_joinInProduct_L55 Land_joinInProduct_L55_J88
        rw [hb, if_pos rfl] at hnx
        refine (if_pos hlt).trans ((ob_eq hnx).trans ((if_neg one_ne0).trans ((ob_eq (a := nx') ?_).trans ?_)))
        · show Land_join (nI (n * m)) nx (nI (i * m + j)) (nI i * nI m + nI K) = _
          rw [nI_mulN, nI_ad]; exact g1
        · show some (Sum.inl (nI K + 1, nx')) = _
          rw [e1]
      · rw [ex_succ]
        constructor
        · rintro ((z | z) | z)
          · exact Or.inl z
          · exact Or.inr (Or.inl z)
          · exact Or.inr (Or.inr ⟨hb, z⟩)
        · rintro (z | z | z)
          · exact Or.inl (Or.inl z)
          · exact Or.inl (Or.inr z)
          · exact Or.inr z.2
  · rintro s ⟨nx, rfl, hE⟩
    refine ⟨nx, ?_, hE⟩
    unfold Land_joinInProduct_L55
    exact if_neg (not_self (by omega))
theorem cell_new (sA : Sy A) (sB : Sy B) {i j : Nat} (hj : j < m) (p q : Nat) :
    (((adjP m A B p q = true ∧ p < i * m + j ∧ q < i * m + j) ∨ ∃ k, k < i ∧ (A i k = true ∧ ((p = i * m + j ∧ q = k * m + j) ∨ (p = k * m + j ∧ q = i * m + j)))) ∨ ∃ k, k < j ∧ (B j k = true ∧ ((p = i * m + j ∧ q = i * m + k) ∨ (p = i * m + k ∧ q = i * m + j)))) ↔ (adjP m A B p q = true ∧ p < i * m + j + 1 ∧ q < i * m + j + 1) := by
  have hs := adjP_sy (m := m) sA sB
  have fw : ∀ k, k < i → A i k = true → adjP m A B (i * m + j) (k * m + j) = true ∧ k * m + j < i * m + j := by
    intro k hk hA
    have := Nat.mul_lt_mul_of_pos_right hk (show 0 < m by omega)
    refine ⟨?_, by omega⟩
    unfold adjP
    rw [(cell_dm hj).1, (cell_dm hj).1, (cell_dm hj).2, (cell_dm hj).2, hA, decide_eq_true rfl, Bool.and_self, Bool.or_true]
  have fw2 : ∀ k, k < j → B j k = true → adjP m A B (i * m + j) (i * m + k) = true ∧ i * m + k < i * m + j := by
    intro k hk hB
    refine ⟨?_, by omega⟩
    unfold adjP
    rw [(cell_dm hj).1, (cell_dm (show k < m by omega)).1, (cell_dm hj).2, (cell_dm (show k < m by omega)).2, hB, decide_eq_true rfl, Bool.and_self, Bool.true_or]
  have bw : ∀ q, q < i * m + j → adjP m A B (i * m + j) q = true → (∃ k, k < i ∧ A i k = true ∧ q = k * m + j) ∨ ∃ k, k < j ∧ B j k = true ∧ q = i * m + k := by
    intro q hq h
    unfold adjP at h
    rw [(cell_dm hj).1, (cell_dm hj).2, Bool.or_eq_true, Bool.and_eq_true, Bool.and_eq_true, decide_eq_true_eq, decide_eq_true_eq] at h
    have hd := Nat.div_add_mod' q m
    rcases h with ⟨h1, h2⟩ | ⟨h1, h2⟩
    · rw [← h1] at hd
      exact Or.inr ⟨q % m, by omega, h2, hd.symm⟩
    · rw [← h1] at hd
      refine Or.inl ⟨q / m, ?_, h2, hd.symm⟩
      rcases Nat.lt_or_ge (q / m) i with z | z
      · exact z
      · have := Nat.mul_le_mul_right m z
        omega
  constructor
  · rintro ((⟨h1, h2, h3⟩ | ⟨k, hk, hA, (⟨rfl, rfl⟩ | ⟨rfl, rfl⟩)⟩) | ⟨k, hk, hB, (⟨rfl, rfl⟩ | ⟨rfl, rfl⟩)⟩)
    · exact ⟨h1, by omega, by omega⟩
    · obtain ⟨a, b⟩ := fw k hk hA; exact ⟨a, by omega, by omega⟩
    · obtain ⟨a, b⟩ := fw k hk hA; exact ⟨by rw [hs.1]; exact a, by omega, by omega⟩
    · obtain ⟨a, b⟩ := fw2 k hk hB; exact ⟨a, by omega, by omega⟩
    · obtain ⟨a, b⟩ := fw2 k hk hB; exact ⟨by rw [hs.1]; exact a, by omega, by omega⟩
  · rintro ⟨h1, h2, h3⟩
    by_cases ep : p = i * m + j
    · by_cases eq : q = i * m + j
      · rw [ep, eq, hs.2] at h1; cases h1
      · rw [ep] at h1
        rcases bw q (by omega) h1 with ⟨k, k1, k2, k3⟩ | ⟨k, k1, k2, k3⟩
        · exact Or.inl (Or.inr ⟨k, k1, k2, Or.inl ⟨ep, k3⟩⟩)
        · exact Or.inr ⟨k, k1, k2, Or.inl ⟨ep, k3⟩⟩
    · by_cases eq : q = i * m + j
      · rw [eq, hs.1] at h1
        rcases bw p (by omega) h1 with ⟨k, k1, k2, k3⟩ | ⟨k, k1, k2, k3⟩
        · exact Or.inl (Or.inr ⟨k, k1, k2, Or.inr ⟨k3, eq⟩⟩)
        · exact Or.inr ⟨k, k1, k2, Or.inr ⟨k3, eq⟩⟩
      · exact Or.inl (Or.inl ⟨h1, by omega, by omega⟩)
theorem prod_cls (hnm : n * m ≤ 12) (hn : n ≤ 12) (hm : m ≤ 12) (sA : Sy A) (cA : CM n A nextA) (sB : Sy B) (cB : CM m B nextB) (w0 : Int32) (next : Nat → Int32) :
    ∃ next', Land_becomeProduct w0 next (nI n) nextA (nI m) nextB = some (nI (n * m), next') ∧ CM (n * m) (adjP m A B) next' := by
  have hcell : ∀ {i j : Nat} {nx : Nat → Int32}, i < n → j < m → EM (n * m) (fun p q => adjP m A B p q = true ∧ p < i * m + j ∧ q < i * m + j) nx → ∃ nx', Land_joinInProduct (nI (n * m)) nx (nI n) nextA (nI m) nextB (nI i) (nI j) = some nx' ∧ EM (n * m) (fun p q => adjP m A B p q = true ∧ p < i * m + j + 1 ∧ q < i * m + j + 1) nx' := by
    intro i j nx hi hj hE
    obtain ⟨n1, a1, a2⟩ := prod14 hnm hn hm hi hj sA cA hE
    obtain ⟨n2, b1, b2⟩ := prod55 hnm hm hi hn hj sB cB a2
    refine ⟨n2, ?_, em_congr b2 (fun p q _ _ => cell_new sA sB hj p q)⟩
    unfold Land_joinInProduct
    rw [nI_mulN, nI_ad]
    exact (ob_eq a1).trans ((ob_eq b1).trans rfl)
  have hrow : ∀ {i : Nat} {nx : Nat → Int32}, i < n → EM (n * m) (fun p q => adjP m A B p q = true ∧ p < i * m ∧ q < i * m) nx → ∃ nx', lp (Land_becomeProduct_L26 (nI i) (nI (n * m)) (nI n) nextA (nI m) nextB) (0, nx) = some nx' ∧ EM (n * m) (fun p q => adjP m A B p q = true ∧ p < (i + 1) * m ∧ q < (i + 1) * m) nx' := by
    intro i nx hi hE
    refine lp_inv (f := Land_becomeProduct_L26 (nI i) (nI (n * m)) (nI n) nextA (nI m) nextB) (fun j s => ∃ nx, s = (nI j, nx) ∧ EM (n * m) (fun p q => adjP m A B p q = true ∧ p < i * m + j ∧ q < i * m + j) nx) m _ ?_ ?_ 0 _ (Nat.zero_le _) ⟨nx, rfl, hE⟩
    · rintro j s hj ⟨nx, rfl, hE⟩
      obtain ⟨nx', g1, g2⟩ := hcell hi hj hE
      refine Or.inl ⟨(nI (j + 1), nx'), ?_, nx', rfl, g2⟩
      unfold Land_becomeProduct_L26
      refine (if_pos ((nI_ltN (by omega) (by omega)).mpr hj)).trans ((ob_eq g1).trans ?_)
      show some (Sum.inl (nI j + nI 1, nx')) = _
      rw [nI_ad]
    · rintro s ⟨nx, rfl, hE⟩
      refine ⟨nx, ?_, em_congr hE (fun p q _ _ => by rw [Nat.succ_mul])⟩
      unfold Land_becomeProduct_L26
      exact if_neg (not_self (by omega))
  have hall : ∃ nx', lp (Land_becomeProduct_L15 (nI (n * m)) (nI n) nextA (nI m) nextB) (0, filled next 0 12) = some nx' ∧ CM (n * m) (adjP m A B) nx' := by
    refine lp_inv (f := Land_becomeProduct_L15 (nI (n * m)) (nI n) nextA (nI m) nextB) (fun i s => ∃ nx, s = (nI i, nx) ∧ EM (n * m) (fun p q => adjP m A B p q = true ∧ p < i * m ∧ q < i * m) nx) n _ ?_ ?_ 0 _ (Nat.zero_le _) ⟨_, rfl, em_bare (n * m) next (fun p q _ _ h => by omega)⟩
    · rintro i s hi ⟨nx, rfl, hE⟩
      obtain ⟨nx', g1, g2⟩ := hrow hi hE
      refine Or.inl ⟨(nI (i + 1), nx'), ?_, nx', rfl, g2⟩
      unfold Land_becomeProduct_L15
      refine (if_pos ((nI_ltN (by omega) (by omega)).mpr hi)).trans ((ob_eq g1).trans ?_)
      show some (Sum.inl (nI i + nI 1, nx')) = _
      rw [nI_ad]
    · rintro s ⟨nx, rfl, hE⟩
      refine ⟨nx, ?_, em_cm hE (fun p q hp hq => ⟨fun h => ⟨h, hp, hq⟩, fun h => h.1⟩)⟩
      unfold Land_becomeProduct_L15
      exact if_neg (not_self (by omega))
  obtain ⟨nx', g1, g2⟩ := hall
  refine ⟨nx', ?_, g2⟩
  unfold Land_becomeProduct
  rw [nI_mulN]
  exact (ob_eq (bare_eq hnm w0 next)).trans ((ob_eq g1).trans rfl)
/-- the reference: one bit of the product -/
theorem bitP {d : Nat} (hd : d < 3) (hnm : n * m ≤ 12) (hn : n ≤ 12) (hm0 : 0 < m) (hm : m ≤ 12) {nextAt : Nat → Int32} (rA : RMk d n A nextAt) (rB : RMk (d + 1) m B nextAt) {p q M : Nat} (hp : p < n * m) (hq : q < n * m) (hM : M < 2 ^ 12) {nn : Nat → Int32} (hnn : nn p = nI M) :
    ∃ nn', Mo_joins_L113 (nI d) (nI n) (nI m) (nI p) nextAt (nI q, nn) = some (.inl (nI (q + 1), nn')) ∧ nn' p = nI (M ||| (if adjP m A B p q then 2 ^ q else 0)) ∧ ∀ j, j ≠ p → nn' j = nn j := by
  have hpd : p / m < n := Nat.div_lt_of_lt_mul (by rw [Nat.mul_comm]; exact hp)
  have hqd : q / m < n := Nat.div_lt_of_lt_mul (by rw [Nat.mul_comm]; exact hq)
  have hpm : p % m < m := Nat.mod_lt _ hm0
  have hqm : q % m < m := Nat.mod_lt _ hm0
  have e1 : nI q + 1 = nI (q + 1) := nI_ad q 1
  have hz : nz (nI m) = true := nzN hm0 (by omega)
  have hpw : (2 : Nat) ^ q < 2 ^ 12 := Nat.pow_lt_pow_right (by decide) (by omega)
  have iB : (12 : Int32) * (nI d + 1) + nI (p % m) = nI (12 * (d + 1) + p % m) := by
    rw [show nI d + 1 = nI (d + 1) from nI_ad d 1, show (12 : Int32) * nI (d + 1) = nI (12 * (d + 1)) from nI_mulN 12 (d + 1), nI_ad]
  have iA : (12 : Int32) * nI d + nI (p / m) = nI (12 * d + p / m) := by
    rw [show (12 : Int32) * nI d = nI (12 * d) from nI_mulN 12 d, nI_ad]
  have dp : nI p / nI m = nI (p / m) := pk_div (by omega) hm0 (by omega)
  have dq : nI q / nI m = nI (q / m) := pk_div (by omega) hm0 (by omega)
  have mp : nI p % nI m = nI (p % m) := nI_modN (by omega) hm0 (by omega)
  have mq : nI q % nI m = nI (q % m) := nI_modN (by omega) hm0 (by omega)
  have lt31 : ∀ (k : Nat) (f : Nat → Nat → Bool) (w : Nat), k ≤ 12 → nxOf k f w < 2 ^ 31 := fun k f w hk => Nat.lt_of_lt_of_le (nxOf_lt k f w) (Nat.le_trans (Nat.pow_le_pow_right (by decide) hk) (by decide))
  have hB : Mo_has (nextAt (12 * (d + 1) + p % m)) (nI (q % m)) = some (if B (p % m) (q % m) then 1 else 0) := by
    rw [rB _ hpm, Mo_has_eq (lt31 _ _ _ hm) (by omega), nxOf_bit, decide_eq_true hpm, decide_eq_true hqm]; rfl
  have hA : Mo_has (nextAt (12 * d + p / m)) (nI (q / m)) = some (if A (p / m) (q / m) then 1 else 0) := by
    rw [rA _ hpd, Mo_has_eq (lt31 _ _ _ hn) (by omega), nxOf_bit, decide_eq_true hpd, decide_eq_true hqd]; rfl
  -- both conditions known
  have yes : adjP m A B p q = true → ∃ nn', Mo_joins_L113_J217 (nI d) (nI n) (nI m) (nI p) (nI q) nextAt nn = some (.inl (nI (q + 1), nn')) ∧ nn' p = nI (M ||| (if adjP m A B p q then 2 ^ q else 0)) ∧ ∀ j, j ≠ p → nn' j = nn j := by
    intro h
    refine ⟨upd nn p (nI (M ||| 2 ^ q)), ?_, ?_, fun j hj => upd_ne hj⟩
    · unfold Mo_joins_L113_J217 Mo_joins_L113_J236
      rw [gd_eq (ixN (by omega) (by decide)), gd_eq (ixN (by omega) (by decide)), nI_clamp (by omega), hnn, shl_nI (by omega), or_nI (by omega) (by omega), e1]
    · rw [if_pos h, upd_at]
  have no : adjP m A B p q = false → ∃ nn', Mo_joins_L113_J236 (nI d) (nI n) (nI m) (nI p) (nI q) nextAt nn = some (.inl (nI (q + 1), nn')) ∧ nn' p = nI (M ||| (if adjP m A B p q then 2 ^ q else 0)) ∧ ∀ j, j ≠ p → nn' j = nn j := by
    intro h
    refine ⟨nn, ?_, ?_, fun j hj => rfl⟩
    · unfold Mo_joins_L113_J236; rw [e1]
    · rw [h, hnn]; simp
  have key : ∀ c1 : Bool, (decide (p / m = q / m) && B (p % m) (q % m)) = c1 → ∃ nn', Mo_joins_L113_J163 (nI d) (nI n) (nI m) (nI p) (nI q) (if c1 then 1 else 0) nextAt nn = some (.inl (nI (q + 1), nn')) ∧ nn' p = nI (M ||| (if adjP m A B p q then 2 ^ q else 0)) ∧ ∀ j, j ≠ p → nn' j = nn j := by
    intro c1 h1
    have fin : ∀ c2 : Bool, (decide (p % m = q % m) && A (p / m) (q / m)) = c2 → ∃ nn', Mo_joins_L113_J205 (nI d) (nI n) (nI m) (nI p) (nI q) (if c1 then 1 else 0) (if c2 then 1 else 0) nextAt nn = some (.inl (nI (q + 1), nn')) ∧ nn' p = nI (M ||| (if adjP m A B p q then 2 ^ q else 0)) ∧ ∀ j, j ≠ p → nn' j = nn j := by
      intro c2 h2
      have hP : adjP m A B p q = (c1 || c2) := by unfold adjP; rw [h1, h2]
      unfold Mo_joins_L113_J205
      cases c1 with
      | true => rw [if_pos rfl, if_neg one_ne0]; exact yes (by rw [hP]; rfl)
      | false =>
        rw [if_neg Bool.false_ne_true, if_pos rfl]
        cases c2 with
        | true => rw [if_pos rfl, if_neg one_ne0]; exact yes (by rw [hP]; rfl)
        | false => rw [if_neg Bool.false_ne_true, if_pos rfl]; exact no (by rw [hP]; rfl)
    unfold Mo_joins_L113_J163 Mo_joins_L113_J204
    rw [gd_eq hz, gd_eq hz, mp, mq]
    by_cases c : p % m = q % m
    · rw [if_pos (by rw [c]), gd_eq hz, dp, dq, iA, gd_eq (ixN (by omega) (by decide)), gd_eq hz, nI_clamp (by omega), ob_eq hA]
      have f := fin (A (p / m) (q / m)) (by rw [decide_eq_true c]; rfl)
      cases hA2 : A (p / m) (q / m) with
      | true => rw [hA2] at f; rw [if_pos rfl, if_neg one_ne0]; exact f
      | false => rw [hA2] at f; rw [if_neg Bool.false_ne_true, if_pos rfl]; exact f
    · rw [if_neg (neN (by omega) (by omega) c)]
      exact fin false (by rw [decide_eq_false c]; rfl)
  unfold Mo_joins_L113 Mo_joins_L113_J162
  show ∃ nn', (if nI q < nI n * nI m then (gd (nz (nI m)) (gd (nz (nI m)) (if (nI p / nI m) = (nI q / nI m) then (gd (nz (nI m)) (gd (ix ((12 * (nI d + 1)) + (nI p % nI m)) 48) (gd (nz (nI m)) (ob (Mo_has (nextAt ((12 * (nI d + 1)) + (nI p % nI m) : Int32).toNatClampNeg) (nI q % nI m)) fun x6 => if x6 = 0 then (Mo_joins_L113_J163 (nI d) (nI n) (nI m) (nI p) (nI q) 0 nextAt nn) else (Mo_joins_L113_J163 (nI d) (nI n) (nI m) (nI p) (nI q) 1 nextAt nn))))) else (Mo_joins_L113_J163 (nI d) (nI n) (nI m) (nI p) (nI q) 0 nextAt nn)))) else (some (.inr nn))) = _ ∧ _
  rw [nI_mulN, if_pos ((nI_ltN (by omega) (by omega)).mpr hq), gd_eq hz, gd_eq hz, dp, dq]
  by_cases c : p / m = q / m
  · rw [if_pos (by rw [c]), gd_eq hz, mp, mq, iB, gd_eq (ixN (by omega) (by decide)), gd_eq hz, nI_clamp (by omega), ob_eq hB]
    have f := key (B (p % m) (q % m)) (by rw [decide_eq_true c]; rfl)
    cases hB2 : B (p % m) (q % m) with
    | true => rw [hB2] at f; rw [if_pos rfl, if_neg one_ne0]; exact f
    | false => rw [hB2] at f; rw [if_neg Bool.false_ne_true, if_pos rfl]; exact f
  · rw [if_neg (neN (by omega) (by omega) c)]
    exact key false (by rw [decide_eq_false c]; rfl)
theorem joins_prod {d : Nat} (hd : d < 3) (hnm : n * m ≤ 12) (hn0 : 0 < n) (hn : n ≤ 12) (hm0 : 0 < m) (hm : m ≤ 12) {many nextAt part nn : Nat → Int32} (h1 : many d = nI n) (h2 : many (d + 1) = nI m) (rA : RMk d n A nextAt) (rB : RMk (d + 1) m B nextAt) (f : Int32) :
    ∃ next' nn', Mo_joins f many nextAt part nn (nI d) = some (1, f, upd many d (nI (n * m)), next', nn') ∧ RMk d (n * m) (adjP m A B) next' ∧ ∀ j, j < 12 * d ∨ 12 * d + 12 ≤ j → next' j = nextAt j := by
  have hrow : ∀ {p : Nat} {nn : Nat → Int32}, p < n * m → nn p = 0 → ∃ nn', lp (Mo_joins_L113 (nI d) (nI n) (nI m) (nI p) nextAt) (0, nn) = some nn' ∧ (nn' p = nI (nxOf (n * m) (adjP m A B) p) ∧ ∀ j, j ≠ p → nn' j = nn j) := by
    intro p nn hp h0
    have h12 : ∀ k, k ≤ n * m → mk (adjP m A B p) k < 2 ^ 12 := fun k hk => Nat.lt_of_lt_of_le (mk_lt _ k) (Nat.pow_le_pow_right (by decide) (by omega))
    refine lp_inv (f := Mo_joins_L113 (nI d) (nI n) (nI m) (nI p) nextAt) (fun q s => ∃ nq, s = (nI q, nq) ∧ nq p = nI (mk (adjP m A B p) q) ∧ ∀ j, j ≠ p → nq j = nn j) (n * m) _ ?_ ?_ 0 _ (Nat.zero_le _) ⟨nn, rfl, h0, fun _ _ => rfl⟩
    · rintro q s hq ⟨nq, rfl, a1, a2⟩
      obtain ⟨nq', b1, b2, b3⟩ := bitP hd hnm hn hm0 hm rA rB hp hq (h12 q (by omega)) a1
      exact Or.inl ⟨_, b1, nq', rfl, b2, fun j hj => (b3 j hj).trans (a2 j hj)⟩
    · rintro s ⟨nq, rfl, a1, a2⟩
      refine ⟨nq, ?_, ?_, a2⟩
      · unfold Mo_joins_L113
        show (if nI (n * m) < nI n * nI m then _ else _) = _
        rw [nI_mulN]
        exact if_neg (not_self (by omega))
      · rw [a1]; unfold nxOf; rw [if_pos hp]
  have hall : ∃ nn', lp (Mo_joins_L94 (nI d) (nI n) (nI m) nextAt) (0, nn) = some nn' ∧ ∀ p, p < n * m → nn' p = nI (nxOf (n * m) (adjP m A B) p) := by
    refine lp_inv (f := Mo_joins_L94 (nI d) (nI n) (nI m) nextAt) (fun p s => ∃ nq, s = (nI p, nq) ∧ ∀ w, w < p → nq w = nI (nxOf (n * m) (adjP m A B) w)) (n * m) _ ?_ ?_ 0 _ (Nat.zero_le _) ⟨nn, rfl, fun w hw => by omega⟩
    · rintro p s hp ⟨nq, rfl, a1⟩
      obtain ⟨nq', b1, b2, b3⟩ := hrow hp (nn := upd nq p 0) (upd_at _ _ _)
      refine Or.inl ⟨(nI (p + 1), nq'), ?_, nq', rfl, fun w hw => ?_⟩
      · unfold Mo_joins_L94
        show (if nI p < nI n * nI m then (gd (ix (nI p) 12) (ob (lp (Mo_joins_L113 (nI d) (nI n) (nI m) (nI p) nextAt) (0, upd nq (nI p).toNatClampNeg 0)) fun x2 => some (Sum.inl (nI p + nI 1, x2)))) else _) = _
        rw [nI_mulN, if_pos ((nI_ltN (by omega) (by omega)).mpr hp), gd_eq (ixN (by omega) (by decide)), nI_clamp (by omega), ob_eq b1, nI_ad]
      · by_cases e : w = p
        · subst e; exact b2
        · rw [b3 w e, upd_ne e]; exact a1 w (by omega)
    · rintro s ⟨nq, rfl, a1⟩
      refine ⟨nq, ?_, a1⟩
      unfold Mo_joins_L94
      show (if nI (n * m) < nI n * nI m then _ else _) = _
      rw [nI_mulN]
      exact if_neg (not_self (by omega))
  obtain ⟨nn', c1, c2⟩ := hall
  have hcp : ∃ next', lp (Mo_joins_L260 (nI d) (nI n) (nI m) nn') (0, nextAt) = some next' ∧ (RMk d (n * m) (adjP m A B) next' ∧ ∀ j, j < 12 * d ∨ 12 * d + 12 ≤ j → next' j = nextAt j) := by
    refine lp_inv (f := Mo_joins_L260 (nI d) (nI n) (nI m) nn') (fun p s => ∃ nq, s = (nI p, nq) ∧ (∀ w, w < p → nq (12 * d + w) = nI (nxOf (n * m) (adjP m A B) w)) ∧ ∀ j, j < 12 * d ∨ 12 * d + 12 ≤ j → nq j = nextAt j) (n * m) _ ?_ ?_ 0 _ (Nat.zero_le _) ⟨nextAt, rfl, fun w hw => by omega, fun _ _ => rfl⟩
    · rintro p s hp ⟨nq, rfl, a1, a2⟩
      have ei : (12 : Int32) * nI d + nI p = nI (12 * d + p) := by
        rw [show (12 : Int32) * nI d = nI (12 * d) from nI_mulN 12 d, nI_ad]
      refine Or.inl ⟨(nI (p + 1), upd nq (12 * d + p) (nn' p)), ?_, _, rfl, fun w hw => ?_, fun j hj => ?_⟩
      · unfold Mo_joins_L260
        show (if nI p < nI n * nI m then (gd (ix (nI p) 12) (gd (ix ((12 : Int32) * nI d + nI p) 48) (some (Sum.inl (nI p + nI 1, upd nq ((12 : Int32) * nI d + nI p).toNatClampNeg (nn' (nI p).toNatClampNeg)))))) else _) = _
        rw [nI_mulN, if_pos ((nI_ltN (by omega) (by omega)).mpr hp), gd_eq (ixN (by omega) (by decide)), ei, gd_eq (ixN (by omega) (by decide)), nI_clamp (by omega), nI_clamp (by omega), nI_ad]
      · by_cases e : w = p
        · subst e; rw [upd_at]; exact c2 w hp
        · rw [upd_ne (by omega)]; exact a1 w (by omega)
      · rw [upd_ne (by omega)]; exact a2 j hj
    · rintro s ⟨nq, rfl, a1, a2⟩
      refine ⟨nq, ?_, a1, a2⟩
      unfold Mo_joins_L260
      show (if nI (n * m) < nI n * nI m then _ else _) = _
      rw [nI_mulN]
      exact if_neg (not_self (by omega))
  obtain ⟨next', e1, e2, e3⟩ := hcp
  refine ⟨next', nn', ?_, e2, e3⟩
  unfold Mo_joins
  rw [show nI d + 1 = nI (d + 1) from nI_ad d 1, gd_eq (ixN (by omega) (by decide)), gd_eq (ixN (by omega) (by decide)), nI_clamp (by omega), nI_clamp (by omega), h1, h2, if_neg (ne0N (by omega) (by omega)), nI_mulN, if_pos ((le_12 (by omega)).mpr hnm), ob_eq c1, gd_eq (ixN (by omega) (by decide)), ob_eq e1]
theorem joins_big {d : Nat} (hd : d < 3) (hnm : ¬ n * m ≤ 12) (hn0 : 0 < n) (hn : n ≤ 12) (hm : m ≤ 12) {many nextAt part nn : Nat → Int32} (h1 : many d = nI n) (h2 : many (d + 1) = nI m) {i : Nat} (hp : part d = nI i) (f : Int32) :
    Mo_joins f many nextAt part nn (nI d) = some (0, flt 6 i, many, nextAt, nn) := by
  have : n * m ≤ 12 * 12 := Nat.mul_le_mul hn hm
  unfold Mo_joins
  rw [show nI d + 1 = nI (d + 1) from nI_ad d 1, gd_eq (ixN (by omega) (by decide)), gd_eq (ixN (by omega) (by decide)), nI_clamp (by omega), nI_clamp (by omega), h1, h2, if_neg (ne0N (by omega) (by omega)), nI_mulN, if_neg (fun z => hnm ((le_12 (by omega)).mp z)), gd_eq (ixN (by omega) (by decide)), hp]
  rfl
theorem joins_first {d : Nat} (hd : d < 3) (hm : m ≤ 12) {many nextAt part nn : Nat → Int32} (h1 : many d = 0) (h2 : many (d + 1) = nI m) (rB : RMk (d + 1) m B nextAt) (f : Int32) :
    ∃ next', Mo_joins f many nextAt part nn (nI d) = some (1, f, upd many d (nI m), next', nn) ∧ RMk d m B next' ∧ ∀ j, j < 12 * d ∨ 12 * d + 12 ≤ j → next' j = nextAt j := by
  have hcp : ∃ next', lp (Mo_joins_L30 (nI d) (nI m)) (0, nextAt) = some next' ∧ (RMk d m B next' ∧ ∀ j, j < 12 * d ∨ 12 * d + 12 ≤ j → next' j = nextAt j) := by
    refine lp_inv (f := Mo_joins_L30 (nI d) (nI m)) (fun p s => ∃ nq, s = (nI p, nq) ∧ (∀ w, w < p → nq (12 * d + w) = nI (nxOf m B w)) ∧ ∀ j, j < 12 * d ∨ 12 * d + 12 ≤ j → nq j = nextAt j) m _ ?_ ?_ 0 _ (Nat.zero_le _) ⟨nextAt, rfl, fun w hw => by omega, fun _ _ => rfl⟩
    · rintro p s hp ⟨nq, rfl, a1, a2⟩
      have ei : (12 : Int32) * nI d + nI p = nI (12 * d + p) := by
        rw [show (12 : Int32) * nI d = nI (12 * d) from nI_mulN 12 d, nI_ad]
      have ei2 : (12 : Int32) * (nI d + 1) + nI p = nI (12 * (d + 1) + p) := by
        rw [show nI d + 1 = nI (d + 1) from nI_ad d 1, show (12 : Int32) * nI (d + 1) = nI (12 * (d + 1)) from nI_mulN 12 (d + 1), nI_ad]
      refine Or.inl ⟨(nI (p + 1), upd nq (12 * d + p) (nI (nxOf m B p))), ?_, _, rfl, fun w hw => ?_, fun j hj => ?_⟩
      · unfold Mo_joins_L30
        show (if nI p < nI m then (gd (ix ((12 * (nI d + 1)) + nI p) 48) (gd (ix ((12 * nI d) + nI p) 48) (some (Sum.inl (nI p + nI 1, upd nq ((12 * nI d) + nI p : Int32).toNatClampNeg (nq ((12 * (nI d + 1)) + nI p : Int32).toNatClampNeg)))))) else _) = _
        rw [if_pos ((nI_ltN (by omega) (by omega)).mpr hp), ei, ei2, gd_eq (ixN (by omega) (by decide)), gd_eq (ixN (by omega) (by decide)), nI_clamp (by omega), nI_clamp (by omega), nI_ad, a2 _ (by omega), rB p hp]
      · by_cases e : w = p
        · subst e; rw [upd_at]
        · rw [upd_ne (by omega)]; exact a1 w (by omega)
      · rw [upd_ne (by omega)]; exact a2 j hj
    · rintro s ⟨nq, rfl, a1, a2⟩
      refine ⟨nq, ?_, a1, a2⟩
      unfold Mo_joins_L30
      exact if_neg (not_self (by omega))
  obtain ⟨next', e1, e2, e3⟩ := hcp
  refine ⟨next', ?_, e2, e3⟩
  unfold Mo_joins
  rw [show nI d + 1 = nI (d + 1) from nI_ad d 1, gd_eq (ixN (by omega) (by decide)), gd_eq (ixN (by omega) (by decide)), nI_clamp (by omega), nI_clamp (by omega), h1, h2, if_pos rfl, gd_eq (ixN (by omega) (by decide)), ob_eq e1]
end PR
