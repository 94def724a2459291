/-! THE CLASS'S NUMBERS: fields of bits, marks -/
def fdS (d s : Nat) : Nat := (2 ^ d - 1) * 2 ^ s
theorem and_field (c d s : Nat) : c &&& fdS d s = (c / 2 ^ s % 2 ^ d) * 2 ^ s := by
  unfold fdS
  apply Nat.eq_of_testBit_eq
  intro i
  rw [← Nat.shiftLeft_eq, ← Nat.shiftLeft_eq, Nat.testBit_and, Nat.testBit_shiftLeft, Nat.testBit_shiftLeft, Nat.testBit_two_pow_sub_one, Nat.testBit_mod_two_pow, Nat.testBit_div_two_pow]
  by_cases h : s ≤ i
  · rw [decide_eq_true (show i ≥ s from h), Bool.true_and, Bool.true_and, show i - s + s = i by omega, Bool.and_comm]
  · rw [decide_eq_false (show ¬ i ≥ s from h), Bool.false_and, Bool.false_and, Bool.and_false]
theorem and_two (c d s : Nat) : c &&& less (fdS d s) (2 ^ s) = (c / 2 ^ s % 2 ^ d / 2 * 2) * 2 ^ s := by
  apply Nat.eq_of_testBit_eq
  intro i
  rw [Nat.testBit_and, less_bit, Nat.testBit_two_pow]
  unfold fdS
  rw [← Nat.shiftLeft_eq, ← Nat.shiftLeft_eq, Nat.testBit_shiftLeft, Nat.testBit_shiftLeft, Nat.testBit_two_pow_sub_one, show c / 2 ^ s % 2 ^ d / 2 * 2 = (c / 2 ^ s % 2 ^ d / 2 ^ 1) <<< 1 by rw [Nat.shiftLeft_eq], Nat.testBit_shiftLeft, Nat.testBit_div_two_pow, Nat.testBit_mod_two_pow, Nat.testBit_div_two_pow]
  by_cases h : s ≤ i
  · rw [decide_eq_true (show i ≥ s from h), Bool.true_and, Bool.true_and]
    by_cases e : s = i
    · subst e
      rw [decide_eq_true rfl, Nat.sub_self, decide_eq_false (show ¬ 0 ≥ 1 by omega), Bool.false_and, Bool.not_true, Bool.and_false, Bool.and_false]
    · rw [decide_eq_false e, decide_eq_true (show i - s ≥ 1 by omega), Bool.true_and, Bool.not_false, Bool.and_true, show i - s - 1 + 1 = i - s by omega, show i - s + s = i by omega, Bool.and_comm]
  · rw [decide_eq_false (show ¬ i ≥ s from h), Bool.false_and, Bool.false_and, Bool.false_and, Bool.and_false]
theorem shr_bit (x : Int32) {q : Nat} (hq : q < 32) : ((x >>> (nI q &&& 31)) &&& 1) = 0 ↔ x.toBitVec.getLsbD q = false := by
  have h1 := and_bit (x >>> (nI q &&& 31)) (q := 0) (by omega)
  rw [show nI (2 ^ 0) = 1 from rfl] at h1
  rw [h1]
  have : (x >>> (nI q &&& 31)).toBitVec.getLsbD 0 = x.toBitVec.getLsbD q := by
    show (BitVec.sshiftRight x.toBitVec ((nI q &&& 31).toBitVec.smod 32).toNat).getLsbD 0 = _
    rw [sm32 q hq, BitVec.getLsbD_sshiftRight, decide_eq_false (show ¬ 32 ≤ 0 by omega), if_pos (show q + 0 < 32 by omega)]
    rfl
  rw [this]
section MRK
variable {marks : Nat → Int32} {nm c : Nat}
theorem mrk_pre (hc : c < 32 * nm) (hm : nm < 2 ^ 26) : nI c >>> ((5 : Int32) &&& 31) = nI (c / 32) ∧ (nI c &&& 31) = nI (c % 32) := by
  constructor
  · rw [show (5 : Int32) = nI 5 from rfl]
    exact pk_shrN (by omega) _ 5 (sm32 5 (by omega))
  · rw [show (31 : Int32) = nI 31 from rfl, and_nI (by omega) (by omega)]
    congr 1
    exact Nat.and_two_pow_sub_one_eq_mod _ 5
theorem mark_ok (hc : c < 32 * nm) (hm : nm < 2 ^ 26) : Numbers_mark marks nm (nI c) = some (upd marks (c / 32) (marks (c / 32) ||| nI (2 ^ (c % 32)))) := by
  obtain ⟨h1, h2⟩ := mrk_pre hc hm
  have hd : c / 32 < nm := by omega
  unfold Numbers_mark
  rw [h1, h2, shl_nI (Nat.mod_lt _ (by omega)), if_neg (nI_pos (show c / 32 < 2 ^ 31 by omega)), if_pos (show nI (c / 32) < Int32.ofNat nm from (nI_ltN (by omega) (by omega)).mpr hd), gd_eq (ixN hd (by omega)), gd_eq (ixN hd (by omega)), nI_clamp (show c / 32 < 2 ^ 31 by omega)]
theorem isMarked_ok (hc : c < 32 * nm) (hm : nm < 2 ^ 26) : Numbers_isMarked marks nm (nI c) = some (if bitS marks c then 1 else 0) := by
  obtain ⟨h1, h2⟩ := mrk_pre hc hm
  have hd : c / 32 < nm := by omega
  unfold Numbers_isMarked Numbers_isMarked_J37
  rw [h1, h2, if_neg (nI_pos (show c / 32 < 2 ^ 31 by omega)), if_pos (show nI (c / 32) < Int32.ofNat nm from (nI_ltN (by omega) (by omega)).mpr hd), gd_eq (ixN hd (by omega)), nI_clamp (show c / 32 < 2 ^ 31 by omega)]
  have hm2 : c % 32 < 32 := Nat.mod_lt _ (by omega)
  unfold bitS
  cases hb : (marks (c / 32)).toBitVec.getLsbD (c % 32) with
  | false => rw [if_pos ((shr_bit _ hm2).mpr hb), if_neg (by decide)]
  | true => rw [if_neg (fun z => by have := (shr_bit _ hm2).mp z; rw [hb] at this; cases this), if_pos rfl]
end MRK
/-- where the class keeps a well's jars -/
def FSs (n : Nat) (d : Nat → Nat) (sh fi : Nat → Int32) : Prop := ∀ v, v < n → sh v = nI (shC n d v) ∧ fi v = nI (fdS (d v) (shC n d v))
section LYO
variable {n : Nat} {nx d : Nat → Nat} {w : Nat}
theorem shC_le {v : Nat} (hv : v < n) : shC n d v + d v ≤ totS d n := by
  unfold shC
  obtain ⟨r, hr⟩ := tot_split (dd := revS n d) (v := n - 1 - v) (k := n) (by omega)
  rw [tot_rev, rev_rev hv] at hr
  omega
theorem fd_lt {d s : Nat} : fdS d s < 2 ^ (d + s) := by
  unfold fdS
  rw [Nat.pow_add]
  have h1 : 0 < 2 ^ d := Nat.pow_pos (by omega)
  have h2 : 0 < 2 ^ s := Nat.pow_pos (by omega)
  have := Nat.mul_lt_mul_of_pos_right (show 2 ^ d - 1 < 2 ^ d by omega) h2
  exact this
theorem fd_lt17 (hs : totS d n ≤ 16) {v : Nat} (hv : v < n) : fdS (d v) (shC n d v) < 2 ^ 16 := by
  have h1 := shC_le (d := d) hv
  exact Nat.lt_of_lt_of_le fd_lt (Nat.pow_le_pow_right (by omega) (by omega))
def SZn (nf nm : Nat) : Prop := (nf = 0 ∧ nm = 0) ∨ (nf ≤ 65536 ∧ nm = nf / 32 + 1)
theorem fill_bits (marks : Nat → Int32) (nm : Nat) : ∀ r, r < 32 * nm → bitS (filled marks 0 nm) r = false := fun r hr => by
  unfold bitS filled
  show ((if r / 32 < nm then (0 : Int32) else _)).toBitVec.getLsbD _ = false
  rw [if_pos (by omega)]
  show (0#32).getLsbD _ = false
  simp
theorem layOut_ok (hG : GoodG n nx) (hw : w < n) (hall : AllD n nx w) (hs : totS (dnS n nx w) n ≤ 16) {ways : Nat → Int32} (hr : RW n nx ways) {bc bs : Nat} (hbc : 2 ≤ bc) {nf nm : Nat} (hbs : nf < 2 ^ totS (dnS n nx w) n → 2 ^ totS (dnS n nx w) n + (2 ^ totS (dnS n nx w) n / 32 + 1) ≤ bs) (hz : SZn nf nm) (fo ma sh0 fi0 : Nat → Int32) (wn : Int32) :
    ∃ fo' nf' ma' nm' sh fi kc ks, Numbers_layOut bc bs fo nf ma nm sh0 fi0 wn (nI n) ways (nI w) = some (fo', nf', ma', nm', sh, fi, nI n, kc, ks) ∧ SZn nf' nm' ∧ 2 ^ totS (dnS n nx w) n ≤ nf' ∧ FSs n (dnS n nx w) sh fi ∧ (∀ r, r < 32 * nm' → bitS ma' r = false) ∧ nf ≤ nf' ∧ kc ≤ 2 ∧ ks ≤ nf' + nm' ∧ ((nf' = nf ∧ kc = 0 ∧ ks = 0) ∨ (nf < nf' ∧ nf' = 2 ^ totS (dnS n nx w) n)) := by
  have n12 := hG.1
  generalize hd : dnS n nx w = d at *
  have hdv : ∀ v, v < n → dI n nx v w = nI (d v) := fun v hv => by rw [← hd]; exact (hall v hv).2.1
  have h16 : 2 ^ totS d n ≤ 2 ^ 16 := Nat.pow_le_pow_right (by omega) hs
  have hp0 : 0 < 2 ^ totS d n := Nat.pow_pos (by omega)
  -- the loop
  obtain ⟨⟨bits, sh, fi⟩, r1, r2, r3⟩ := lp_inv (f := Numbers_layOut_L18 (nI w) (nI n) ways) (fun k s => s.1 = nI (totS (revS n d) k) ∧ s.2.1 = (if k < n then nI (n - 1 - k) else -1) ∧ ∀ v, v < n → n - 1 - v < k → s.2.2.1 v = nI (shC n d v) ∧ s.2.2.2 v = nI (fdS (d v) (shC n d v))) n
    (fun r => r.1 = nI (totS d n) ∧ FSs n d r.2.1 r.2.2)
    (by
      rintro k ⟨s1, s2, sh, fi⟩ hk ⟨e1, e2, e3⟩
      have e1 : s1 = nI (totS (revS n d) k) := e1
      have e2' : s2 = nI (n - 1 - k) := Eq.trans e2 (if_pos hk)
      clear e2
      subst e1; subst e2'
      left
      have hv : n - 1 - k < n := by omega
      have hsh : shC n d (n - 1 - k) = totS (revS n d) k := by unfold shC; rw [show n - 1 - (n - 1 - k) = k by omega]
      have hle := shC_le (d := d) hv
      rw [hsh] at hle
      have hrev : totS (revS n d) (k + 1) = totS (revS n d) k + d (n - 1 - k) := rfl
      have hmax : jmax 0 (nI (d (n - 1 - k))) = nI (d (n - 1 - k)) := by
        unfold jmax
        by_cases z : (0 : Int32) < nI (d (n - 1 - k))
        · simp [z]
        · have : d (n - 1 - k) = 0 := by
            by_cases y : d (n - 1 - k) = 0
            · exact y
            · exact absurd ((nI_ltN (a := 0) (by omega) (by omega)).mpr (by omega)) z
          rw [this]; decide
      refine ⟨(jmin (nI (totS (revS n d) k) + nI (d (n - 1 - k))) 16, nI (n - 1 - k) + (-1), upd sh (n - 1 - k) (nI (totS (revS n d) k)), upd fi (n - 1 - k) (nI (fdS (d (n - 1 - k)) (totS (revS n d) k)))), ?_, ?_, ?_, fun v hv1 hv2 => ?_⟩
      · unfold Numbers_layOut_L18
        show (if nI (n - 1 - k) < 0 then _ else _) = _
        rw [if_neg (nI_pos (by omega))]
        dsimp only
        have hix : ix (nI (n - 1 - k)) 12 = true := ixN (by omega) (by omega)
        have hp1 : 0 < 2 ^ d (n - 1 - k) := Nat.pow_pos (by omega)
        have hfl := fd_lt17 hs hv
        rw [hsh] at hfl
        unfold fdS at hfl ⊢
        rw [ob_eq (way_in n12 hv hw), hr _ w hv hw, hdv _ hv, gd_eq hix, gd_eq hix, nI_clamp (show n - 1 - k < 2 ^ 31 by omega), hmax, shl_nI (by omega), show nI (2 ^ d (n - 1 - k)) - 1 = nI (2 ^ d (n - 1 - k) - 1) from nI_subN (b := 1) hp1, pk_shlN (n := 2 ^ d (n - 1 - k) - 1) _ (totS (revS n d) k) (sm32 _ (by omega)) (by omega)]
      · show jmin (nI (totS (revS n d) k) + nI (d (n - 1 - k))) 16 = _
        rw [nI_ad, ← hrev]
        exact (jmin_nI (b := 16) (by omega) (by omega)).trans (by rw [Nat.min_eq_left (by omega)])
      · show nI (n - 1 - k) + (-1) = _
        by_cases e : k + 1 < n
        · rw [if_pos e, show nI (n - 1 - k) + (-1) = nI (n - 1 - k) - 1 from (Int32.sub_eq_add_neg _ _).symm, show nI (n - 1 - k) - 1 = nI (n - 1 - k - 1) from nI_subN (b := 1) (by omega), show n - 1 - k - 1 = n - 1 - (k + 1) by omega]
        · rw [if_neg e, show n - 1 - k = 0 by omega]; decide
      · show upd sh _ _ v = _ ∧ upd fi _ _ v = _
        by_cases e : v = n - 1 - k
        · subst e
          rw [upd_at, upd_at, hsh]; exact ⟨rfl, rfl⟩
        · rw [upd_ne e, upd_ne e]; exact e3 v hv1 (by omega))
    (by
      rintro ⟨s1, s2, sh, fi⟩ ⟨e1, e2, e3⟩
      have e1 : s1 = nI (totS (revS n d) n) := e1
      have e2' : s2 = -1 := Eq.trans e2 (if_neg (Nat.lt_irrefl _))
      clear e2
      subst e2' 
      refine ⟨(s1, sh, fi), ?_, by rw [← tot_rev]; exact e1, fun v hv => e3 v hv (by omega)⟩
      unfold Numbers_layOut_L18
      exact if_pos (show (-1 : Int32) < 0 by decide))
    0 (0, nI n - 1, sh0, fi0) (Nat.zero_le _) ⟨rfl, by show nI n - 1 = _; rw [if_pos (by omega)]; exact nI_subN (b := 1) (by omega), fun v _ hv => by omega⟩
  have r2 : bits = nI (totS d n) := r2
  have r3 : FSs n d sh fi := r3
  have hsl : (1 : Int32) <<< (bits &&& 31) = nI (2 ^ totS d n) := by rw [r2, shl_nI (by omega)]
  have hdiv : nI (2 ^ totS d n) / 32 + 1 = nI (2 ^ totS d n / 32 + 1) := by
    rw [show (32 : Int32) = nI 32 from rfl, pk_div (by omega) (by omega) (by omega)]
    exact nI_ad _ 1
  have hnf : nf ≤ 65536 := by rcases hz with z | z <;> omega
  unfold Numbers_layOut
  rw [ob_eq r1]
  dsimp only
  rw [hsl]
  by_cases e : nf < 2 ^ totS d n
  · have hb2 := hbs e
    rw [if_pos (show Int32.ofNat nf < nI (2 ^ totS d n) from (nI_ltN (by omega) (by omega)).mpr e), hdiv, gd_eq (mkOk_yes (by omega) (by omega) (by omega)), nI_clamp (show 2 ^ totS d n < 2 ^ 31 by omega), gd_eq (mkOk_yes (by omega) (by omega) (by omega)), nI_clamp (show 2 ^ totS d n / 32 + 1 < 2 ^ 31 by omega)]
    refine ⟨_, _, _, _, _, _, _, _, rfl, Or.inr ⟨by omega, rfl⟩, Nat.le_refl _, r3, fun r _ => ?_, by omega, by omega, by omega, Or.inr ⟨e, rfl⟩⟩
    unfold bitS
    show (0#32).getLsbD _ = false
    simp
  · have hnm : nm < 2 ^ 31 := by rcases hz with z | z <;> omega
    rw [if_neg (show ¬ Int32.ofNat nf < nI (2 ^ totS d n) from fun z => e ((nI_ltN (by omega) (by omega)).mp z)), ob_eq (Arrays_fill_eq hnm ma 0)]
    exact ⟨_, _, _, _, _, _, _, _, rfl, hz, by omega, r3, fill_bits ma nm, Nat.le_refl _, by omega, by omega, Or.inl ⟨rfl, rfl, rfl⟩⟩
end LYO
