/-! BITS -/
theorem sm32 : ∀ q : Nat, q < 32 → ((nI q &&& 31).toBitVec.smod 32).toNat = q := by decide +kernel
theorem bit_nI {m q : Nat} (hm : m < 2 ^ 31) (hq : q < 32) : ((nI m >>> (nI q &&& 31)) &&& 1) = if m.testBit q then 1 else 0 := by
  rw [pk_shrN hm (nI q &&& 31) q (sm32 q hq), pk_andN (n := m / 2 ^ q) (Nat.lt_of_le_of_lt (Nat.div_le_self _ _) (by omega)) 1 (by decide), Nat.testBit_eq_decide_div_mod_eq]
  by_cases h : m / 2 ^ q % 2 = 1
  · rw [decide_eq_true h, show m / 2 ^ q % 2 ^ 1 = 1 from h]; rfl
  · have h2 : m / 2 ^ q % 2 ^ 1 = 0 := by
      have : m / 2 ^ q % 2 < 2 := Nat.mod_lt _ (by decide)
      show m / 2 ^ q % 2 = 0
      omega
    rw [decide_eq_false h, h2]; rfl
theorem shl_nI {q : Nat} (hq : q < 32) : (1 : Int32) <<< (nI q &&& 31) = nI (2 ^ q) := by
  have := pk_shlN (n := 1) (nI q &&& 31) q (sm32 q hq) (by
    rw [Nat.one_mul]
    exact Nat.pow_lt_pow_right (by decide) hq)
  rw [Nat.one_mul] at this
  exact this
theorem or_nI {a b : Nat} (ha : a < 2 ^ 32) (hb : b < 2 ^ 32) : nI a ||| nI b = nI (a ||| b) := by
  apply Int32.toBitVec.inj
  apply BitVec.eq_of_toNat_eq
  show ((nI a).toBitVec ||| (nI b).toBitVec).toNat = _
  rw [BitVec.toNat_or, pk_tn ha, pk_tn hb, pk_tn (Nat.or_lt_two_pow ha hb)]
theorem and_nI {a b : Nat} (ha : a < 2 ^ 32) (hb : b < 2 ^ 32) : nI a &&& nI b = nI (a &&& b) := by
  apply Int32.toBitVec.inj
  apply BitVec.eq_of_toNat_eq
  show ((nI a).toBitVec &&& (nI b).toBitVec).toNat = _
  rw [BitVec.toNat_and, pk_tn ha, pk_tn hb, pk_tn (Nat.and_lt_two_pow _ hb)]
theorem xor_nI {a b : Nat} (ha : a < 2 ^ 32) (hb : b < 2 ^ 32) : nI a ^^^ nI b = nI (a ^^^ b) := by
  apply Int32.toBitVec.inj
  apply BitVec.eq_of_toNat_eq
  show ((nI a).toBitVec ^^^ (nI b).toBitVec).toNat = _
  rw [BitVec.toNat_xor, pk_tn ha, pk_tn hb, pk_tn (Nat.xor_lt_two_pow ha hb)]
/-- what is in a and not in b -/
def less (a b : Nat) : Nat := a ^^^ (a &&& b)
theorem less_bit (a b i : Nat) : (less a b).testBit i = (a.testBit i && !(b.testBit i)) := by
  unfold less
  rw [Nat.testBit_xor, Nat.testBit_and]
  cases a.testBit i <;> cases b.testBit i <;> rfl
theorem less_lt {a b k : Nat} (ha : a < 2 ^ k) : less a b < 2 ^ k := by
  unfold less
  exact Nat.xor_lt_two_pow ha (Nat.lt_of_le_of_lt Nat.and_le_left ha)
theorem nand_nI {a b : Nat} (ha : a < 2 ^ 32) (hb : b < 2 ^ 32) : nI a &&& (nI b ^^^ (-1)) = nI (less a b) := by
  apply Int32.toBitVec.inj
  apply BitVec.eq_of_getLsbD_eq
  intro i hi
  have h1 : ((-1 : Int32).toBitVec).getLsbD i = true := by
    have : (-1 : Int32).toBitVec = BitVec.allOnes 32 := rfl
    rw [this, BitVec.getLsbD_allOnes]; simpa using hi
  show ((nI a).toBitVec &&& ((nI b).toBitVec ^^^ (-1 : Int32).toBitVec)).getLsbD i = _
  rw [BitVec.getLsbD_and, BitVec.getLsbD_xor, h1]
  have e : ∀ n : Nat, n < 2 ^ 32 → ((nI n).toBitVec).getLsbD i = n.testBit i := fun n hn => by
    rw [← BitVec.testBit_toNat, pk_tn hn]
  rw [e a ha, e b hb, e _ (less_lt ha), less_bit]
  cases a.testBit i <;> cases b.testBit i <;> rfl
theorem bit_lt {m k i : Nat} (hm : m < 2 ^ k) (h : m.testBit i = true) : i < k := by
  rcases Nat.lt_or_ge i k with h1 | h1
  · exact h1
  · rw [Nat.testBit_lt_two_pow (Nat.lt_of_lt_of_le hm (Nat.pow_le_pow_right (by decide) h1))] at h; cases h
theorem zero_of_bits {m : Nat} (h : ∀ i, m.testBit i = false) : m = 0 := Nat.eq_of_testBit_eq (fun i => by rw [h i]; simp)
