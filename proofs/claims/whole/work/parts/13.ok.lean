/-! guards of making -/
def mkOk (n : Int32) (bc bs kc ks : Nat) : Bool := !(decide (n < 0)) && (decide (n.toNatClampNeg ≤ 100000) && (decide (kc + 1 ≤ bc) && decide (ks + n.toNatClampNeg ≤ bs)))
def cuOk (bc bs kc ks kc' ks' : Nat) : Bool := decide (kc + kc' ≤ bc) && decide (ks + ks' ≤ bs)
section MKO
variable {n : Int32} {bc bs kc ks kc' ks' : Nat}
theorem mkOk_all (h : mkOk n bc bs kc ks = true) : ¬ n < 0 ∧ n.toNatClampNeg ≤ 100000 ∧ kc + 1 ≤ bc ∧ ks + n.toNatClampNeg ≤ bs := by
  unfold mkOk at h
  simp only [Bool.and_eq_true, Bool.not_eq_true', decide_eq_false_iff_not, decide_eq_true_eq] at h
  exact h
theorem mkOk_n (h : mkOk n bc bs kc ks = true) : ¬ n < 0 := (mkOk_all h).1
theorem mkOk_int (h : mkOk n bc bs kc ks = true) : n.toNatClampNeg * componentBytes .int ≤ 536870912 := by
  have := (mkOk_all h).2.1
  show n.toNatClampNeg * 4 ≤ 536870912
  omega
theorem mkOk_byte (h : mkOk n bc bs kc ks = true) : n.toNatClampNeg * componentBytes .byte ≤ 536870912 := by
  have := (mkOk_all h).2.1
  show n.toNatClampNeg * 1 ≤ 536870912
  omega
theorem mkOk_c (h : mkOk n bc bs kc ks = true) : kc + 1 ≤ bc := (mkOk_all h).2.2.1
theorem mkOk_s (h : mkOk n bc bs kc ks = true) : ks + n.toNatClampNeg ≤ bs := (mkOk_all h).2.2.2
theorem cuOk_c (h : cuOk bc bs kc ks kc' ks' = true) : kc + kc' ≤ bc := by
  unfold cuOk at h
  simp only [Bool.and_eq_true, decide_eq_true_eq] at h
  exact h.1
theorem cuOk_s (h : cuOk bc bs kc ks kc' ks' = true) : ks + ks' ≤ bs := by
  unfold cuOk at h
  simp only [Bool.and_eq_true, decide_eq_true_eq] at h
  exact h.2
end MKO
theorem kb_le {k b z : Nat} (h : k ≤ b) (hz : b ≤ z) : k + (b - k) ≤ z := by omega
theorem ac_int : Cond.arrayClass (newarray.typeOf .int) ∈ tbl := in_tbl (List.mem_of_getElem? (i := 62) (by decide +kernel)) rfl
theorem ac_byte : Cond.arrayClass (newarray.typeOf .byte) ∈ tbl := in_tbl (List.mem_of_getElem? (i := 315) (by decide +kernel)) rfl
theorem ac_long : Cond.arrayClass (newarray.typeOf .long) ∈ tbl := in_tbl (List.mem_of_getElem? (i := 402) (by decide +kernel)) rfl
theorem ac_boolean : Cond.arrayClass (newarray.typeOf .boolean) ∈ tbl := in_tbl (List.mem_of_getElem? (i := 1454) (by decide +kernel)) rfl
theorem kpN_hz {n : Nat} {bs bd : List Nat} {k : Nat} (h : ((List.range n).all (fun k => inB bs k || !(inB bd k)) && bd.all (fun x => Nat.blt x 1000)) = true) (hk : kpN n bs k = true) : inB bd k = false := by
  rw [Bool.and_eq_true] at h
  have := kpN_all (f := fun k => !(inB bd k)) h.1 (fun k hk => by
    have : inB bd k = false := inB_not.mpr (fun hm => by
      have h3 := List.all_eq_true.mp h.2 k hm
      have h4 : k < 1000 := by simpa [Nat.blt_eq] using h3
      omega)
    rw [this]; rfl) hk
  simpa using this
theorem kpN_ren {n : Nat} {bs is : List Nat} {k : Nat} (h : ((List.range n).all (fun k => inB bs k || Nat.beq (is.getD k k) k) && Nat.ble is.length 1000) = true) (hk : kpN n bs k = true) : is.getD k k = k := by
  rw [Bool.and_eq_true] at h
  refine Nat.eq_of_beq_eq_true (kpN_all (f := fun k => Nat.beq (is.getD k k) k) h.1 (fun k hk => ?_) hk)
  have h3 := Nat.le_of_ble_eq_true h.2
  rw [List.getD_eq_getElem?_getD, List.getElem?_eq_none (by omega)]
  exact Nat.beq_refl k
