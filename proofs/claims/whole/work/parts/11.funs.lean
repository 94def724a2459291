/-! THE METHODS AS PARTIAL FUNCTIONS (printed by wip/gen, out of the bytecode) -/
/-! Tape -/
noncomputable def Tape_append_L3_J45 (v1 : Int32) (v2 : Int32) (bytes_t : Nat → Int32) (length_t : Int32) : Option ((Int32 × (Nat → Int32) × Int32) ⊕ ((Nat → Int32) × Int32)) :=
  some (.inl (v2 + (-8), bytes_t, length_t))
noncomputable def Tape_append_L3 (v1 : Int32) : (Int32 × (Nat → Int32) × Int32) → Option ((Int32 × (Nat → Int32) × Int32) ⊕ ((Nat → Int32) × Int32)) := fun s3 =>
  if s3.1 < 0 then (some (.inr (s3.2.1, s3.2.2))) else (if s3.2.2 < 260 then (gd (ix s3.2.2 260) (Tape_append_L3_J45 v1 s3.1 (upd s3.2.1 (s3.2.2 : Int32).toNatClampNeg ((juS v1 s3.1) &&& 255)) (s3.2.2 + 1))) else (Tape_append_L3_J45 v1 s3.1 s3.2.1 s3.2.2))
noncomputable def Tape_append (bytes_t : Nat → Int32) (length_t : Int32) (a1 : Int32) : Option ((Nat → Int32) × Int32) :=
  ob (lp (Tape_append_L3 a1) (24, bytes_t, length_t)) fun x1 =>
  some (x1.1, x1.2)
noncomputable def Tape_holds_J22 (length_t : Int32) : Option (Int32) :=
  some 0
noncomputable def Tape_holds (length_t : Int32) (a1 : Int32) (a2 : Int32) (a3 : Int32) : Option (Int32) :=
  if a1 < a2 then (Tape_holds_J22 length_t) else (if a1 ≤ a3 then (if a1 ≤ length_t then (some 1) else (Tape_holds_J22 length_t)) else (Tape_holds_J22 length_t))
noncomputable def Tape_begin (length_t : Int32) (end_t : Int32) (at_t : Int32) (fault_t : Int32) (a1 : Int32) : Option (Int32 × Int32 × Int32 × Int32) :=
  some (0, a1, 0, 0)
noncomputable def Tape_byteAt_J30 (bytes_t : Nat → Int32) (end_t : Int32) : Option (Int32) :=
  some (-1)
noncomputable def Tape_byteAt (bytes_t : Nat → Int32) (end_t : Int32) (a1 : Int32) : Option (Int32) :=
  if a1 < 0 then (Tape_byteAt_J30 bytes_t end_t) else (if a1 < end_t then (if a1 < 260 then (gd (ix a1 260) (some (bytes_t (a1 : Int32).toNatClampNeg))) else (Tape_byteAt_J30 bytes_t end_t)) else (Tape_byteAt_J30 bytes_t end_t))
noncomputable def Tape_peek_J35 (bytes_t : Nat → Int32) (end_t : Int32) (at_t : Int32) : Option (Int32) :=
  some (-1)
noncomputable def Tape_peek (bytes_t : Nat → Int32) (end_t : Int32) (at_t : Int32) : Option (Int32) :=
  if at_t < end_t then (if at_t < 260 then (gd (ix at_t 260) (some (bytes_t (at_t : Int32).toNatClampNeg))) else (Tape_peek_J35 bytes_t end_t at_t)) else (Tape_peek_J35 bytes_t end_t at_t)
noncomputable def Tape_atEnd (end_t : Int32) (at_t : Int32) : Option (Int32) :=
  if at_t < end_t then (some 0) else (some 1)
noncomputable def Tape_skip (at_t : Int32) : Option (Int32) :=
  some (at_t + 1)
noncomputable def Tape_fail (end_t : Int32) (fault_t : Int32) (a1 : Int32) (a2 : Int32) : Option (Int32 × Int32) :=
  if fault_t = 0 then (some (0, ((-1000) * a1) - a2)) else (some (end_t, fault_t))
noncomputable def Tape_take (bytes_t : Nat → Int32) (end_t : Int32) (at_t : Int32) (fault_t : Int32) (a1 : Int32) : Option (Int32 × Int32 × Int32 × Int32) :=
  ob (Tape_peek bytes_t end_t at_t) fun x1 =>
  if x1 = a1 then (some (1, end_t, at_t + 1, fault_t)) else (ob (Tape_fail end_t fault_t 1 at_t) fun x2 =>
  some (0, x2.1, at_t, x2.2))
noncomputable def Tape_letter_J18 (bytes_t : Nat → Int32) (end_t : Int32) (at_t : Int32) (fault_t : Int32) : Option (Int32 × Int32 × Int32 × Int32) :=
  ob (Tape_fail end_t fault_t 1 at_t) fun x1 =>
  some ((-1), x1.1, at_t, x1.2)
noncomputable def Tape_letter (bytes_t : Nat → Int32) (end_t : Int32) (at_t : Int32) (fault_t : Int32) : Option (Int32 × Int32 × Int32 × Int32) :=
  ob (Tape_peek bytes_t end_t at_t) fun x1 =>
  if (x1 - 97) < 0 then (Tape_letter_J18 bytes_t end_t at_t fault_t) else (if (x1 - 97) < 12 then (some (x1 - 97, end_t, at_t + 1, fault_t)) else (Tape_letter_J18 bytes_t end_t at_t fault_t))
noncomputable def Tape_isDigit_J16  : Option (Int32) :=
  some 0
noncomputable def Tape_isDigit (a0 : Int32) : Option (Int32) :=
  if a0 < 48 then (Tape_isDigit_J16 ) else (if a0 ≤ 57 then (some 1) else (Tape_isDigit_J16 ))
noncomputable def Tape_digits_L10 (v1 : Int32) (v3 : Int32) (bytes_t : Nat → Int32) (end_t : Int32) : (Int32 × Int32 × Int32) → Option ((Int32 × Int32 × Int32) ⊕ (Int32 × Int32)) := fun s10 =>
  if s10.2.1 < v1 then (ob (Tape_peek bytes_t end_t s10.2.2) fun x1 =>
  ob (Tape_isDigit x1) fun x2 =>
  if x2 = 0 then (some (.inr (s10.1, s10.2.2))) else (ob (Tape_peek bytes_t end_t s10.2.2) fun x3 =>
  some (.inl (((s10.1 * 10) + x3) - 48, s10.2.1 + 1, s10.2.2 + 1)))) else (some (.inr (s10.1, s10.2.2)))
noncomputable def Tape_digits_J55 (v2 : Int32) (v3 : Int32) (bytes_t : Nat → Int32) (end_t : Int32) (at_t : Int32) (fault_t : Int32) : Option (Int32 × Int32 × Int32 × Int32) :=
  if at_t = v3 then (ob (Tape_fail end_t fault_t 1 at_t) fun x1 =>
  some (v2, x1.1, at_t, x1.2)) else (ob (Tape_peek bytes_t end_t at_t) fun x2 =>
  ob (Tape_isDigit x2) fun x3 =>
  if x3 = 0 then (some (v2, end_t, at_t, fault_t)) else (ob (Tape_fail end_t fault_t 2 at_t) fun x4 =>
  some (v2, x4.1, at_t, x4.2)))
noncomputable def Tape_digits (bytes_t : Nat → Int32) (end_t : Int32) (at_t : Int32) (fault_t : Int32) (a1 : Int32) : Option (Int32 × Int32 × Int32 × Int32) :=
  ob (lp (Tape_digits_L10 a1 at_t bytes_t end_t) (0, 0, at_t)) fun x1 =>
  Tape_digits_J55 x1.1 at_t bytes_t end_t x1.2 fault_t
/-! what the JDK does -/
noncomputable def Arrays_fill_L5 (v1 : Int32) (v3 : Int32) (n_a : Nat) : (Int32 × (Nat → Int32)) → Option ((Int32 × (Nat → Int32)) ⊕ (Nat → Int32)) := fun s5 =>
  if s5.1 < v3 then (gd (ix s5.1 n_a) (some (.inl (s5.1 + 1, upd s5.2 (s5.1 : Int32).toNatClampNeg v1)))) else (some (.inr s5.2))
noncomputable def Arrays_fill (n_a : Nat) (f_a : Nat → Int32) (a1 : Int32) : Option (Nat → Int32) :=
  ob (lp (Arrays_fill_L5 a1 (Int32.ofNat n_a) n_a) (0, f_a)) fun x1 =>
  some x1
noncomputable def Arrays_rangeCheck (a0 : Int32) (a1 : Int32) (a2 : Int32) : Option (Unit) :=
  if a1 ≤ a2 then (if a1 < 0 then (none) else (if a2 ≤ a0 then (some ()) else (none))) else (none)
noncomputable def Arrays_fill3_L10 (v2 : Int32) (v3 : Int32) (n_a : Nat) : (Int32 × (Nat → Int32)) → Option ((Int32 × (Nat → Int32)) ⊕ (Nat → Int32)) := fun s10 =>
  if s10.1 < v2 then (gd (ix s10.1 n_a) (some (.inl (s10.1 + 1, upd s10.2 (s10.1 : Int32).toNatClampNeg v3)))) else (some (.inr s10.2))
noncomputable def Arrays_fill3 (n_a : Nat) (f_a : Nat → Int32) (a1 : Int32) (a2 : Int32) (a3 : Int32) : Option (Nat → Int32) :=
  ob (Arrays_rangeCheck (Int32.ofNat n_a) a1 a2) fun x1 =>
  ob (lp (Arrays_fill3_L10 a2 a3 n_a) (a1, f_a)) fun x2 =>
  some x2
noncomputable def Integer_bitCount (a0 : Int32) : Option (Int32) :=
  some ((((((((a0 - ((juS a0 1) &&& 1431655765)) &&& 858993459) + ((juS (a0 - ((juS a0 1) &&& 1431655765)) 2) &&& 858993459)) + (juS (((a0 - ((juS a0 1) &&& 1431655765)) &&& 858993459) + ((juS (a0 - ((juS a0 1) &&& 1431655765)) 2) &&& 858993459)) 4)) &&& 252645135) + (juS (((((a0 - ((juS a0 1) &&& 1431655765)) &&& 858993459) + ((juS (a0 - ((juS a0 1) &&& 1431655765)) 2) &&& 858993459)) + (juS (((a0 - ((juS a0 1) &&& 1431655765)) &&& 858993459) + ((juS (a0 - ((juS a0 1) &&& 1431655765)) 2) &&& 858993459)) 4)) &&& 252645135) 8)) + (juS ((((((a0 - ((juS a0 1) &&& 1431655765)) &&& 858993459) + ((juS (a0 - ((juS a0 1) &&& 1431655765)) 2) &&& 858993459)) + (juS (((a0 - ((juS a0 1) &&& 1431655765)) &&& 858993459) + ((juS (a0 - ((juS a0 1) &&& 1431655765)) 2) &&& 858993459)) 4)) &&& 252645135) + (juS (((((a0 - ((juS a0 1) &&& 1431655765)) &&& 858993459) + ((juS (a0 - ((juS a0 1) &&& 1431655765)) 2) &&& 858993459)) + (juS (((a0 - ((juS a0 1) &&& 1431655765)) &&& 858993459) + ((juS (a0 - ((juS a0 1) &&& 1431655765)) 2) &&& 858993459)) 4)) &&& 252645135) 8)) 16)) &&& 63)
/-! Land -/
noncomputable def Land_has_J16 (wells_l : Int32) : Option (Int32) :=
  some 0
noncomputable def Land_has (wells_l : Int32) (a1 : Int32) : Option (Int32) :=
  if a1 < 0 then (Land_has_J16 wells_l) else (if a1 < wells_l then (some 1) else (Land_has_J16 wells_l))
noncomputable def Land_areNext_J33 (wells_l : Int32) (next_l : Nat → Int32) : Option (Int32) :=
  some 0
noncomputable def Land_areNext (wells_l : Int32) (next_l : Nat → Int32) (a1 : Int32) (a2 : Int32) : Option (Int32) :=
  ob (Land_has wells_l a1) fun x1 =>
  if x1 = 0 then (Land_areNext_J33 wells_l next_l) else (ob (Land_has wells_l a2) fun x2 =>
  if x2 = 0 then (Land_areNext_J33 wells_l next_l) else (gd (ix a1 12) (if (((next_l (a1 : Int32).toNatClampNeg) >>> (a2 &&& 31)) &&& 1) = 0 then (Land_areNext_J33 wells_l next_l) else (some 1))))
noncomputable def Land_way_J30 (wells_l : Int32) (ways_l : Nat → Int32) : Option (Int32) :=
  some (-2)
noncomputable def Land_way (wells_l : Int32) (ways_l : Nat → Int32) (a1 : Int32) (a2 : Int32) : Option (Int32) :=
  ob (Land_has wells_l a1) fun x1 =>
  if x1 = 0 then (Land_way_J30 wells_l ways_l) else (ob (Land_has wells_l a2) fun x2 =>
  if x2 = 0 then (Land_way_J30 wells_l ways_l) else (gd (ix ((a1 * 12) + a2) 144) (some (ways_l ((a1 * 12) + a2 : Int32).toNatClampNeg))))
noncomputable def Land_bare (wells_l : Int32) (next_l : Nat → Int32) (a1 : Int32) : Option (Int32 × (Nat → Int32)) :=
  ob (Arrays_fill 12 next_l 0) fun x1 =>
  some (jmax 0 (jmin a1 12), x1)
noncomputable def Land_become (wells_l : Int32) (next_l : Nat → Int32) (wells_o : Int32) (next_o : Nat → Int32) : Option (Int32 × (Nat → Int32)) :=
  gd (cpOk 0 0 12 12 12) (some (wells_o, va_cpy next_o next_l (0 : Int32).toNatClampNeg (0 : Int32).toNatClampNeg (12 : Int32).toNatClampNeg))
noncomputable def Land_join (wells_l : Int32) (next_l : Nat → Int32) (a1 : Int32) (a2 : Int32) : Option (Nat → Int32) :=
  ob (Land_has wells_l a1) fun x1 =>
  if x1 = 0 then (some next_l) else (ob (Land_has wells_l a2) fun x2 =>
  if x2 = 0 then (some next_l) else (if a1 = a2 then (some next_l) else (gd (ix a1 12) (gd (ix a1 12) (gd (ix a2 12) (gd (ix a2 12) (some (upd (upd next_l (a1 : Int32).toNatClampNeg ((next_l (a1 : Int32).toNatClampNeg) ||| ((1 : Int32) <<< (a2 &&& 31)))) (a2 : Int32).toNatClampNeg (((upd next_l (a1 : Int32).toNatClampNeg ((next_l (a1 : Int32).toNatClampNeg) ||| ((1 : Int32) <<< (a2 &&& 31)))) (a2 : Int32).toNatClampNeg) ||| ((1 : Int32) <<< (a1 &&& 31)))))))))))
noncomputable def Land_part (wells_l : Int32) (next_l : Nat → Int32) (a1 : Int32) (a2 : Int32) : Option (Nat → Int32) :=
  ob (Land_has wells_l a1) fun x1 =>
  if x1 = 0 then (some next_l) else (ob (Land_has wells_l a2) fun x2 =>
  if x2 = 0 then (some next_l) else (gd (ix a1 12) (gd (ix a1 12) (gd (ix a2 12) (gd (ix a2 12) (some (upd (upd next_l (a1 : Int32).toNatClampNeg ((next_l (a1 : Int32).toNatClampNeg) &&& (((1 : Int32) <<< (a2 &&& 31)) ^^^ (-1)))) (a2 : Int32).toNatClampNeg (((upd next_l (a1 : Int32).toNatClampNeg ((next_l (a1 : Int32).toNatClampNeg) &&& (((1 : Int32) <<< (a2 &&& 31)) ^^^ (-1)))) (a2 : Int32).toNatClampNeg) &&& (((1 : Int32) <<< (a1 &&& 31)) ^^^ (-1))))))))))
noncomputable def Land_becomeShape_L41 (v1 : Int32) (v3 : Int32) (wells_l : Int32) : (Int32 × (Nat → Int32)) → Option ((Int32 × (Nat → Int32)) ⊕ (Nat → Int32)) := fun s41 =>
  if v1 = 75 then (if s41.1 < v3 then (ob (Land_join wells_l s41.2 s41.1 v3) fun x1 =>
  some (.inl (s41.1 + 1, x1))) else (some (.inr s41.2))) else (some (.inr s41.2))
noncomputable def Land_becomeShape_L7_J66 (v1 : Int32) (v3 : Int32) (wells_l : Int32) (next_l : Nat → Int32) : Option ((Int32 × (Nat → Int32)) ⊕ (Nat → Int32)) :=
  some (.inl (v3 + 1, next_l))
noncomputable def Land_becomeShape_L7_J38 (v1 : Int32) (v3 : Int32) (wells_l : Int32) (next_l : Nat → Int32) : Option ((Int32 × (Nat → Int32)) ⊕ (Nat → Int32)) :=
  ob (lp (Land_becomeShape_L41 v1 v3 wells_l) (0, next_l)) fun x1 =>
  Land_becomeShape_L7_J66 v1 v3 wells_l x1
noncomputable def Land_becomeShape_L7 (v1 : Int32) (wells_l : Int32) : (Int32 × (Nat → Int32)) → Option ((Int32 × (Nat → Int32)) ⊕ (Nat → Int32)) := fun s7 =>
  if s7.1 < wells_l then (if v1 = 83 then (ob (Land_join wells_l s7.2 0 s7.1) fun x1 =>
  Land_becomeShape_L7_J38 v1 s7.1 wells_l x1) else (ob (Land_join wells_l s7.2 (s7.1 - 1) s7.1) fun x2 =>
  Land_becomeShape_L7_J38 v1 s7.1 wells_l x2)) else (some (.inr s7.2))
noncomputable def Land_becomeShape (wells_l : Int32) (next_l : Nat → Int32) (a1 : Int32) (a2 : Int32) : Option (Int32 × (Nat → Int32)) :=
  ob (Land_bare wells_l next_l a2) fun x1 =>
  ob (lp (Land_becomeShape_L7 a1 x1.1) (1, x1.2)) fun x2 =>
  if a1 = 82 then (ob (Land_join x1.1 x2 (x1.1 - 1) 0) fun x3 =>
  some (x1.1, x3)) else (some (x1.1, x2))
noncomputable def Land_joinInProduct_L14_J46 (v3 : Int32) (v4 : Int32) (v5 : Int32) (v6 : Int32) (wells_l : Int32) (next_l : Nat → Int32) (wells_a : Int32) (next_a : Nat → Int32) (wells_b : Int32) : Option ((Int32 × (Nat → Int32)) ⊕ (Nat → Int32)) :=
  some (.inl (v6 + 1, next_l))
noncomputable def Land_joinInProduct_L14 (v3 : Int32) (v4 : Int32) (v5 : Int32) (wells_l : Int32) (wells_a : Int32) (next_a : Nat → Int32) (wells_b : Int32) : (Int32 × (Nat → Int32)) → Option ((Int32 × (Nat → Int32)) ⊕ (Nat → Int32)) := fun s14 =>
  if s14.1 < v3 then (ob (Land_areNext wells_a next_a v3 s14.1) fun x1 =>
  if x1 = 0 then (Land_joinInProduct_L14_J46 v3 v4 v5 s14.1 wells_l s14.2 wells_a next_a wells_b) else (ob (Land_join wells_l s14.2 v5 ((s14.1 * wells_b) + v4)) fun x2 =>
  Land_joinInProduct_L14_J46 v3 v4 v5 s14.1 wells_l x2 wells_a next_a wells_b)) else (some (.inr s14.2))
noncomputable def Land_joinInProduct_L55_J88 (v3 : Int32) (v4 : Int32) (v5 : Int32) (v6 : Int32) (wells_l : Int32) (next_l : Nat → Int32) (wells_b : Int32) (next_b : Nat → Int32) : Option ((Int32 × (Nat → Int32)) ⊕ (Nat → Int32)) :=
  some (.inl (v6 + 1, next_l))
noncomputable def Land_joinInProduct_L55 (v3 : Int32) (v4 : Int32) (v5 : Int32) (wells_l : Int32) (wells_b : Int32) (next_b : Nat → Int32) : (Int32 × (Nat → Int32)) → Option ((Int32 × (Nat → Int32)) ⊕ (Nat → Int32)) := fun s55 =>
  if s55.1 < v4 then (ob (Land_areNext wells_b next_b v4 s55.1) fun x1 =>
  if x1 = 0 then (Land_joinInProduct_L55_J88 v3 v4 v5 s55.1 wells_l s55.2 wells_b next_b) else (ob (Land_join wells_l s55.2 v5 ((v3 * wells_b) + s55.1)) fun x2 =>
  Land_joinInProduct_L55_J88 v3 v4 v5 s55.1 wells_l x2 wells_b next_b)) else (some (.inr s55.2))
noncomputable def Land_joinInProduct (wells_l : Int32) (next_l : Nat → Int32) (wells_a : Int32) (next_a : Nat → Int32) (wells_b : Int32) (next_b : Nat → Int32) (a3 : Int32) (a4 : Int32) : Option (Nat → Int32) :=
  ob (lp (Land_joinInProduct_L14 a3 a4 ((a3 * wells_b) + a4) wells_l wells_a next_a wells_b) (0, next_l)) fun x1 =>
  ob (lp (Land_joinInProduct_L55 a3 a4 ((a3 * wells_b) + a4) wells_l wells_b next_b) (0, x1)) fun x2 =>
  some x2
noncomputable def Land_becomeProduct_L26 (v3 : Int32) (wells_l : Int32) (wells_a : Int32) (next_a : Nat → Int32) (wells_b : Int32) (next_b : Nat → Int32) : (Int32 × (Nat → Int32)) → Option ((Int32 × (Nat → Int32)) ⊕ (Nat → Int32)) := fun s26 =>
  if s26.1 < wells_b then (ob (Land_joinInProduct wells_l s26.2 wells_a next_a wells_b next_b v3 s26.1) fun x1 =>
  some (.inl (s26.1 + 1, x1))) else (some (.inr s26.2))
noncomputable def Land_becomeProduct_L15 (wells_l : Int32) (wells_a : Int32) (next_a : Nat → Int32) (wells_b : Int32) (next_b : Nat → Int32) : (Int32 × (Nat → Int32)) → Option ((Int32 × (Nat → Int32)) ⊕ (Nat → Int32)) := fun s15 =>
  if s15.1 < wells_a then (ob (lp (Land_becomeProduct_L26 s15.1 wells_l wells_a next_a wells_b next_b) (0, s15.2)) fun x1 =>
  some (.inl (s15.1 + 1, x1))) else (some (.inr s15.2))
noncomputable def Land_becomeProduct (wells_l : Int32) (next_l : Nat → Int32) (wells_a : Int32) (next_a : Nat → Int32) (wells_b : Int32) (next_b : Nat → Int32) : Option (Int32 × (Nat → Int32)) :=
  ob (Land_bare wells_l next_l (wells_a * wells_b)) fun x1 =>
  ob (lp (Land_becomeProduct_L15 x1.1 wells_a next_a wells_b next_b) (0, x1.2)) fun x2 =>
  some (x1.1, x2)
noncomputable def Land_measureFrom_L28_J72 (v1 : Int32) (v2 : Int32) (v3 : Int32) (v4 : Int32) (v5 : Int32) (v6 : Int32) (wells_l : Int32) (next_l : Nat → Int32) (ways_l : Nat → Int32) : Option ((Int32 × Int32 × (Nat → Int32)) ⊕ (Int32 × (Nat → Int32))) :=
  some (.inl (v5, v6 + 1, ways_l))
noncomputable def Land_measureFrom_L28 (v1 : Int32) (v2 : Int32) (v3 : Int32) (v4 : Int32) (wells_l : Int32) (next_l : Nat → Int32) : (Int32 × Int32 × (Nat → Int32)) → Option ((Int32 × Int32 × (Nat → Int32)) ⊕ (Int32 × (Nat → Int32))) := fun s28 =>
  if s28.2.1 < wells_l then (if ((v3 >>> (s28.2.1 &&& 31)) &&& 1) = 0 then (Land_measureFrom_L28_J72 v1 v2 v3 v4 s28.1 s28.2.1 wells_l next_l s28.2.2) else (gd (ix ((v1 * 12) + s28.2.1) 144) (gd (ix s28.2.1 12) (Land_measureFrom_L28_J72 v1 v2 v3 v4 (s28.1 ||| (next_l (s28.2.1 : Int32).toNatClampNeg)) s28.2.1 wells_l next_l (upd s28.2.2 ((v1 * 12) + s28.2.1 : Int32).toNatClampNeg v4))))) else (some (.inr (s28.1, s28.2.2)))
noncomputable def Land_measureFrom_L9 (v1 : Int32) (wells_l : Int32) (next_l : Nat → Int32) : (Int32 × Int32 × Int32 × (Nat → Int32)) → Option ((Int32 × Int32 × Int32 × (Nat → Int32)) ⊕ (Nat → Int32)) := fun s9 =>
  if s9.2.2.1 < wells_l then (if s9.2.1 = 0 then (some (.inr s9.2.2.2)) else (ob (lp (Land_measureFrom_L28 v1 s9.1 s9.2.1 s9.2.2.1 wells_l next_l) (0, 0, s9.2.2.2)) fun x1 =>
  some (.inl (s9.1 ||| (x1.1 &&& (s9.1 ^^^ (-1))), x1.1 &&& (s9.1 ^^^ (-1)), s9.2.2.1 + 1, x1.2)))) else (some (.inr s9.2.2.2))
noncomputable def Land_measureFrom (wells_l : Int32) (next_l : Nat → Int32) (ways_l : Nat → Int32) (a1 : Int32) : Option (Nat → Int32) :=
  ob (lp (Land_measureFrom_L9 a1 wells_l next_l) ((1 : Int32) <<< (a1 &&& 31), (1 : Int32) <<< (a1 &&& 31), 0, ways_l)) fun x1 =>
  some x1
noncomputable def Land_measure_L11 (wells_l : Int32) (next_l : Nat → Int32) : (Int32 × (Nat → Int32)) → Option ((Int32 × (Nat → Int32)) ⊕ (Nat → Int32)) := fun s11 =>
  if s11.1 < wells_l then (ob (Land_measureFrom wells_l next_l s11.2 s11.1) fun x1 =>
  some (.inl (s11.1 + 1, x1))) else (some (.inr s11.2))
noncomputable def Land_measure (wells_l : Int32) (next_l : Nat → Int32) (ways_l : Nat → Int32) : Option (Nat → Int32) :=
  ob (Arrays_fill 144 ways_l (-2)) fun x1 =>
  ob (lp (Land_measure_L11 wells_l next_l) (0, x1)) fun x2 =>
  some x2
noncomputable def Land_stages_L4 (wells_l : Int32) (next_l : Nat → Int32) : (Int32 × Int32) → Option ((Int32 × Int32) ⊕ (Int32)) := fun s4 =>
  if s4.2 < wells_l then (gd (ix s4.2 12) (ob (Integer_bitCount (next_l (s4.2 : Int32).toNatClampNeg)) fun x2 =>
  some (.inl (s4.1 + x2, s4.2 + 1)))) else (some (.inr s4.1))
noncomputable def Land_stages (wells_l : Int32) (next_l : Nat → Int32) : Option (Int32) :=
  ob (lp (Land_stages_L4 wells_l next_l) (0, 0)) fun x1 =>
  some (x1 / 2)
noncomputable def Land_widest_L14 (v2 : Int32) (wells_l : Int32) (ways_l : Nat → Int32) : (Int32 × Int32) → Option ((Int32 × Int32) ⊕ (Unit) ⊕ (Int32)) := fun s14 =>
  if s14.2 < v2 then (ob (Land_way wells_l ways_l v2 s14.2) fun x1 =>
  if x1 < 0 then (some (.inr (.inl ()))) else (ob (Land_way wells_l ways_l v2 s14.2) fun x2 =>
  some (.inl (jmax s14.1 x2, s14.2 + 1)))) else (some (.inr (.inr (s14.1))))
noncomputable def Land_widest_L4 (wells_l : Int32) (ways_l : Nat → Int32) : (Int32 × Int32) → Option ((Int32 × Int32) ⊕ (Unit) ⊕ (Int32)) := fun s4 =>
  if s4.2 < wells_l then (ob (lp (Land_widest_L14 s4.2 wells_l ways_l) (s4.1, 0)) fun x1 =>
  sm x1 (fun x1 => some (.inr (.inl ()))) (fun x1 => some (.inl (x1, s4.2 + 1)))) else (some (.inr (.inr (s4.1))))
noncomputable def Land_widest (wells_l : Int32) (ways_l : Nat → Int32) : Option (Int32) :=
  ob (lp (Land_widest_L4 wells_l ways_l) (0, 0)) fun x1 =>
  sm x1 (fun x1 => some (-2)) (fun x1 => some x1)
/-! the reference, 0 -/
noncomputable def Mo_in_J14  : Option (Int32) :=
  some 0
noncomputable def Mo_in (a0 : Int32) (a1 : Int32) (a2 : Int32) : Option (Int32) :=
  if a0 < a1 then (Mo_in_J14 ) else (if a0 ≤ a2 then (some 1) else (Mo_in_J14 ))
noncomputable def Mo_min (a0 : Int32) (a1 : Int32) : Option (Int32) :=
  if a0 < a1 then (some a0) else (some a1)
noncomputable def Mo_max (a0 : Int32) (a1 : Int32) : Option (Int32) :=
  if a0 ≤ a1 then (some a1) else (some a0)
noncomputable def Mo_has (a0 : Int32) (a1 : Int32) : Option (Int32) :=
  if ((a0 >>> (a1 &&& 31)) &&& 1) = 1 then (some 1) else (some 0)
noncomputable def Mo_bits_L4 (v0 : Int32) : (Int32 × Int32) → Option ((Int32 × Int32) ⊕ (Int32)) := fun s4 =>
  if s4.2 < 16 then (some (.inl (s4.1 + ((v0 >>> (s4.2 &&& 31)) &&& 1), s4.2 + 1))) else (some (.inr s4.1))
noncomputable def Mo_bits (a0 : Int32) : Option (Int32) :=
  ob (lp (Mo_bits_L4 a0) (0, 0)) fun x1 =>
  some x1
noncomputable def Mo_copies_L2 (f_a : Nat → Int32) : (Int32 × (Nat → Int32)) → Option ((Int32 × (Nat → Int32)) ⊕ (Nat → Int32)) := fun s2 =>
  if s2.1 < 27 then (gd (ix s2.1 27) (gd (ix s2.1 27) (some (.inl (s2.1 + 1, upd s2.2 (s2.1 : Int32).toNatClampNeg (f_a (s2.1 : Int32).toNatClampNeg)))))) else (some (.inr s2.2))
noncomputable def Mo_copies (f_a : Nat → Int32) (g_a : Nat → Int32) : Option (Nat → Int32) :=
  ob (lp (Mo_copies_L2 f_a) (0, g_a)) fun x1 =>
  some x1
noncomputable def Mo_isWell (wells_m : Int32) (a1 : Int32) : Option (Int32) :=
  ob (Mo_in a1 0 (wells_m - 1)) fun x1 =>
  gd (isB x1) (some x1)
noncomputable def Mo_jarsOfAll_L4 (now_m : Nat → Int32) (wells_m : Int32) : (Int32 × Int32) → Option ((Int32 × Int32) ⊕ (Int32)) := fun s4 =>
  if s4.2 < wells_m then (gd (ix (0 + s4.2) 27) (some (.inl (s4.1 + (now_m (0 + s4.2 : Int32).toNatClampNeg), s4.2 + 1)))) else (some (.inr s4.1))
noncomputable def Mo_jarsOfAll (now_m : Nat → Int32) (wells_m : Int32) : Option (Int32) :=
  ob (lp (Mo_jarsOfAll_L4 now_m wells_m) (0, 0)) fun x1 =>
  some x1
noncomputable def Mo_room (now_m : Nat → Int32) (wells_m : Int32) (a1 : Int32) (a2 : Int32) : Option (Int32 × (Nat → Int32)) :=
  ob (Mo_isWell wells_m a1) fun x1 =>
  if x1 = 0 then (some (0, now_m)) else (ob (Mo_in a2 0 40) fun x2 =>
  if x2 = 0 then (some (0, now_m)) else (gd (ix (12 + a1) 27) (some (1, upd now_m (12 + a1 : Int32).toNatClampNeg a2))))
noncomputable def Mo_queen (now_m : Nat → Int32) (wells_m : Int32) (a1 : Int32) : Option (Int32 × (Nat → Int32)) :=
  ob (Mo_isWell wells_m a1) fun x1 =>
  if x1 = 0 then (some (0, now_m)) else (gd (ix 24 27) (some (1, upd now_m (24 : Int32).toNatClampNeg a1)))
noncomputable def Mo_laysStepsFrom_L2 (v1 : Int32) : (Int32 × (Nat → Int32)) → Option ((Int32 × (Nat → Int32)) ⊕ (Nat → Int32)) := fun s2 =>
  if s2.1 < 12 then (gd (ix ((12 * v1) + s2.1) 144) (some (.inl (s2.1 + 1, upd s2.2 ((12 * v1) + s2.1 : Int32).toNatClampNeg (-2))))) else (some (.inr s2.2))
noncomputable def Mo_laysStepsFrom_L58_J148 (v1 : Int32) (v2 : Int32) (v3 : Int32) (v4 : Int32) (nextTo_m : Nat → Int32) (wells_m : Int32) (farOf_m : Nat → Int32) (line_m : Nat → Int32) : Option ((Int32 × Int32 × (Nat → Int32) × (Nat → Int32)) ⊕ (Int32 × (Nat → Int32) × (Nat → Int32))) :=
  some (.inl (v2, v4 + 1, farOf_m, line_m))
noncomputable def Mo_laysStepsFrom_L58 (v1 : Int32) (v3 : Int32) (nextTo_m : Nat → Int32) (wells_m : Int32) : (Int32 × Int32 × (Nat → Int32) × (Nat → Int32)) → Option ((Int32 × Int32 × (Nat → Int32) × (Nat → Int32)) ⊕ (Int32 × (Nat → Int32) × (Nat → Int32))) := fun s58 =>
  if s58.2.1 < wells_m then (gd (ix v3 12) (gd (ix (s58.2.2.2 (v3 : Int32).toNatClampNeg) 12) (ob (Mo_has (nextTo_m (s58.2.2.2 (v3 : Int32).toNatClampNeg : Int32).toNatClampNeg) s58.2.1) fun x3 =>
  if x3 = 0 then (Mo_laysStepsFrom_L58_J148 v1 s58.1 v3 s58.2.1 nextTo_m wells_m s58.2.2.1 s58.2.2.2) else (gd (ix ((12 * v1) + s58.2.1) 144) (if (s58.2.2.1 ((12 * v1) + s58.2.1 : Int32).toNatClampNeg) = (-2) then (gd (ix v3 12) (gd (ix ((12 * v1) + (s58.2.2.2 (v3 : Int32).toNatClampNeg)) 144) (gd (ix ((12 * v1) + s58.2.1) 144) (gd (ix s58.1 12) (Mo_laysStepsFrom_L58_J148 v1 (s58.1 + 1) v3 s58.2.1 nextTo_m wells_m (upd s58.2.2.1 ((12 * v1) + s58.2.1 : Int32).toNatClampNeg ((s58.2.2.1 ((12 * v1) + (s58.2.2.2 (v3 : Int32).toNatClampNeg) : Int32).toNatClampNeg) + 1)) (upd s58.2.2.2 (s58.1 : Int32).toNatClampNeg s58.2.1)))))) else (Mo_laysStepsFrom_L58_J148 v1 s58.1 v3 s58.2.1 nextTo_m wells_m s58.2.2.1 s58.2.2.2)))))) else (some (.inr (s58.1, s58.2.2.1, s58.2.2.2)))
noncomputable def Mo_laysStepsFrom_L50 (v1 : Int32) (nextTo_m : Nat → Int32) (wells_m : Int32) : (Int32 × Int32 × (Nat → Int32) × (Nat → Int32)) → Option ((Int32 × Int32 × (Nat → Int32) × (Nat → Int32)) ⊕ ((Nat → Int32) × (Nat → Int32))) := fun s50 =>
  if s50.2.1 < s50.1 then (ob (lp (Mo_laysStepsFrom_L58 v1 s50.2.1 nextTo_m wells_m) (s50.1, 0, s50.2.2.1, s50.2.2.2)) fun x1 =>
  some (.inl (x1.1, s50.2.1 + 1, x1.2.1, x1.2.2))) else (some (.inr (s50.2.2.1, s50.2.2.2)))
noncomputable def Mo_laysStepsFrom (nextTo_m : Nat → Int32) (wells_m : Int32) (farOf_m : Nat → Int32) (line_m : Nat → Int32) (a1 : Int32) : Option ((Nat → Int32) × (Nat → Int32)) :=
  ob (lp (Mo_laysStepsFrom_L2 a1) (0, farOf_m)) fun x1 =>
  gd (ix ((12 * a1) + a1) 144) (gd (ix 0 12) (ob (lp (Mo_laysStepsFrom_L50 a1 nextTo_m wells_m) (1, 0, upd x1 ((12 * a1) + a1 : Int32).toNatClampNeg 0, upd line_m (0 : Int32).toNatClampNeg a1)) fun x4 =>
  some (x4.1, x4.2)))
noncomputable def Mo_laysSteps_L2 (nextTo_m : Nat → Int32) (wells_m : Int32) : (Int32 × (Nat → Int32) × (Nat → Int32)) → Option ((Int32 × (Nat → Int32) × (Nat → Int32)) ⊕ ((Nat → Int32) × (Nat → Int32))) := fun s2 =>
  if s2.1 < wells_m then (ob (Mo_laysStepsFrom nextTo_m wells_m s2.2.1 s2.2.2 s2.1) fun x1 =>
  some (.inl (s2.1 + 1, x1.1, x1.2))) else (some (.inr (s2.2.1, s2.2.2)))
noncomputable def Mo_laysSteps (nextTo_m : Nat → Int32) (wells_m : Int32) (farOf_m : Nat → Int32) (line_m : Nat → Int32) : Option ((Nat → Int32) × (Nat → Int32)) :=
  ob (lp (Mo_laysSteps_L2 nextTo_m wells_m) (0, farOf_m, line_m)) fun x1 =>
  some (x1.1, x1.2)
noncomputable def Mo_far (farOf_m : Nat → Int32) (a1 : Int32) (a2 : Int32) : Option (Int32) :=
  gd (ix ((12 * a1) + a2) 144) (some (farOf_m ((12 * a1) + a2 : Int32).toNatClampNeg))
noncomputable def Mo_steps (nextTo_m : Nat → Int32) (wells_m : Int32) (farOf_m : Nat → Int32) (line_m : Nat → Int32) (a1 : Int32) (a2 : Int32) : Option (Int32 × (Nat → Int32) × (Nat → Int32)) :=
  ob (Mo_isWell wells_m a1) fun x1 =>
  if x1 = 0 then (some ((-1), farOf_m, line_m)) else (ob (Mo_isWell wells_m a2) fun x2 =>
  if x2 = 0 then (some ((-1), farOf_m, line_m)) else (ob (Mo_laysStepsFrom nextTo_m wells_m farOf_m line_m a1) fun x3 =>
  ob (Mo_far x3.1 a1 a2) fun x4 =>
  some (x4, x3.1, x3.2)))
noncomputable def Mo_mostSteps_L18 (v2 : Int32) (wells_m : Int32) (farOf_m : Nat → Int32) : (Int32 × Int32) → Option ((Int32 × Int32) ⊕ (Unit) ⊕ (Int32)) := fun s18 =>
  if s18.2 < wells_m then (ob (Mo_far farOf_m v2 s18.2) fun x1 =>
  if x1 = (-2) then (some (.inr (.inl ()))) else (ob (Mo_far farOf_m v2 s18.2) fun x2 =>
  ob (Mo_max s18.1 x2) fun x3 =>
  some (.inl (x3, s18.2 + 1)))) else (some (.inr (.inr (s18.1))))
noncomputable def Mo_mostSteps_L8 (wells_m : Int32) (farOf_m : Nat → Int32) : (Int32 × Int32) → Option ((Int32 × Int32) ⊕ (Unit) ⊕ (Int32)) := fun s8 =>
  if s8.2 < wells_m then (ob (lp (Mo_mostSteps_L18 s8.2 wells_m farOf_m) (s8.1, 0)) fun x1 =>
  sm x1 (fun x1 => some (.inr (.inl ()))) (fun x1 => some (.inl (x1, s8.2 + 1)))) else (some (.inr (.inr (s8.1))))
noncomputable def Mo_mostSteps (nextTo_m : Nat → Int32) (wells_m : Int32) (farOf_m : Nat → Int32) (line_m : Nat → Int32) : Option (Int32 × (Nat → Int32) × (Nat → Int32)) :=
  ob (Mo_laysSteps nextTo_m wells_m farOf_m line_m) fun x1 =>
  ob (lp (Mo_mostSteps_L8 wells_m x1.1) (0, 0)) fun x2 =>
  sm x2 (fun x2 => some ((-2), x1.1, x1.2)) (fun x2 => some (x2, x1.1, x1.2))
noncomputable def Mo_types_L2 (v1 : Int32) : (Int32 × (Nat → Int32) × Int32) → Option ((Int32 × (Nat → Int32) × Int32) ⊕ ((Nat → Int32) × Int32)) := fun s2 =>
  if s2.1 < 0 then (some (.inr (s2.2.1, s2.2.2))) else (gd (ix s2.2.2 260) (some (.inl (s2.1 + (-1), upd s2.2.1 (s2.2.2 : Int32).toNatClampNeg (vp_nar .byte (jB (v1 >>> ((8 * s2.1) &&& 31)))), s2.2.2 + 1))))
noncomputable def Mo_types (tape_m : Nat → Int32) (taped_m : Int32) (a1 : Int32) : Option ((Nat → Int32) × Int32) :=
  ob (lp (Mo_types_L2 a1) (3, tape_m, taped_m)) fun x1 =>
  some (x1.1, x1.2)
noncomputable def Mo_feed (tape_m : Nat → Int32) (taped_m : Int32) (a1 : Int32) (a2 : Int32) (a3 : Int32) (a4 : Int32) (a5 : Int32) : Option (Int32 × (Nat → Int32) × Int32) :=
  if (taped_m + 20) ≤ 260 then (ob (Mo_types tape_m taped_m a1) fun x1 =>
  ob (Mo_types x1.1 x1.2 a2) fun x2 =>
  ob (Mo_types x2.1 x2.2 a3) fun x3 =>
  ob (Mo_types x3.1 x3.2 a4) fun x4 =>
  ob (Mo_types x4.1 x4.2 a5) fun x5 =>
  some (x5.2, x5.1, x5.2)) else (some ((-1), tape_m, taped_m))
noncomputable def Mo_octet (tape_m : Nat → Int32) (a1 : Int32) : Option (Int32) :=
  gd (ix a1 260) (some ((tape_m (a1 : Int32).toNatClampNeg) &&& 255))
noncomputable def Mo_here (tape_m : Nat → Int32) (place0_m : Int32) (length0_m : Int32) : Option (Int32) :=
  if place0_m < length0_m then (gd (ix place0_m 260) (some ((tape_m (place0_m : Int32).toNatClampNeg) &&& 255))) else (some (-1))
noncomputable def Mo_isDigit_J22 (tape_m : Nat → Int32) (place0_m : Int32) (length0_m : Int32) : Option (Int32) :=
  some 0
noncomputable def Mo_isDigit (tape_m : Nat → Int32) (place0_m : Int32) (length0_m : Int32) : Option (Int32) :=
  ob (Mo_here tape_m place0_m length0_m) fun x1 =>
  if x1 < 48 then (Mo_isDigit_J22 tape_m place0_m length0_m) else (ob (Mo_here tape_m place0_m length0_m) fun x2 =>
  if x2 ≤ 57 then (some 1) else (Mo_isDigit_J22 tape_m place0_m length0_m))
/-! the reference, 1 -/
noncomputable def Mo_wrongAt (fault_m : Int32) (a1 : Int32) (a2 : Int32) : Option (Int32 × Int32) :=
  some (0, ((-1000) * a1) - a2)
noncomputable def Mo_takes (tape_m : Nat → Int32) (place0_m : Int32) (length0_m : Int32) (fault_m : Int32) (a1 : Int32) : Option (Int32 × Int32 × Int32) :=
  ob (Mo_here tape_m place0_m length0_m) fun x1 =>
  if x1 = a1 then (some (1, place0_m + 1, fault_m)) else (ob (Mo_wrongAt fault_m 1 place0_m) fun x2 =>
  gd (isB x2.1) (some (x2.1, place0_m, x2.2)))
noncomputable def Mo_readsNumber_L10 (v1 : Int32) (tape_m : Nat → Int32) (length0_m : Int32) : (Int32 × Int32) → Option ((Int32 × Int32) ⊕ (Int32 × Int32) ⊕ (Int32 × Int32)) := fun s10 =>
  ob (Mo_isDigit tape_m s10.1 length0_m) fun x1 =>
  if x1 = 0 then (some (.inr (.inr (s10.1, s10.2)))) else (if s10.1 = (v1 + 5) then (some (.inr (.inl (s10.1, s10.2)))) else (ob (Mo_here tape_m s10.1 length0_m) fun x2 =>
  some (.inl (s10.1 + 1, ((10 * s10.2) + x2) - 48))))
noncomputable def Mo_readsNumber (tape_m : Nat → Int32) (place0_m : Int32) (length0_m : Int32) (fault_m : Int32) (number0_m : Int32) : Option (Int32 × Int32 × Int32 × Int32) :=
  ob (lp (Mo_readsNumber_L10 place0_m tape_m length0_m) (place0_m, 0)) fun x1 =>
  sm x1 (fun x1 => ob (Mo_wrongAt fault_m 2 x1.1) fun x2 =>
  gd (isB x2.1) (some (x2.1, x1.1, x2.2, x1.2))) (fun x1 => some (1, x1.1, fault_m, x1.2))
noncomputable def Mo_notes (codeMany_m : Int32) (said_m : Nat → Int32) (a1 : Int32) (a2 : Int32) : Option (Int32 × (Nat → Int32)) :=
  gd (ix codeMany_m 260) (some (codeMany_m + 1, upd said_m (codeMany_m : Int32).toNatClampNeg ((1048576 * a1) + a2)))
noncomputable def Mo_opens (place0_m : Int32) (fault_m : Int32) (open_m : Int32) (waiting_m : Int32) (waitsAt_m : Nat → Int32) (a1 : Int32) : Option (Int32 × Int32 × Int32 × Int32 × Int32 × (Nat → Int32)) :=
  if open_m = 6 then (ob (Mo_wrongAt fault_m 5 place0_m) fun x1 =>
  gd (isB x1.1) (some (x1.1, place0_m, x1.2, open_m, waiting_m, waitsAt_m))) else (gd (ix waiting_m 260) (some (1, place0_m + 1, fault_m, open_m + 1, waiting_m + 1, upd waitsAt_m (waiting_m : Int32).toNatClampNeg (1048576 * a1))))
noncomputable def Mo_waitTop (waiting_m : Int32) (waitsAt_m : Nat → Int32) : Option (Int32) :=
  if waiting_m = 0 then (some (-1)) else (gd (ix (waiting_m - 1) 260) (some ((waitsAt_m (waiting_m - 1 : Int32).toNatClampNeg) / 1048576)))
noncomputable def Mo_factOf (a0 : Int32) : Option (Int32) :=
  if a0 = 100 then (some 7) else (if a0 = 101 then (some (-1)) else (if a0 = 102 then (some 0) else (if a0 = 103 then (some 1) else (if a0 = 104 then (some (-1)) else (if a0 = 105 then (some (-1)) else (if a0 = 106 then (some 6) else (if a0 = 107 then (some (-1)) else (if a0 = 108 then (some (-1)) else (if a0 = 109 then (some 3) else (if a0 = 110 then (some 2) else (if a0 = 111 then (some (-1)) else (if a0 = 112 then (some (-1)) else (if a0 = 113 then (some 5) else (if a0 = 114 then (some (-1)) else (if a0 = 115 then (some 4) else (if a0 = 116 then (some (-1)) else (if a0 = 117 then (some (-1)) else (if a0 = 118 then (some (-1)) else (if a0 = 119 then (some 8) else (some (-1)))))))))))))))))))))
noncomputable def Mo_sumSign (a0 : Int32) : Option (Int32) :=
  if a0 = 43 then (some 2) else (if a0 = 45 then (some 3) else (if a0 = 42 then (some 4) else (if a0 = 47 then (some 5) else (if a0 = 37 then (some 6) else (some (-1))))))
noncomputable def Mo_closesSums_L0_J37 (v1 : Int32) (codeMany_m : Int32) (waiting_m : Int32) (said_m : Nat → Int32) (waitsAt_m : Nat → Int32) : Option ((Int32 × Int32 × (Nat → Int32)) ⊕ (Int32 × Int32 × (Nat → Int32))) :=
  ob (Mo_waitTop waiting_m waitsAt_m) fun x1 =>
  ob (Mo_notes codeMany_m said_m x1 0) fun x2 =>
  some (.inl (x2.1, waiting_m - 1, x2.2))
noncomputable def Mo_closesSums_L0_J17 (v1 : Int32) (codeMany_m : Int32) (waiting_m : Int32) (said_m : Nat → Int32) (waitsAt_m : Nat → Int32) : Option ((Int32 × Int32 × (Nat → Int32)) ⊕ (Int32 × Int32 × (Nat → Int32))) :=
  if v1 = 0 then (some (.inr (codeMany_m, waiting_m, said_m))) else (ob (Mo_waitTop waiting_m waitsAt_m) fun x1 =>
  if x1 = 2 then (Mo_closesSums_L0_J37 v1 codeMany_m waiting_m said_m waitsAt_m) else (ob (Mo_waitTop waiting_m waitsAt_m) fun x2 =>
  if x2 = 3 then (Mo_closesSums_L0_J37 v1 codeMany_m waiting_m said_m waitsAt_m) else (some (.inr (codeMany_m, waiting_m, said_m)))))
noncomputable def Mo_closesSums_L0 (v1 : Int32) (waitsAt_m : Nat → Int32) : (Int32 × Int32 × (Nat → Int32)) → Option ((Int32 × Int32 × (Nat → Int32)) ⊕ (Int32 × Int32 × (Nat → Int32))) := fun s0 =>
  ob (Mo_waitTop s0.2.1 waitsAt_m) fun x1 =>
  if x1 < 4 then (Mo_closesSums_L0_J17 v1 s0.1 s0.2.1 s0.2.2 waitsAt_m) else (ob (Mo_waitTop s0.2.1 waitsAt_m) fun x2 =>
  if x2 ≤ 6 then (Mo_closesSums_L0_J37 v1 s0.1 s0.2.1 s0.2.2 waitsAt_m) else (Mo_closesSums_L0_J17 v1 s0.1 s0.2.1 s0.2.2 waitsAt_m))
noncomputable def Mo_closesSums (codeMany_m : Int32) (waiting_m : Int32) (said_m : Nat → Int32) (waitsAt_m : Nat → Int32) (a1 : Int32) : Option (Int32 × Int32 × (Nat → Int32)) :=
  ob (lp (Mo_closesSums_L0 a1 waitsAt_m) (codeMany_m, waiting_m, said_m)) fun x1 =>
  some (x1.1, x1.2.1, x1.2.2)
noncomputable def Mo_readsFactor_L0 (tape_m : Nat → Int32) (length0_m : Int32) : (Int32 × Int32 × Int32 × Int32 × (Nat → Int32)) → Option ((Int32 × Int32 × Int32 × Int32 × (Nat → Int32)) ⊕ (Int32 × Int32 × Int32 × Int32 × (Nat → Int32)) ⊕ (Int32 × Int32 × Int32 × Int32 × (Nat → Int32))) := fun s0 =>
  ob (Mo_here tape_m s0.1 length0_m) fun x1 =>
  if x1 = 91 then (ob (Mo_opens s0.1 s0.2.1 s0.2.2.1 s0.2.2.2.1 s0.2.2.2.2 14) fun x2 =>
  if x2.1 = 0 then (some (.inr (.inl (x2.2.1, x2.2.2.1, x2.2.2.2.1, x2.2.2.2.2.1, x2.2.2.2.2.2)))) else (some (.inl (x2.2.1, x2.2.2.1, x2.2.2.2.1, x2.2.2.2.2.1, x2.2.2.2.2.2)))) else (some (.inr (.inr (s0.1, s0.2.1, s0.2.2.1, s0.2.2.2.1, s0.2.2.2.2))))
noncomputable def Mo_readsFactor (tape_m : Nat → Int32) (place0_m : Int32) (length0_m : Int32) (fault_m : Int32) (number0_m : Int32) (open_m : Int32) (codeMany_m : Int32) (waiting_m : Int32) (said_m : Nat → Int32) (waitsAt_m : Nat → Int32) : Option (Int32 × Int32 × Int32 × Int32 × Int32 × Int32 × Int32 × (Nat → Int32) × (Nat → Int32)) :=
  ob (lp (Mo_readsFactor_L0 tape_m length0_m) (place0_m, fault_m, open_m, waiting_m, waitsAt_m)) fun x1 =>
  sm x1 (fun x1 => some (0, x1.1, x1.2.1, number0_m, x1.2.2.1, codeMany_m, x1.2.2.2.1, said_m, x1.2.2.2.2)) (fun x1 => ob (Mo_isDigit tape_m x1.1 length0_m) fun x2 =>
  if x2 = 0 then (ob (Mo_here tape_m x1.1 length0_m) fun x3 =>
  ob (Mo_factOf x3) fun x4 =>
  if x4 = (-1) then (ob (Mo_wrongAt x1.2.1 1 x1.1) fun x5 =>
  gd (isB x5.1) (some (x5.1, x1.1, x5.2, number0_m, x1.2.2.1, codeMany_m, x1.2.2.2.1, said_m, x1.2.2.2.2))) else (ob (Mo_notes codeMany_m said_m 1 x4) fun x7 =>
  some (1, x1.1 + 1, x1.2.1, number0_m, x1.2.2.1, x7.1, x1.2.2.2.1, x7.2, x1.2.2.2.2))) else (ob (Mo_readsNumber tape_m x1.1 length0_m x1.2.1 number0_m) fun x9 =>
  if x9.1 = 0 then (some (0, x9.2.1, x9.2.2.1, x9.2.2.2, x1.2.2.1, codeMany_m, x1.2.2.2.1, said_m, x1.2.2.2.2)) else (ob (Mo_notes codeMany_m said_m 0 x9.2.2.2) fun x10 =>
  some (1, x9.2.1, x9.2.2.1, x9.2.2.2, x1.2.2.1, x10.1, x1.2.2.2.1, x10.2, x1.2.2.2.2))))
noncomputable def Mo_hasOpenSum_L2 (waiting_m : Int32) (waitsAt_m : Nat → Int32) : Int32 → Option ((Int32) ⊕ (Unit) ⊕ (Unit)) := fun s2 =>
  if s2 < waiting_m then (gd (ix s2 260) (if ((waitsAt_m (s2 : Int32).toNatClampNeg) / 1048576) = 14 then (some (.inr (.inl ()))) else (some (.inl (s2 + 1))))) else (some (.inr (.inr ())))
noncomputable def Mo_hasOpenSum (waiting_m : Int32) (waitsAt_m : Nat → Int32) (a1 : Int32) : Option (Int32) :=
  ob (lp (Mo_hasOpenSum_L2 waiting_m waitsAt_m) a1) fun x1 =>
  sm x1 (fun x1 => some 1) (fun x1 => some 0)
noncomputable def Mo_readsSum_L14_J163 (v1 : Int32) (tape_m : Nat → Int32) (place0_m : Int32) (length0_m : Int32) (fault_m : Int32) (number0_m : Int32) (open_m : Int32) (codeMany_m : Int32) (waiting_m : Int32) (said_m : Nat → Int32) (waitsAt_m : Nat → Int32) : Option ((Int32 × Int32 × Int32 × Int32 × Int32 × Int32 × (Nat → Int32) × (Nat → Int32)) ⊕ (Int32 × Int32 × Int32 × Int32 × Int32 × Int32 × (Nat → Int32) × (Nat → Int32)) ⊕ (Int32 × Int32 × Int32 × Int32 × Int32 × Int32 × (Nat → Int32) × (Nat → Int32))) :=
  some (.inl (place0_m, fault_m, number0_m, open_m, codeMany_m, waiting_m, said_m, waitsAt_m))
noncomputable def Mo_readsSum_L14_J38 (v1 : Int32) (v2 : Int32) (k0 : Int32) (tape_m : Nat → Int32) (place0_m : Int32) (length0_m : Int32) (fault_m : Int32) (number0_m : Int32) (open_m : Int32) (codeMany_m : Int32) (waiting_m : Int32) (said_m : Nat → Int32) (waitsAt_m : Nat → Int32) : Option ((Int32 × Int32 × Int32 × Int32 × Int32 × Int32 × (Nat → Int32) × (Nat → Int32)) ⊕ (Int32 × Int32 × Int32 × Int32 × Int32 × Int32 × (Nat → Int32) × (Nat → Int32)) ⊕ (Int32 × Int32 × Int32 × Int32 × Int32 × Int32 × (Nat → Int32) × (Nat → Int32))) :=
  ob (Mo_closesSums codeMany_m waiting_m said_m waitsAt_m k0) fun x1 =>
  gd (ix x1.2.1 260) (ob (Mo_readsFactor tape_m (place0_m + 1) length0_m fault_m number0_m open_m x1.1 (x1.2.1 + 1) x1.2.2 (upd waitsAt_m (x1.2.1 : Int32).toNatClampNeg (1048576 * v2))) fun x3 =>
  if x3.1 = 0 then (some (.inr (.inl (x3.2.1, x3.2.2.1, x3.2.2.2.1, x3.2.2.2.2.1, x3.2.2.2.2.2.1, x3.2.2.2.2.2.2.1, x3.2.2.2.2.2.2.2.1, x3.2.2.2.2.2.2.2.2)))) else (Mo_readsSum_L14_J163 v1 tape_m x3.2.1 length0_m x3.2.2.1 x3.2.2.2.1 x3.2.2.2.2.1 x3.2.2.2.2.2.1 x3.2.2.2.2.2.2.1 x3.2.2.2.2.2.2.2.1 x3.2.2.2.2.2.2.2.2))
noncomputable def Mo_readsSum_L14 (v1 : Int32) (tape_m : Nat → Int32) (length0_m : Int32) : (Int32 × Int32 × Int32 × Int32 × Int32 × Int32 × (Nat → Int32) × (Nat → Int32)) → Option ((Int32 × Int32 × Int32 × Int32 × Int32 × Int32 × (Nat → Int32) × (Nat → Int32)) ⊕ (Int32 × Int32 × Int32 × Int32 × Int32 × Int32 × (Nat → Int32) × (Nat → Int32)) ⊕ (Int32 × Int32 × Int32 × Int32 × Int32 × Int32 × (Nat → Int32) × (Nat → Int32))) := fun s14 =>
  ob (Mo_here tape_m s14.1 length0_m) fun x1 =>
  ob (Mo_sumSign x1) fun x2 =>
  if x2 = (-1) then (ob (Mo_here tape_m s14.1 length0_m) fun x3 =>
  if x3 = 93 then (ob (Mo_hasOpenSum s14.2.2.2.2.2.1 s14.2.2.2.2.2.2.2 v1) fun x4 =>
  if x4 = 0 then (some (.inr (.inr (s14.1, s14.2.1, s14.2.2.1, s14.2.2.2.1, s14.2.2.2.2.1, s14.2.2.2.2.2.1, s14.2.2.2.2.2.2.1, s14.2.2.2.2.2.2.2)))) else (ob (Mo_closesSums s14.2.2.2.2.1 s14.2.2.2.2.2.1 s14.2.2.2.2.2.2.1 s14.2.2.2.2.2.2.2 1) fun x5 =>
  Mo_readsSum_L14_J163 v1 tape_m (s14.1 + 1) length0_m s14.2.1 s14.2.2.1 (s14.2.2.2.1 - 1) x5.1 (x5.2.1 - 1) x5.2.2 s14.2.2.2.2.2.2.2)) else (some (.inr (.inr (s14.1, s14.2.1, s14.2.2.1, s14.2.2.2.1, s14.2.2.2.2.1, s14.2.2.2.2.2.1, s14.2.2.2.2.2.2.1, s14.2.2.2.2.2.2.2))))) else (if x2 < 4 then (Mo_readsSum_L14_J38 v1 x2 1 tape_m s14.1 length0_m s14.2.1 s14.2.2.1 s14.2.2.2.1 s14.2.2.2.2.1 s14.2.2.2.2.2.1 s14.2.2.2.2.2.2.1 s14.2.2.2.2.2.2.2) else (Mo_readsSum_L14_J38 v1 x2 0 tape_m s14.1 length0_m s14.2.1 s14.2.2.1 s14.2.2.2.1 s14.2.2.2.2.1 s14.2.2.2.2.2.1 s14.2.2.2.2.2.2.1 s14.2.2.2.2.2.2.2))
noncomputable def Mo_readsSum_J138 (v1 : Int32) (tape_m : Nat → Int32) (place0_m : Int32) (length0_m : Int32) (fault_m : Int32) (number0_m : Int32) (open_m : Int32) (codeMany_m : Int32) (waiting_m : Int32) (said_m : Nat → Int32) (waitsAt_m : Nat → Int32) : Option (Int32 × Int32 × Int32 × Int32 × Int32 × Int32 × Int32 × (Nat → Int32) × (Nat → Int32)) :=
  ob (Mo_hasOpenSum waiting_m waitsAt_m v1) fun x1 =>
  if x1 = 0 then (ob (Mo_closesSums codeMany_m waiting_m said_m waitsAt_m 1) fun x2 =>
  some (1, place0_m, fault_m, number0_m, open_m, x2.1, x2.2.1, x2.2.2, waitsAt_m)) else (ob (Mo_wrongAt fault_m 1 place0_m) fun x3 =>
  gd (isB x3.1) (some (x3.1, place0_m, x3.2, number0_m, open_m, codeMany_m, waiting_m, said_m, waitsAt_m)))
noncomputable def Mo_readsSum (tape_m : Nat → Int32) (place0_m : Int32) (length0_m : Int32) (fault_m : Int32) (number0_m : Int32) (open_m : Int32) (codeMany_m : Int32) (waiting_m : Int32) (said_m : Nat → Int32) (waitsAt_m : Nat → Int32) : Option (Int32 × Int32 × Int32 × Int32 × Int32 × Int32 × Int32 × (Nat → Int32) × (Nat → Int32)) :=
  ob (Mo_readsFactor tape_m place0_m length0_m fault_m number0_m open_m codeMany_m waiting_m said_m waitsAt_m) fun x1 =>
  if x1.1 = 0 then (some (0, x1.2.1, x1.2.2.1, x1.2.2.2.1, x1.2.2.2.2.1, x1.2.2.2.2.2.1, x1.2.2.2.2.2.2.1, x1.2.2.2.2.2.2.2.1, x1.2.2.2.2.2.2.2.2)) else (ob (lp (Mo_readsSum_L14 waiting_m tape_m length0_m) (x1.2.1, x1.2.2.1, x1.2.2.2.1, x1.2.2.2.2.1, x1.2.2.2.2.2.1, x1.2.2.2.2.2.2.1, x1.2.2.2.2.2.2.2.1, x1.2.2.2.2.2.2.2.2)) fun x2 =>
  sm x2 (fun x2 => some (0, x2.1, x2.2.1, x2.2.2.1, x2.2.2.2.1, x2.2.2.2.2.1, x2.2.2.2.2.2.1, x2.2.2.2.2.2.2.1, x2.2.2.2.2.2.2.2)) (fun x2 => Mo_readsSum_J138 waiting_m tape_m x2.1 length0_m x2.2.1 x2.2.2.1 x2.2.2.2.1 x2.2.2.2.2.1 x2.2.2.2.2.2.1 x2.2.2.2.2.2.2.1 x2.2.2.2.2.2.2.2))
noncomputable def Mo_endsPiece_L0 (waitsAt_m : Nat → Int32) : (Int32 × Int32 × Int32 × (Nat → Int32)) → Option ((Int32 × Int32 × Int32 × (Nat → Int32)) ⊕ (Int32 × Int32 × Int32 × (Nat → Int32))) := fun s0 =>
  ob (Mo_waitTop s0.2.2.1 waitsAt_m) fun x1 =>
  if x1 = 10 then (ob (Mo_notes s0.2.1 s0.2.2.2 10 0) fun x2 =>
  some (.inl (s0.1 - 1, x2.1, s0.2.2.1 - 1, x2.2))) else (some (.inr (s0.1, s0.2.1, s0.2.2.1, s0.2.2.2)))
noncomputable def Mo_endsPiece (open_m : Int32) (codeMany_m : Int32) (waiting_m : Int32) (said_m : Nat → Int32) (waitsAt_m : Nat → Int32) : Option (Int32 × Int32 × Int32 × (Nat → Int32)) :=
  ob (lp (Mo_endsPiece_L0 waitsAt_m) (open_m, codeMany_m, waiting_m, said_m)) fun x1 =>
  some (x1.1, x1.2.1, x1.2.2.1, x1.2.2.2)
noncomputable def Mo_lands_L0_J22 (v1 : Int32) (codeMany_m : Int32) (waiting_m : Int32) (said_m : Nat → Int32) (waitsAt_m : Nat → Int32) : Option ((Int32 × (Nat → Int32)) ⊕ (Int32 × (Nat → Int32))) :=
  gd (ix (waiting_m - 1) 260) (gd (ix ((waitsAt_m (waiting_m - 1 : Int32).toNatClampNeg) % 1048576) 260) (gd (ix ((waitsAt_m (waiting_m - 1 : Int32).toNatClampNeg) % 1048576) 260) (some (.inl (waiting_m - 1, upd said_m ((waitsAt_m (waiting_m - 1 : Int32).toNatClampNeg) % 1048576 : Int32).toNatClampNeg ((1048576 * ((said_m ((waitsAt_m (waiting_m - 1 : Int32).toNatClampNeg) % 1048576 : Int32).toNatClampNeg) / 1048576)) + codeMany_m))))))
noncomputable def Mo_lands_L0 (v1 : Int32) (codeMany_m : Int32) (waitsAt_m : Nat → Int32) : (Int32 × (Nat → Int32)) → Option ((Int32 × (Nat → Int32)) ⊕ (Int32 × (Nat → Int32))) := fun s0 =>
  ob (Mo_waitTop s0.1 waitsAt_m) fun x1 =>
  if x1 = 11 then (Mo_lands_L0_J22 v1 codeMany_m s0.1 s0.2 waitsAt_m) else (if v1 = 0 then (some (.inr (s0.1, s0.2))) else (ob (Mo_waitTop s0.1 waitsAt_m) fun x2 =>
  if x2 = 12 then (Mo_lands_L0_J22 v1 codeMany_m s0.1 s0.2 waitsAt_m) else (some (.inr (s0.1, s0.2)))))
noncomputable def Mo_lands (codeMany_m : Int32) (waiting_m : Int32) (said_m : Nat → Int32) (waitsAt_m : Nat → Int32) (a1 : Int32) : Option (Int32 × (Nat → Int32)) :=
  ob (lp (Mo_lands_L0 a1 codeMany_m waitsAt_m) (waiting_m, said_m)) fun x1 =>
  some (x1.1, x1.2)
noncomputable def Mo_jumps (place0_m : Int32) (codeMany_m : Int32) (waiting_m : Int32) (said_m : Nat → Int32) (waitsAt_m : Nat → Int32) (a1 : Int32) : Option (Int32 × Int32 × Int32 × (Nat → Int32) × (Nat → Int32)) :=
  gd (ix waiting_m 260) (ob (Mo_notes codeMany_m said_m a1 0) fun x2 =>
  some (place0_m + 1, x2.1, waiting_m + 1, x2.2, upd waitsAt_m (waiting_m : Int32).toNatClampNeg ((1048576 * a1) + codeMany_m)))
noncomputable def Mo_readsCompared_J52 (k0 : Int32) (tape_m : Nat → Int32) (place0_m : Int32) (length0_m : Int32) (fault_m : Int32) (number0_m : Int32) (open_m : Int32) (codeMany_m : Int32) (waiting_m : Int32) (said_m : Nat → Int32) (waitsAt_m : Nat → Int32) : Option (Int32 × Int32 × Int32 × Int32 × Int32 × Int32 × Int32 × (Nat → Int32) × (Nat → Int32)) :=
  if k0 = (-1) then (ob (Mo_wrongAt fault_m 1 place0_m) fun x1 =>
  gd (isB x1.1) (some (x1.1, place0_m, x1.2, number0_m, open_m, codeMany_m, waiting_m, said_m, waitsAt_m))) else (ob (Mo_readsSum tape_m (place0_m + 1) length0_m fault_m number0_m open_m codeMany_m waiting_m said_m waitsAt_m) fun x3 =>
  if x3.1 = 0 then (some (0, x3.2.1, x3.2.2.1, x3.2.2.2.1, x3.2.2.2.2.1, x3.2.2.2.2.2.1, x3.2.2.2.2.2.2.1, x3.2.2.2.2.2.2.2.1, x3.2.2.2.2.2.2.2.2)) else (ob (Mo_notes x3.2.2.2.2.2.1 x3.2.2.2.2.2.2.2.1 k0 0) fun x4 =>
  ob (Mo_endsPiece x3.2.2.2.2.1 x4.1 x3.2.2.2.2.2.2.1 x4.2 x3.2.2.2.2.2.2.2.2) fun x5 =>
  some (1, x3.2.1, x3.2.2.1, x3.2.2.2.1, x5.1, x5.2.1, x5.2.2.1, x5.2.2.2, x3.2.2.2.2.2.2.2.2)))
noncomputable def Mo_readsCompared (tape_m : Nat → Int32) (place0_m : Int32) (length0_m : Int32) (fault_m : Int32) (number0_m : Int32) (open_m : Int32) (codeMany_m : Int32) (waiting_m : Int32) (said_m : Nat → Int32) (waitsAt_m : Nat → Int32) : Option (Int32 × Int32 × Int32 × Int32 × Int32 × Int32 × Int32 × (Nat → Int32) × (Nat → Int32)) :=
  ob (Mo_readsSum tape_m place0_m length0_m fault_m number0_m open_m codeMany_m waiting_m said_m waitsAt_m) fun x1 =>
  if x1.1 = 0 then (some (0, x1.2.1, x1.2.2.1, x1.2.2.2.1, x1.2.2.2.2.1, x1.2.2.2.2.2.1, x1.2.2.2.2.2.2.1, x1.2.2.2.2.2.2.2.1, x1.2.2.2.2.2.2.2.2)) else (ob (Mo_here tape_m x1.2.1 length0_m) fun x2 =>
  if x2 = 60 then (Mo_readsCompared_J52 7 tape_m x1.2.1 length0_m x1.2.2.1 x1.2.2.2.1 x1.2.2.2.2.1 x1.2.2.2.2.2.1 x1.2.2.2.2.2.2.1 x1.2.2.2.2.2.2.2.1 x1.2.2.2.2.2.2.2.2) else (ob (Mo_here tape_m x1.2.1 length0_m) fun x3 =>
  if x3 = 62 then (Mo_readsCompared_J52 8 tape_m x1.2.1 length0_m x1.2.2.1 x1.2.2.2.1 x1.2.2.2.2.1 x1.2.2.2.2.2.1 x1.2.2.2.2.2.2.1 x1.2.2.2.2.2.2.2.1 x1.2.2.2.2.2.2.2.2) else (ob (Mo_here tape_m x1.2.1 length0_m) fun x4 =>
  if x4 = 61 then (Mo_readsCompared_J52 9 tape_m x1.2.1 length0_m x1.2.2.1 x1.2.2.2.1 x1.2.2.2.2.1 x1.2.2.2.2.2.1 x1.2.2.2.2.2.2.1 x1.2.2.2.2.2.2.2.1 x1.2.2.2.2.2.2.2.2) else (Mo_readsCompared_J52 (-1) tape_m x1.2.1 length0_m x1.2.2.1 x1.2.2.2.1 x1.2.2.2.2.1 x1.2.2.2.2.2.1 x1.2.2.2.2.2.2.1 x1.2.2.2.2.2.2.2.1 x1.2.2.2.2.2.2.2.2))))
noncomputable def Mo_readsCondition_L92 (tape_m : Nat → Int32) (length0_m : Int32) (waitsAt_m : Nat → Int32) : (Int32 × Int32 × Int32 × Int32 × (Nat → Int32)) → Option ((Int32 × Int32 × Int32 × Int32 × (Nat → Int32)) ⊕ (Int32 × Int32 × Int32 × Int32 × (Nat → Int32)) ⊕ (Int32 × Int32 × Int32 × Int32 × (Nat → Int32))) := fun s92 =>
  ob (Mo_here tape_m s92.1 length0_m) fun x1 =>
  if x1 = 41 then (ob (Mo_lands s92.2.2.1 s92.2.2.2.1 s92.2.2.2.2 waitsAt_m 1) fun x2 =>
  if (x2.1 - 1) = 0 then (some (.inr (.inl (s92.1 + 1, s92.2.1 - 1, s92.2.2.1, x2.1 - 1, x2.2)))) else (ob (Mo_endsPiece (s92.2.1 - 1) s92.2.2.1 (x2.1 - 1) x2.2 waitsAt_m) fun x3 =>
  some (.inl (s92.1 + 1, x3.1, x3.2.1, x3.2.2.1, x3.2.2.2)))) else (some (.inr (.inr (s92.1, s92.2.1, s92.2.2.1, s92.2.2.2.1, s92.2.2.2.2))))
noncomputable def Mo_readsCondition_L40_J75 (k0 : Int32) (tape_m : Nat → Int32) (place0_m : Int32) (length0_m : Int32) (fault_m : Int32) (number0_m : Int32) (open_m : Int32) (codeMany_m : Int32) (waiting_m : Int32) (said_m : Nat → Int32) (waitsAt_m : Nat → Int32) : Option ((Int32 × Int32 × Int32 × Int32 × Int32 × Int32 × (Nat → Int32) × (Nat → Int32)) ⊕ (Int32 × Int32 × Int32 × Int32 × Int32 × Int32 × (Nat → Int32) × (Nat → Int32)) ⊕ (Int32 × Int32 × Int32 × Int32 × Int32 × Int32 × (Nat → Int32) × (Nat → Int32)) ⊕ (Int32 × Int32 × Int32 × Int32 × Int32 × Int32 × (Nat → Int32) × (Nat → Int32)) ⊕ (Int32 × Int32 × Int32 × Int32 × Int32 × Int32 × (Nat → Int32) × (Nat → Int32))) :=
  ob (Mo_opens place0_m fault_m open_m waiting_m waitsAt_m k0) fun x1 =>
  if x1.1 = 0 then (some (.inr (.inl (x1.2.1, x1.2.2.1, number0_m, x1.2.2.2.1, codeMany_m, x1.2.2.2.2.1, said_m, x1.2.2.2.2.2)))) else (some (.inl (x1.2.1, x1.2.2.1, number0_m, x1.2.2.2.1, codeMany_m, x1.2.2.2.2.1, said_m, x1.2.2.2.2.2)))
noncomputable def Mo_readsCondition_L40_J58 (tape_m : Nat → Int32) (place0_m : Int32) (length0_m : Int32) (fault_m : Int32) (number0_m : Int32) (open_m : Int32) (codeMany_m : Int32) (waiting_m : Int32) (said_m : Nat → Int32) (waitsAt_m : Nat → Int32) : Option ((Int32 × Int32 × Int32 × Int32 × Int32 × Int32 × (Nat → Int32) × (Nat → Int32)) ⊕ (Int32 × Int32 × Int32 × Int32 × Int32 × Int32 × (Nat → Int32) × (Nat → Int32)) ⊕ (Int32 × Int32 × Int32 × Int32 × Int32 × Int32 × (Nat → Int32) × (Nat → Int32)) ⊕ (Int32 × Int32 × Int32 × Int32 × Int32 × Int32 × (Nat → Int32) × (Nat → Int32)) ⊕ (Int32 × Int32 × Int32 × Int32 × Int32 × Int32 × (Nat → Int32) × (Nat → Int32))) :=
  ob (Mo_here tape_m place0_m length0_m) fun x1 =>
  if x1 = 33 then (Mo_readsCondition_L40_J75 10 tape_m place0_m length0_m fault_m number0_m open_m codeMany_m waiting_m said_m waitsAt_m) else (Mo_readsCondition_L40_J75 13 tape_m place0_m length0_m fault_m number0_m open_m codeMany_m waiting_m said_m waitsAt_m)
noncomputable def Mo_readsCondition_L40_J215 (k0 : Int32) (tape_m : Nat → Int32) (place0_m : Int32) (length0_m : Int32) (fault_m : Int32) (number0_m : Int32) (open_m : Int32) (codeMany_m : Int32) (waiting_m : Int32) (said_m : Nat → Int32) (waitsAt_m : Nat → Int32) : Option ((Int32 × Int32 × Int32 × Int32 × Int32 × Int32 × (Nat → Int32) × (Nat → Int32)) ⊕ (Int32 × Int32 × Int32 × Int32 × Int32 × Int32 × (Nat → Int32) × (Nat → Int32)) ⊕ (Int32 × Int32 × Int32 × Int32 × Int32 × Int32 × (Nat → Int32) × (Nat → Int32)) ⊕ (Int32 × Int32 × Int32 × Int32 × Int32 × Int32 × (Nat → Int32) × (Nat → Int32)) ⊕ (Int32 × Int32 × Int32 × Int32 × Int32 × Int32 × (Nat → Int32) × (Nat → Int32))) :=
  ob (Mo_jumps place0_m codeMany_m waiting_m said_m waitsAt_m k0) fun x1 =>
  some (.inl (x1.1, fault_m, number0_m, open_m, x1.2.1, x1.2.2.1, x1.2.2.2.1, x1.2.2.2.2))
noncomputable def Mo_readsCondition_L40_J195 (k0 : Int32) (tape_m : Nat → Int32) (place0_m : Int32) (length0_m : Int32) (fault_m : Int32) (number0_m : Int32) (open_m : Int32) (codeMany_m : Int32) (waiting_m : Int32) (said_m : Nat → Int32) (waitsAt_m : Nat → Int32) : Option ((Int32 × Int32 × Int32 × Int32 × Int32 × Int32 × (Nat → Int32) × (Nat → Int32)) ⊕ (Int32 × Int32 × Int32 × Int32 × Int32 × Int32 × (Nat → Int32) × (Nat → Int32)) ⊕ (Int32 × Int32 × Int32 × Int32 × Int32 × Int32 × (Nat → Int32) × (Nat → Int32)) ⊕ (Int32 × Int32 × Int32 × Int32 × Int32 × Int32 × (Nat → Int32) × (Nat → Int32)) ⊕ (Int32 × Int32 × Int32 × Int32 × Int32 × Int32 × (Nat → Int32) × (Nat → Int32))) :=
  ob (Mo_lands codeMany_m waiting_m said_m waitsAt_m k0) fun x1 =>
  ob (Mo_here tape_m place0_m length0_m) fun x2 =>
  if x2 = 38 then (Mo_readsCondition_L40_J215 11 tape_m place0_m length0_m fault_m number0_m open_m codeMany_m x1.1 x1.2 waitsAt_m) else (Mo_readsCondition_L40_J215 12 tape_m place0_m length0_m fault_m number0_m open_m codeMany_m x1.1 x1.2 waitsAt_m)
noncomputable def Mo_readsCondition_L40_J180 (tape_m : Nat → Int32) (place0_m : Int32) (length0_m : Int32) (fault_m : Int32) (number0_m : Int32) (open_m : Int32) (codeMany_m : Int32) (waiting_m : Int32) (said_m : Nat → Int32) (waitsAt_m : Nat → Int32) : Option ((Int32 × Int32 × Int32 × Int32 × Int32 × Int32 × (Nat → Int32) × (Nat → Int32)) ⊕ (Int32 × Int32 × Int32 × Int32 × Int32 × Int32 × (Nat → Int32) × (Nat → Int32)) ⊕ (Int32 × Int32 × Int32 × Int32 × Int32 × Int32 × (Nat → Int32) × (Nat → Int32)) ⊕ (Int32 × Int32 × Int32 × Int32 × Int32 × Int32 × (Nat → Int32) × (Nat → Int32)) ⊕ (Int32 × Int32 × Int32 × Int32 × Int32 × Int32 × (Nat → Int32) × (Nat → Int32))) :=
  ob (Mo_here tape_m place0_m length0_m) fun x1 =>
  if x1 = 124 then (Mo_readsCondition_L40_J195 1 tape_m place0_m length0_m fault_m number0_m open_m codeMany_m waiting_m said_m waitsAt_m) else (Mo_readsCondition_L40_J195 0 tape_m place0_m length0_m fault_m number0_m open_m codeMany_m waiting_m said_m waitsAt_m)
noncomputable def Mo_readsCondition_L40 (tape_m : Nat → Int32) (length0_m : Int32) : (Int32 × Int32 × Int32 × Int32 × Int32 × Int32 × (Nat → Int32) × (Nat → Int32)) → Option ((Int32 × Int32 × Int32 × Int32 × Int32 × Int32 × (Nat → Int32) × (Nat → Int32)) ⊕ (Int32 × Int32 × Int32 × Int32 × Int32 × Int32 × (Nat → Int32) × (Nat → Int32)) ⊕ (Int32 × Int32 × Int32 × Int32 × Int32 × Int32 × (Nat → Int32) × (Nat → Int32)) ⊕ (Int32 × Int32 × Int32 × Int32 × Int32 × Int32 × (Nat → Int32) × (Nat → Int32)) ⊕ (Int32 × Int32 × Int32 × Int32 × Int32 × Int32 × (Nat → Int32) × (Nat → Int32))) := fun s40 =>
  ob (Mo_here tape_m s40.1 length0_m) fun x1 =>
  if x1 = 33 then (Mo_readsCondition_L40_J58 tape_m s40.1 length0_m s40.2.1 s40.2.2.1 s40.2.2.2.1 s40.2.2.2.2.1 s40.2.2.2.2.2.1 s40.2.2.2.2.2.2.1 s40.2.2.2.2.2.2.2) else (ob (Mo_here tape_m s40.1 length0_m) fun x2 =>
  if x2 = 40 then (Mo_readsCondition_L40_J58 tape_m s40.1 length0_m s40.2.1 s40.2.2.1 s40.2.2.2.1 s40.2.2.2.2.1 s40.2.2.2.2.2.1 s40.2.2.2.2.2.2.1 s40.2.2.2.2.2.2.2) else (ob (Mo_readsCompared tape_m s40.1 length0_m s40.2.1 s40.2.2.1 s40.2.2.2.1 s40.2.2.2.2.1 s40.2.2.2.2.2.1 s40.2.2.2.2.2.2.1 s40.2.2.2.2.2.2.2) fun x3 =>
  if x3.1 = 0 then (some (.inr (.inr (.inl (x3.2.1, x3.2.2.1, x3.2.2.2.1, x3.2.2.2.2.1, x3.2.2.2.2.2.1, x3.2.2.2.2.2.2.1, x3.2.2.2.2.2.2.2.1, x3.2.2.2.2.2.2.2.2))))) else (ob (lp (Mo_readsCondition_L92 tape_m length0_m x3.2.2.2.2.2.2.2.2) (x3.2.1, x3.2.2.2.2.1, x3.2.2.2.2.2.1, x3.2.2.2.2.2.2.1, x3.2.2.2.2.2.2.2.1)) fun x4 =>
  sm x4 (fun x4 => some (.inr (.inr (.inr (.inl (x4.1, x3.2.2.1, x3.2.2.2.1, x4.2.1, x4.2.2.1, x4.2.2.2.1, x4.2.2.2.2, x3.2.2.2.2.2.2.2.2)))))) (fun x4 => ob (Mo_here tape_m x4.1 length0_m) fun x5 =>
  if x5 = 38 then (Mo_readsCondition_L40_J180 tape_m x4.1 length0_m x3.2.2.1 x3.2.2.2.1 x4.2.1 x4.2.2.1 x4.2.2.2.1 x4.2.2.2.2 x3.2.2.2.2.2.2.2.2) else (ob (Mo_here tape_m x4.1 length0_m) fun x6 =>
  if x6 = 124 then (Mo_readsCondition_L40_J180 tape_m x4.1 length0_m x3.2.2.1 x3.2.2.2.1 x4.2.1 x4.2.2.1 x4.2.2.2.1 x4.2.2.2.2 x3.2.2.2.2.2.2.2.2) else (some (.inr (.inr (.inr (.inr (x4.1, x3.2.2.1, x3.2.2.2.1, x4.2.1, x4.2.2.1, x4.2.2.2.1, x4.2.2.2.2, x3.2.2.2.2.2.2.2.2)))))))))))
noncomputable def Mo_readsCondition (tape_m : Nat → Int32) (place0_m : Int32) (length0_m : Int32) (fault_m : Int32) (number0_m : Int32) (open_m : Int32) (codeMany_m : Int32) (waiting_m : Int32) (said_m : Nat → Int32) (waitsAt_m : Nat → Int32) : Option (Int32 × Int32 × Int32 × Int32 × Int32 × Int32 × Int32 × (Nat → Int32) × (Nat → Int32)) :=
  ob (Mo_here tape_m place0_m length0_m) fun x1 =>
  if x1 = 40 then (ob (Mo_opens place0_m fault_m 0 0 waitsAt_m 13) fun x2 =>
  if x2.1 = 0 then (some (0, x2.2.1, x2.2.2.1, number0_m, x2.2.2.2.1, codeMany_m, x2.2.2.2.2.1, said_m, x2.2.2.2.2.2)) else (ob (lp (Mo_readsCondition_L40 tape_m length0_m) (x2.2.1, x2.2.2.1, number0_m, x2.2.2.2.1, codeMany_m, x2.2.2.2.2.1, said_m, x2.2.2.2.2.2)) fun x3 =>
  sm x3 (fun x3 => some (0, x3.1, x3.2.1, x3.2.2.1, x3.2.2.2.1, x3.2.2.2.2.1, x3.2.2.2.2.2.1, x3.2.2.2.2.2.2.1, x3.2.2.2.2.2.2.2)) (fun x3 => sm x3 (fun x3 => some (0, x3.1, x3.2.1, x3.2.2.1, x3.2.2.2.1, x3.2.2.2.2.1, x3.2.2.2.2.2.1, x3.2.2.2.2.2.2.1, x3.2.2.2.2.2.2.2)) (fun x3 => sm x3 (fun x3 => some (1, x3.1, x3.2.1, x3.2.2.1, x3.2.2.2.1, x3.2.2.2.2.1, x3.2.2.2.2.2.1, x3.2.2.2.2.2.2.1, x3.2.2.2.2.2.2.2)) (fun x3 => ob (Mo_wrongAt x3.2.1 1 x3.1) fun x4 =>
  gd (isB x4.1) (some (x4.1, x3.1, x4.2, x3.2.2.1, x3.2.2.2.1, x3.2.2.2.2.1, x3.2.2.2.2.2.1, x3.2.2.2.2.2.2.1, x3.2.2.2.2.2.2.2))))))) else (ob (Mo_wrongAt fault_m 1 place0_m) fun x7 =>
  gd (isB x7.1) (some (x7.1, place0_m, x7.2, number0_m, open_m, codeMany_m, waiting_m, said_m, waitsAt_m)))
noncomputable def Mo_readsRule_J116 (tape_m : Nat → Int32) (place0_m : Int32) (length0_m : Int32) (fault_m : Int32) (number0_m : Int32) (open_m : Int32) (codeMany_m : Int32) (waiting_m : Int32) (saidMany_m : Int32) (said_m : Nat → Int32) (waitsAt_m : Nat → Int32) (saidLetter_m : Nat → Int32) (saidFrom_m : Nat → Int32) (saidHalf_m : Nat → Int32) (saidTo_m : Nat → Int32) : Option (Int32 × Int32 × Int32 × Int32 × Int32 × Int32 × Int32 × Int32 × (Nat → Int32) × (Nat → Int32) × (Nat → Int32) × (Nat → Int32) × (Nat → Int32) × (Nat → Int32)) :=
  gd (ix saidMany_m 16) (ob (Mo_readsCondition tape_m place0_m length0_m fault_m number0_m open_m codeMany_m waiting_m said_m waitsAt_m) fun x2 =>
  if x2.1 = 0 then (some (0, x2.2.1, x2.2.2.1, x2.2.2.2.1, x2.2.2.2.2.1, x2.2.2.2.2.2.1, x2.2.2.2.2.2.2.1, saidMany_m, x2.2.2.2.2.2.2.2.1, x2.2.2.2.2.2.2.2.2, saidLetter_m, saidFrom_m, upd saidHalf_m (saidMany_m : Int32).toNatClampNeg codeMany_m, saidTo_m)) else (gd (ix saidMany_m 16) (some (1, x2.2.1, x2.2.2.1, x2.2.2.2.1, x2.2.2.2.2.1, x2.2.2.2.2.2.1, x2.2.2.2.2.2.2.1, saidMany_m + 1, x2.2.2.2.2.2.2.2.1, x2.2.2.2.2.2.2.2.2, saidLetter_m, saidFrom_m, upd saidHalf_m (saidMany_m : Int32).toNatClampNeg codeMany_m, upd saidTo_m (saidMany_m : Int32).toNatClampNeg x2.2.2.2.2.2.1))))
noncomputable def Mo_readsRule_J39 (v1 : Int32) (tape_m : Nat → Int32) (place0_m : Int32) (length0_m : Int32) (fault_m : Int32) (number0_m : Int32) (open_m : Int32) (codeMany_m : Int32) (waiting_m : Int32) (saidMany_m : Int32) (said_m : Nat → Int32) (waitsAt_m : Nat → Int32) (saidLetter_m : Nat → Int32) (saidFrom_m : Nat → Int32) (saidHalf_m : Nat → Int32) (saidTo_m : Nat → Int32) : Option (Int32 × Int32 × Int32 × Int32 × Int32 × Int32 × Int32 × Int32 × (Nat → Int32) × (Nat → Int32) × (Nat → Int32) × (Nat → Int32) × (Nat → Int32) × (Nat → Int32)) :=
  if saidMany_m = 16 then (ob (Mo_wrongAt fault_m 4 place0_m) fun x1 =>
  gd (isB x1.1) (some (x1.1, place0_m, x1.2, number0_m, open_m, codeMany_m, waiting_m, saidMany_m, said_m, waitsAt_m, saidLetter_m, saidFrom_m, saidHalf_m, saidTo_m))) else (gd (ix saidMany_m 16) (gd (ix saidMany_m 16) (if v1 = 120 then (Mo_readsRule_J116 tape_m (place0_m + 1) length0_m fault_m number0_m 0 codeMany_m 0 saidMany_m said_m waitsAt_m (upd saidLetter_m (saidMany_m : Int32).toNatClampNeg v1) (upd saidFrom_m (saidMany_m : Int32).toNatClampNeg codeMany_m) saidHalf_m saidTo_m) else (ob (Mo_readsSum tape_m (place0_m + 1) length0_m fault_m number0_m 0 codeMany_m 0 said_m waitsAt_m) fun x5 =>
  if x5.1 = 0 then (some (0, x5.2.1, x5.2.2.1, x5.2.2.2.1, x5.2.2.2.2.1, x5.2.2.2.2.2.1, x5.2.2.2.2.2.2.1, saidMany_m, x5.2.2.2.2.2.2.2.1, x5.2.2.2.2.2.2.2.2, upd saidLetter_m (saidMany_m : Int32).toNatClampNeg v1, upd saidFrom_m (saidMany_m : Int32).toNatClampNeg codeMany_m, saidHalf_m, saidTo_m)) else (Mo_readsRule_J116 tape_m x5.2.1 length0_m x5.2.2.1 x5.2.2.2.1 x5.2.2.2.2.1 x5.2.2.2.2.2.1 x5.2.2.2.2.2.2.1 saidMany_m x5.2.2.2.2.2.2.2.1 x5.2.2.2.2.2.2.2.2 (upd saidLetter_m (saidMany_m : Int32).toNatClampNeg v1) (upd saidFrom_m (saidMany_m : Int32).toNatClampNeg codeMany_m) saidHalf_m saidTo_m)))))
noncomputable def Mo_readsRule (tape_m : Nat → Int32) (place0_m : Int32) (length0_m : Int32) (fault_m : Int32) (number0_m : Int32) (open_m : Int32) (codeMany_m : Int32) (waiting_m : Int32) (saidMany_m : Int32) (said_m : Nat → Int32) (waitsAt_m : Nat → Int32) (saidLetter_m : Nat → Int32) (saidFrom_m : Nat → Int32) (saidHalf_m : Nat → Int32) (saidTo_m : Nat → Int32) : Option (Int32 × Int32 × Int32 × Int32 × Int32 × Int32 × Int32 × Int32 × (Nat → Int32) × (Nat → Int32) × (Nat → Int32) × (Nat → Int32) × (Nat → Int32) × (Nat → Int32)) :=
  ob (Mo_here tape_m place0_m length0_m) fun x1 =>
  if x1 = 101 then (Mo_readsRule_J39 x1 tape_m place0_m length0_m fault_m number0_m open_m codeMany_m waiting_m saidMany_m said_m waitsAt_m saidLetter_m saidFrom_m saidHalf_m saidTo_m) else (if x1 = 99 then (Mo_readsRule_J39 x1 tape_m place0_m length0_m fault_m number0_m open_m codeMany_m waiting_m saidMany_m said_m waitsAt_m saidLetter_m saidFrom_m saidHalf_m saidTo_m) else (if x1 = 114 then (Mo_readsRule_J39 x1 tape_m place0_m length0_m fault_m number0_m open_m codeMany_m waiting_m saidMany_m said_m waitsAt_m saidLetter_m saidFrom_m saidHalf_m saidTo_m) else (if x1 = 120 then (Mo_readsRule_J39 x1 tape_m place0_m length0_m fault_m number0_m open_m codeMany_m waiting_m saidMany_m said_m waitsAt_m saidLetter_m saidFrom_m saidHalf_m saidTo_m) else (ob (Mo_wrongAt fault_m 1 place0_m) fun x2 =>
  gd (isB x2.1) (some (x2.1, place0_m, x2.2, number0_m, open_m, codeMany_m, waiting_m, saidMany_m, said_m, waitsAt_m, saidLetter_m, saidFrom_m, saidHalf_m, saidTo_m))))))
noncomputable def Mo_beginsText (place0_m : Int32) (length0_m : Int32) (codeMany_m : Int32) (saidMany_m : Int32) (a1 : Int32) : Option (Int32 × Int32 × Int32 × Int32) :=
  some (0, a1, 0, 0)
noncomputable def Mo_law_L95 (codeMany_m : Int32) (said_m : Nat → Int32) : (Int32 × (Nat → Int32)) → Option ((Int32 × (Nat → Int32)) ⊕ (Nat → Int32)) := fun s95 =>
  if s95.1 < codeMany_m then (gd (ix s95.1 260) (gd (ix s95.1 260) (some (.inl (s95.1 + 1, upd s95.2 (s95.1 : Int32).toNatClampNeg (said_m (s95.1 : Int32).toNatClampNeg)))))) else (some (.inr s95.2))
noncomputable def Mo_law_L123 (saidMany_m : Int32) (saidLetter_m : Nat → Int32) (saidFrom_m : Nat → Int32) (saidHalf_m : Nat → Int32) (saidTo_m : Nat → Int32) : (Int32 × (Nat → Int32) × (Nat → Int32) × (Nat → Int32) × (Nat → Int32)) → Option ((Int32 × (Nat → Int32) × (Nat → Int32) × (Nat → Int32) × (Nat → Int32)) ⊕ ((Nat → Int32) × (Nat → Int32) × (Nat → Int32) × (Nat → Int32))) := fun s123 =>
  if s123.1 < saidMany_m then (gd (ix s123.1 16) (gd (ix s123.1 16) (gd (ix s123.1 16) (gd (ix s123.1 16) (gd (ix s123.1 16) (gd (ix s123.1 16) (gd (ix s123.1 16) (gd (ix s123.1 16) (some (.inl (s123.1 + 1, upd s123.2.1 (s123.1 : Int32).toNatClampNeg (saidLetter_m (s123.1 : Int32).toNatClampNeg), upd s123.2.2.1 (s123.1 : Int32).toNatClampNeg (saidFrom_m (s123.1 : Int32).toNatClampNeg), upd s123.2.2.2.1 (s123.1 : Int32).toNatClampNeg (saidHalf_m (s123.1 : Int32).toNatClampNeg), upd s123.2.2.2.2 (s123.1 : Int32).toNatClampNeg (saidTo_m (s123.1 : Int32).toNatClampNeg)))))))))))) else (some (.inr (s123.2.1, s123.2.2.1, s123.2.2.2.1, s123.2.2.2.2)))
noncomputable def Mo_law_L31_J67 (k0 : Int32) (tape_m : Nat → Int32) (place0_m : Int32) (length0_m : Int32) (fault_m : Int32) (number0_m : Int32) (open_m : Int32) (codeMany_m : Int32) (waiting_m : Int32) (saidMany_m : Int32) (said_m : Nat → Int32) (waitsAt_m : Nat → Int32) (saidLetter_m : Nat → Int32) (saidFrom_m : Nat → Int32) (saidHalf_m : Nat → Int32) (saidTo_m : Nat → Int32) : Option ((Int32 × Int32 × Int32 × Int32 × Int32 × Int32 × Int32 × Int32 × (Nat → Int32) × (Nat → Int32) × (Nat → Int32) × (Nat → Int32) × (Nat → Int32) × (Nat → Int32)) ⊕ (Int32 × Int32 × Int32 × Int32 × Int32 × Int32 × Int32 × Int32 × (Nat → Int32) × (Nat → Int32) × (Nat → Int32) × (Nat → Int32) × (Nat → Int32) × (Nat → Int32))) :=
  some (.inl (k0, place0_m, fault_m, number0_m, open_m, codeMany_m, waiting_m, saidMany_m, said_m, waitsAt_m, saidLetter_m, saidFrom_m, saidHalf_m, saidTo_m))
noncomputable def Mo_law_L31_J66 (tape_m : Nat → Int32) (place0_m : Int32) (length0_m : Int32) (fault_m : Int32) (number0_m : Int32) (open_m : Int32) (codeMany_m : Int32) (waiting_m : Int32) (saidMany_m : Int32) (said_m : Nat → Int32) (waitsAt_m : Nat → Int32) (saidLetter_m : Nat → Int32) (saidFrom_m : Nat → Int32) (saidHalf_m : Nat → Int32) (saidTo_m : Nat → Int32) : Option ((Int32 × Int32 × Int32 × Int32 × Int32 × Int32 × Int32 × Int32 × (Nat → Int32) × (Nat → Int32) × (Nat → Int32) × (Nat → Int32) × (Nat → Int32) × (Nat → Int32)) ⊕ (Int32 × Int32 × Int32 × Int32 × Int32 × Int32 × Int32 × Int32 × (Nat → Int32) × (Nat → Int32) × (Nat → Int32) × (Nat → Int32) × (Nat → Int32) × (Nat → Int32))) :=
  Mo_law_L31_J67 0 tape_m place0_m length0_m fault_m number0_m open_m codeMany_m waiting_m saidMany_m said_m waitsAt_m saidLetter_m saidFrom_m saidHalf_m saidTo_m
noncomputable def Mo_law_L31 (tape_m : Nat → Int32) (length0_m : Int32) : (Int32 × Int32 × Int32 × Int32 × Int32 × Int32 × Int32 × Int32 × (Nat → Int32) × (Nat → Int32) × (Nat → Int32) × (Nat → Int32) × (Nat → Int32) × (Nat → Int32)) → Option ((Int32 × Int32 × Int32 × Int32 × Int32 × Int32 × Int32 × Int32 × (Nat → Int32) × (Nat → Int32) × (Nat → Int32) × (Nat → Int32) × (Nat → Int32) × (Nat → Int32)) ⊕ (Int32 × Int32 × Int32 × Int32 × Int32 × Int32 × Int32 × Int32 × (Nat → Int32) × (Nat → Int32) × (Nat → Int32) × (Nat → Int32) × (Nat → Int32) × (Nat → Int32))) := fun s31 =>
  if s31.1 = 0 then (some (.inr (s31.1, s31.2.1, s31.2.2.1, s31.2.2.2.1, s31.2.2.2.2.1, s31.2.2.2.2.2.1, s31.2.2.2.2.2.2.1, s31.2.2.2.2.2.2.2.1, s31.2.2.2.2.2.2.2.2.1, s31.2.2.2.2.2.2.2.2.2.1, s31.2.2.2.2.2.2.2.2.2.2.1, s31.2.2.2.2.2.2.2.2.2.2.2.1, s31.2.2.2.2.2.2.2.2.2.2.2.2.1, s31.2.2.2.2.2.2.2.2.2.2.2.2.2))) else (if s31.2.1 < length0_m then (ob (Mo_takes tape_m s31.2.1 length0_m s31.2.2.1 59) fun x1 =>
  if x1.1 = 0 then (Mo_law_L31_J66 tape_m x1.2.1 length0_m x1.2.2 s31.2.2.2.1 s31.2.2.2.2.1 s31.2.2.2.2.2.1 s31.2.2.2.2.2.2.1 s31.2.2.2.2.2.2.2.1 s31.2.2.2.2.2.2.2.2.1 s31.2.2.2.2.2.2.2.2.2.1 s31.2.2.2.2.2.2.2.2.2.2.1 s31.2.2.2.2.2.2.2.2.2.2.2.1 s31.2.2.2.2.2.2.2.2.2.2.2.2.1 s31.2.2.2.2.2.2.2.2.2.2.2.2.2) else (ob (Mo_readsRule tape_m x1.2.1 length0_m x1.2.2 s31.2.2.2.1 s31.2.2.2.2.1 s31.2.2.2.2.2.1 s31.2.2.2.2.2.2.1 s31.2.2.2.2.2.2.2.1 s31.2.2.2.2.2.2.2.2.1 s31.2.2.2.2.2.2.2.2.2.1 s31.2.2.2.2.2.2.2.2.2.2.1 s31.2.2.2.2.2.2.2.2.2.2.2.1 s31.2.2.2.2.2.2.2.2.2.2.2.2.1 s31.2.2.2.2.2.2.2.2.2.2.2.2.2) fun x2 =>
  if x2.1 = 0 then (Mo_law_L31_J66 tape_m x2.2.1 length0_m x2.2.2.1 x2.2.2.2.1 x2.2.2.2.2.1 x2.2.2.2.2.2.1 x2.2.2.2.2.2.2.1 x2.2.2.2.2.2.2.2.1 x2.2.2.2.2.2.2.2.2.1 x2.2.2.2.2.2.2.2.2.2.1 x2.2.2.2.2.2.2.2.2.2.2.1 x2.2.2.2.2.2.2.2.2.2.2.2.1 x2.2.2.2.2.2.2.2.2.2.2.2.2.1 x2.2.2.2.2.2.2.2.2.2.2.2.2.2) else (Mo_law_L31_J67 1 tape_m x2.2.1 length0_m x2.2.2.1 x2.2.2.2.1 x2.2.2.2.2.1 x2.2.2.2.2.2.1 x2.2.2.2.2.2.2.1 x2.2.2.2.2.2.2.2.1 x2.2.2.2.2.2.2.2.2.1 x2.2.2.2.2.2.2.2.2.2.1 x2.2.2.2.2.2.2.2.2.2.2.1 x2.2.2.2.2.2.2.2.2.2.2.2.1 x2.2.2.2.2.2.2.2.2.2.2.2.2.1 x2.2.2.2.2.2.2.2.2.2.2.2.2.2))) else (some (.inr (s31.1, s31.2.1, s31.2.2.1, s31.2.2.2.1, s31.2.2.2.2.1, s31.2.2.2.2.2.1, s31.2.2.2.2.2.2.1, s31.2.2.2.2.2.2.2.1, s31.2.2.2.2.2.2.2.2.1, s31.2.2.2.2.2.2.2.2.2.1, s31.2.2.2.2.2.2.2.2.2.2.1, s31.2.2.2.2.2.2.2.2.2.2.2.1, s31.2.2.2.2.2.2.2.2.2.2.2.2.1, s31.2.2.2.2.2.2.2.2.2.2.2.2.2))))
noncomputable def Mo_law_J71 (v2 : Int32) (tape_m : Nat → Int32) (taped_m : Int32) (place0_m : Int32) (length0_m : Int32) (fault_m : Int32) (number0_m : Int32) (open_m : Int32) (codeMany_m : Int32) (waiting_m : Int32) (saidMany_m : Int32) (clauses_m : Int32) (said_m : Nat → Int32) (waitsAt_m : Nat → Int32) (saidLetter_m : Nat → Int32) (saidFrom_m : Nat → Int32) (saidHalf_m : Nat → Int32) (saidTo_m : Nat → Int32) (codes_m : Nat → Int32) (clauseOf_m : Nat → Int32) (codeFrom_m : Nat → Int32) (codeHalf_m : Nat → Int32) (codeTo_m : Nat → Int32) : Option (Int32 × Int32 × Int32 × Int32 × Int32 × Int32 × Int32 × Int32 × Int32 × Int32 × Int32 × (Nat → Int32) × (Nat → Int32) × (Nat → Int32) × (Nat → Int32) × (Nat → Int32) × (Nat → Int32) × (Nat → Int32) × (Nat → Int32) × (Nat → Int32) × (Nat → Int32) × (Nat → Int32)) :=
  if v2 = 0 then (some (fault_m, 0, place0_m, length0_m, fault_m, number0_m, open_m, codeMany_m, waiting_m, saidMany_m, clauses_m, said_m, waitsAt_m, saidLetter_m, saidFrom_m, saidHalf_m, saidTo_m, codes_m, clauseOf_m, codeFrom_m, codeHalf_m, codeTo_m)) else (ob (lp (Mo_law_L95 codeMany_m said_m) (0, codes_m)) fun x1 =>
  ob (lp (Mo_law_L123 saidMany_m saidLetter_m saidFrom_m saidHalf_m saidTo_m) (0, clauseOf_m, codeFrom_m, codeHalf_m, codeTo_m)) fun x2 =>
  some (saidMany_m, 0, place0_m, length0_m, fault_m, number0_m, open_m, codeMany_m, waiting_m, saidMany_m, saidMany_m, said_m, waitsAt_m, saidLetter_m, saidFrom_m, saidHalf_m, saidTo_m, x1, x2.1, x2.2.1, x2.2.2.1, x2.2.2.2))
noncomputable def Mo_law (tape_m : Nat → Int32) (taped_m : Int32) (place0_m : Int32) (length0_m : Int32) (fault_m : Int32) (number0_m : Int32) (open_m : Int32) (codeMany_m : Int32) (waiting_m : Int32) (saidMany_m : Int32) (clauses_m : Int32) (said_m : Nat → Int32) (waitsAt_m : Nat → Int32) (saidLetter_m : Nat → Int32) (saidFrom_m : Nat → Int32) (saidHalf_m : Nat → Int32) (saidTo_m : Nat → Int32) (codes_m : Nat → Int32) (clauseOf_m : Nat → Int32) (codeFrom_m : Nat → Int32) (codeHalf_m : Nat → Int32) (codeTo_m : Nat → Int32) (a1 : Int32) : Option (Int32 × Int32 × Int32 × Int32 × Int32 × Int32 × Int32 × Int32 × Int32 × Int32 × Int32 × (Nat → Int32) × (Nat → Int32) × (Nat → Int32) × (Nat → Int32) × (Nat → Int32) × (Nat → Int32) × (Nat → Int32) × (Nat → Int32) × (Nat → Int32) × (Nat → Int32) × (Nat → Int32)) :=
  ob (Mo_in a1 1 240) fun x1 =>
  if x1 = 0 then (some ((-1), taped_m, place0_m, length0_m, fault_m, number0_m, open_m, codeMany_m, waiting_m, saidMany_m, clauses_m, said_m, waitsAt_m, saidLetter_m, saidFrom_m, saidHalf_m, saidTo_m, codes_m, clauseOf_m, codeFrom_m, codeHalf_m, codeTo_m)) else (if a1 ≤ taped_m then (ob (Mo_beginsText place0_m length0_m codeMany_m saidMany_m a1) fun x2 =>
  ob (Mo_readsRule tape_m x2.1 x2.2.1 fault_m number0_m open_m x2.2.2.1 waiting_m x2.2.2.2 said_m waitsAt_m saidLetter_m saidFrom_m saidHalf_m saidTo_m) fun x3 =>
  ob (lp (Mo_law_L31 tape_m x2.2.1) (x3.1, x3.2.1, x3.2.2.1, x3.2.2.2.1, x3.2.2.2.2.1, x3.2.2.2.2.2.1, x3.2.2.2.2.2.2.1, x3.2.2.2.2.2.2.2.1, x3.2.2.2.2.2.2.2.2.1, x3.2.2.2.2.2.2.2.2.2.1, x3.2.2.2.2.2.2.2.2.2.2.1, x3.2.2.2.2.2.2.2.2.2.2.2.1, x3.2.2.2.2.2.2.2.2.2.2.2.2.1, x3.2.2.2.2.2.2.2.2.2.2.2.2.2)) fun x4 =>
  Mo_law_J71 x4.1 tape_m taped_m x4.2.1 x2.2.1 x4.2.2.1 x4.2.2.2.1 x4.2.2.2.2.1 x4.2.2.2.2.2.1 x4.2.2.2.2.2.2.1 x4.2.2.2.2.2.2.2.1 clauses_m x4.2.2.2.2.2.2.2.2.1 x4.2.2.2.2.2.2.2.2.2.1 x4.2.2.2.2.2.2.2.2.2.2.1 x4.2.2.2.2.2.2.2.2.2.2.2.1 x4.2.2.2.2.2.2.2.2.2.2.2.2.1 x4.2.2.2.2.2.2.2.2.2.2.2.2.2 codes_m clauseOf_m codeFrom_m codeHalf_m codeTo_m) else (some ((-1), taped_m, place0_m, length0_m, fault_m, number0_m, open_m, codeMany_m, waiting_m, saidMany_m, clauses_m, said_m, waitsAt_m, saidLetter_m, saidFrom_m, saidHalf_m, saidTo_m, codes_m, clauseOf_m, codeFrom_m, codeHalf_m, codeTo_m)))
/-! the reference, 2 -/
noncomputable def Mo_reckon (a0 : Int32) (a1 : Int32) (a2 : Int32) : Option (Int32) :=
  if a0 = 2 then (some (a1 + a2)) else (if a0 = 3 then (some (a1 - a2)) else (if a0 = 4 then (some (a1 * a2)) else (if a0 = 5 then (gd (nz a2) (some (a1 / a2))) else (if a0 = 6 then (gd (nz a2) (some (a1 % a2))) else (if a0 = 7 then (if a1 < a2 then (some 1) else (some 0)) else (if a0 = 8 then (if a1 ≤ a2 then (some 0) else (some 1)) else (if a1 = a2 then (some 1) else (some 0))))))))
noncomputable def Mo_reckonsTo_L16_J230 (v2 : Int32) (v3 : Int32) (v4 : Int32) (v5 : Int32) (codes_m : Nat → Int32) (stack_m : Nat → Int32) (facts_m : Nat → Int32) : Option ((Int32 × Int32 × (Nat → Int32)) ⊕ (Nat → Int32) ⊕ (Nat → Int32)) :=
  some (.inl (v3, v5, stack_m))
noncomputable def Mo_reckonsTo_L16_J85 (v2 : Int32) (v3 : Int32) (v4 : Int32) (v5 : Int32) (k0 : Int32) (k1 : Int32) (codes_m : Nat → Int32) (stack_m : Nat → Int32) (facts_m : Nat → Int32) : Option ((Int32 × Int32 × (Nat → Int32)) ⊕ (Nat → Int32) ⊕ (Nat → Int32)) :=
  gd (ix k1 260) (Mo_reckonsTo_L16_J230 v2 (v3 + 1) v4 v5 codes_m (upd stack_m (k1 : Int32).toNatClampNeg k0) facts_m)
noncomputable def Mo_reckonsTo_L16_J63 (v2 : Int32) (v3 : Int32) (v4 : Int32) (v5 : Int32) (v6 : Int32) (v7 : Int32) (codes_m : Nat → Int32) (stack_m : Nat → Int32) (facts_m : Nat → Int32) : Option ((Int32 × Int32 × (Nat → Int32)) ⊕ (Nat → Int32) ⊕ (Nat → Int32)) :=
  if v6 = 0 then (Mo_reckonsTo_L16_J85 v2 v3 v4 v5 v7 v3 codes_m stack_m facts_m) else (gd (ix v7 9) (Mo_reckonsTo_L16_J85 v2 v3 v4 v5 (facts_m (v7 : Int32).toNatClampNeg) v3 codes_m stack_m facts_m))
noncomputable def Mo_reckonsTo_L16_J155 (v2 : Int32) (v3 : Int32) (v4 : Int32) (v5 : Int32) (v7 : Int32) (k0 : Int32) (k1 : Int32) (codes_m : Nat → Int32) (stack_m : Nat → Int32) (facts_m : Nat → Int32) : Option ((Int32 × Int32 × (Nat → Int32)) ⊕ (Nat → Int32) ⊕ (Nat → Int32)) :=
  if k1 = k0 then (Mo_reckonsTo_L16_J230 v2 v3 v4 (v4 + v7) codes_m stack_m facts_m) else (Mo_reckonsTo_L16_J230 v2 (v3 - 1) v4 v5 codes_m stack_m facts_m)
noncomputable def Mo_reckonsTo_L16_J135 (v2 : Int32) (v3 : Int32) (v4 : Int32) (v5 : Int32) (v6 : Int32) (v7 : Int32) (codes_m : Nat → Int32) (stack_m : Nat → Int32) (facts_m : Nat → Int32) : Option ((Int32 × Int32 × (Nat → Int32)) ⊕ (Nat → Int32) ⊕ (Nat → Int32)) :=
  gd (ix (v3 - 1) 260) (if v6 = 12 then (Mo_reckonsTo_L16_J155 v2 v3 v4 v5 v7 1 (stack_m (v3 - 1 : Int32).toNatClampNeg) codes_m stack_m facts_m) else (Mo_reckonsTo_L16_J155 v2 v3 v4 v5 v7 0 (stack_m (v3 - 1 : Int32).toNatClampNeg) codes_m stack_m facts_m))
noncomputable def Mo_reckonsTo_L16_J203 (v2 : Int32) (v3 : Int32) (v4 : Int32) (v5 : Int32) (v6 : Int32) (codes_m : Nat → Int32) (stack_m : Nat → Int32) (facts_m : Nat → Int32) : Option ((Int32 × Int32 × (Nat → Int32)) ⊕ (Nat → Int32) ⊕ (Nat → Int32)) :=
  gd (ix (v3 - 1) 260) (gd (ix v3 260) (ob (Mo_reckon v6 (stack_m (v3 - 1 : Int32).toNatClampNeg) (stack_m (v3 : Int32).toNatClampNeg)) fun x3 =>
  gd (ix (v3 - 1) 260) (Mo_reckonsTo_L16_J230 v2 v3 v4 v5 codes_m (upd stack_m (v3 - 1 : Int32).toNatClampNeg x3) facts_m)))
noncomputable def Mo_reckonsTo_L16_J192 (v2 : Int32) (v3 : Int32) (v4 : Int32) (v5 : Int32) (v6 : Int32) (codes_m : Nat → Int32) (stack_m : Nat → Int32) (facts_m : Nat → Int32) : Option ((Int32 × Int32 × (Nat → Int32)) ⊕ (Nat → Int32) ⊕ (Nat → Int32)) :=
  gd (ix v3 260) (if (stack_m (v3 : Int32).toNatClampNeg) = 0 then (some (.inr (.inl stack_m))) else (Mo_reckonsTo_L16_J203 v2 v3 v4 v5 v6 codes_m stack_m facts_m))
noncomputable def Mo_reckonsTo_L16 (v2 : Int32) (v4 : Int32) (codes_m : Nat → Int32) (facts_m : Nat → Int32) : (Int32 × Int32 × (Nat → Int32)) → Option ((Int32 × Int32 × (Nat → Int32)) ⊕ (Nat → Int32) ⊕ (Nat → Int32)) := fun s16 =>
  if s16.2.1 < v2 then (gd (ix s16.2.1 260) (gd (ix s16.2.1 260) (if ((codes_m (s16.2.1 : Int32).toNatClampNeg) / 1048576) = 0 then (Mo_reckonsTo_L16_J63 v2 s16.1 v4 (s16.2.1 + 1) ((codes_m (s16.2.1 : Int32).toNatClampNeg) / 1048576) ((codes_m (s16.2.1 : Int32).toNatClampNeg) % 1048576) codes_m s16.2.2 facts_m) else (if ((codes_m (s16.2.1 : Int32).toNatClampNeg) / 1048576) = 1 then (Mo_reckonsTo_L16_J63 v2 s16.1 v4 (s16.2.1 + 1) ((codes_m (s16.2.1 : Int32).toNatClampNeg) / 1048576) ((codes_m (s16.2.1 : Int32).toNatClampNeg) % 1048576) codes_m s16.2.2 facts_m) else (if ((codes_m (s16.2.1 : Int32).toNatClampNeg) / 1048576) = 10 then (gd (ix (s16.1 - 1) 260) (gd (ix (s16.1 - 1) 260) (Mo_reckonsTo_L16_J230 v2 s16.1 v4 (s16.2.1 + 1) codes_m (upd s16.2.2 (s16.1 - 1 : Int32).toNatClampNeg (1 - (s16.2.2 (s16.1 - 1 : Int32).toNatClampNeg))) facts_m))) else (if ((codes_m (s16.2.1 : Int32).toNatClampNeg) / 1048576) = 11 then (Mo_reckonsTo_L16_J135 v2 s16.1 v4 (s16.2.1 + 1) ((codes_m (s16.2.1 : Int32).toNatClampNeg) / 1048576) ((codes_m (s16.2.1 : Int32).toNatClampNeg) % 1048576) codes_m s16.2.2 facts_m) else (if ((codes_m (s16.2.1 : Int32).toNatClampNeg) / 1048576) = 12 then (Mo_reckonsTo_L16_J135 v2 s16.1 v4 (s16.2.1 + 1) ((codes_m (s16.2.1 : Int32).toNatClampNeg) / 1048576) ((codes_m (s16.2.1 : Int32).toNatClampNeg) % 1048576) codes_m s16.2.2 facts_m) else (if ((codes_m (s16.2.1 : Int32).toNatClampNeg) / 1048576) = 5 then (Mo_reckonsTo_L16_J192 v2 (s16.1 - 1) v4 (s16.2.1 + 1) ((codes_m (s16.2.1 : Int32).toNatClampNeg) / 1048576) codes_m s16.2.2 facts_m) else (if ((codes_m (s16.2.1 : Int32).toNatClampNeg) / 1048576) = 6 then (Mo_reckonsTo_L16_J192 v2 (s16.1 - 1) v4 (s16.2.1 + 1) ((codes_m (s16.2.1 : Int32).toNatClampNeg) / 1048576) codes_m s16.2.2 facts_m) else (Mo_reckonsTo_L16_J203 v2 (s16.1 - 1) v4 (s16.2.1 + 1) ((codes_m (s16.2.1 : Int32).toNatClampNeg) / 1048576) codes_m s16.2.2 facts_m)))))))))) else (some (.inr (.inr (s16.2.2))))
noncomputable def Mo_reckonsTo (codes_m : Nat → Int32) (stack_m : Nat → Int32) (facts_m : Nat → Int32) (a1 : Int32) (a2 : Int32) : Option (Int32 × (Nat → Int32)) :=
  ob (lp (Mo_reckonsTo_L16 a2 (260 * (a1 / 260)) codes_m facts_m) (0, a1, stack_m)) fun x1 =>
  sm x1 (fun x1 => some (0, x1)) (fun x1 => gd (ix 0 260) (some (x1 (0 : Int32).toNatClampNeg, x1)))
noncomputable def Mo_byLaw_L3_J91 (v1 : Int32) (v2 : Int32) (v3 : Int32) (v4 : Int32) (clauses_m : Int32) (codes_m : Nat → Int32) (clauseOf_m : Nat → Int32) (codeHalf_m : Nat → Int32) (codeTo_m : Nat → Int32) (stack_m : Nat → Int32) (facts_m : Nat → Int32) : Option ((Int32 × (Nat → Int32)) ⊕ (Int32 × (Nat → Int32)) ⊕ (Nat → Int32)) :=
  some (.inl (v4 + 1, stack_m))
noncomputable def Mo_byLaw_L3 (v1 : Int32) (v2 : Int32) (v3 : Int32) (clauses_m : Int32) (codes_m : Nat → Int32) (clauseOf_m : Nat → Int32) (codeHalf_m : Nat → Int32) (codeTo_m : Nat → Int32) (facts_m : Nat → Int32) : (Int32 × (Nat → Int32)) → Option ((Int32 × (Nat → Int32)) ⊕ (Int32 × (Nat → Int32)) ⊕ (Nat → Int32)) := fun s3 =>
  if s3.1 < clauses_m then (gd (ix s3.1 16) (if (clauseOf_m (s3.1 : Int32).toNatClampNeg) = v1 then (gd (ix s3.1 16) (gd (ix s3.1 16) (ob (Mo_reckonsTo codes_m s3.2 facts_m (codeHalf_m (s3.1 : Int32).toNatClampNeg) (codeTo_m (s3.1 : Int32).toNatClampNeg)) fun x4 =>
  if x4.1 = 1 then (some (.inr (.inl (s3.1, x4.2)))) else (Mo_byLaw_L3_J91 v1 v2 v3 s3.1 clauses_m codes_m clauseOf_m codeHalf_m codeTo_m x4.2 facts_m)))) else (Mo_byLaw_L3_J91 v1 v2 v3 s3.1 clauses_m codes_m clauseOf_m codeHalf_m codeTo_m s3.2 facts_m))) else (some (.inr (.inr (s3.2))))
noncomputable def Mo_byLaw (clauses_m : Int32) (codes_m : Nat → Int32) (clauseOf_m : Nat → Int32) (codeFrom_m : Nat → Int32) (codeHalf_m : Nat → Int32) (codeTo_m : Nat → Int32) (stack_m : Nat → Int32) (facts_m : Nat → Int32) (a1 : Int32) (a2 : Int32) (a3 : Int32) : Option (Int32 × (Nat → Int32)) :=
  ob (lp (Mo_byLaw_L3 a1 a2 a3 clauses_m codes_m clauseOf_m codeHalf_m codeTo_m facts_m) (0, stack_m)) fun x1 =>
  sm x1 (fun x1 => gd (ix x1.1 16) (gd (ix x1.1 16) (ob (Mo_reckonsTo codes_m x1.2 facts_m (codeFrom_m (x1.1 : Int32).toNatClampNeg) (codeHalf_m (x1.1 : Int32).toNatClampNeg)) fun x4 =>
  if x4.1 < a2 then (some (a2, x4.2)) else (if x4.1 ≤ a3 then (some (x4.1, x4.2)) else (some (a3, x4.2)))))) (fun x1 => some (a2, x1))
noncomputable def Mo_holdsAny_L2_J42 (v1 : Int32) (v2 : Int32) (clauses_m : Int32) (codes_m : Nat → Int32) (clauseOf_m : Nat → Int32) (codeHalf_m : Nat → Int32) (codeTo_m : Nat → Int32) (stack_m : Nat → Int32) (facts_m : Nat → Int32) : Option ((Int32 × (Nat → Int32)) ⊕ (Nat → Int32) ⊕ (Nat → Int32)) :=
  some (.inl (v2 + 1, stack_m))
noncomputable def Mo_holdsAny_L2 (v1 : Int32) (clauses_m : Int32) (codes_m : Nat → Int32) (clauseOf_m : Nat → Int32) (codeHalf_m : Nat → Int32) (codeTo_m : Nat → Int32) (facts_m : Nat → Int32) : (Int32 × (Nat → Int32)) → Option ((Int32 × (Nat → Int32)) ⊕ (Nat → Int32) ⊕ (Nat → Int32)) := fun s2 =>
  if s2.1 < clauses_m then (gd (ix s2.1 16) (if (clauseOf_m (s2.1 : Int32).toNatClampNeg) = v1 then (gd (ix s2.1 16) (gd (ix s2.1 16) (ob (Mo_reckonsTo codes_m s2.2 facts_m (codeHalf_m (s2.1 : Int32).toNatClampNeg) (codeTo_m (s2.1 : Int32).toNatClampNeg)) fun x4 =>
  if x4.1 = 1 then (some (.inr (.inl x4.2))) else (Mo_holdsAny_L2_J42 v1 s2.1 clauses_m codes_m clauseOf_m codeHalf_m codeTo_m x4.2 facts_m)))) else (Mo_holdsAny_L2_J42 v1 s2.1 clauses_m codes_m clauseOf_m codeHalf_m codeTo_m s2.2 facts_m))) else (some (.inr (.inr (s2.2))))
noncomputable def Mo_holdsAny (clauses_m : Int32) (codes_m : Nat → Int32) (clauseOf_m : Nat → Int32) (codeHalf_m : Nat → Int32) (codeTo_m : Nat → Int32) (stack_m : Nat → Int32) (facts_m : Nat → Int32) (a1 : Int32) : Option (Int32 × (Nat → Int32)) :=
  ob (lp (Mo_holdsAny_L2 a1 clauses_m codes_m clauseOf_m codeHalf_m codeTo_m facts_m) (0, stack_m)) fun x1 =>
  sm x1 (fun x1 => some (1, x1)) (fun x1 => some (0, x1))
noncomputable def Mo_readsWithin_L27 (v1 : Int32) (v2 : Int32) (v3 : Int32) (tape_m : Nat → Int32) (length0_m : Int32) : (Int32 × Int32) → Option ((Int32 × Int32) ⊕ (Int32 × Int32) ⊕ (Int32 × Int32)) := fun s27 =>
  ob (Mo_isDigit tape_m s27.1 length0_m) fun x1 =>
  if x1 = 0 then (some (.inr (.inr (s27.1, s27.2)))) else (if s27.1 = (v3 + 2) then (some (.inr (.inl (s27.1, s27.2)))) else (ob (Mo_here tape_m s27.1 length0_m) fun x2 =>
  some (.inl (s27.1 + 1, ((10 * s27.2) + x2) - 48))))
noncomputable def Mo_readsWithin_J107 (tape_m : Nat → Int32) (place0_m : Int32) (length0_m : Int32) (fault_m : Int32) (number0_m : Int32) : Option (Int32 × Int32 × Int32 × Int32) :=
  some (1, place0_m, fault_m, number0_m)
noncomputable def Mo_readsWithin (tape_m : Nat → Int32) (place0_m : Int32) (length0_m : Int32) (fault_m : Int32) (number0_m : Int32) (a1 : Int32) (a2 : Int32) : Option (Int32 × Int32 × Int32 × Int32) :=
  ob (Mo_isDigit tape_m place0_m length0_m) fun x1 =>
  if x1 = 0 then (ob (Mo_wrongAt fault_m 1 place0_m) fun x2 =>
  gd (isB x2.1) (some (x2.1, place0_m, x2.2, number0_m))) else (ob (lp (Mo_readsWithin_L27 a1 a2 place0_m tape_m length0_m) (place0_m, 0)) fun x4 =>
  sm x4 (fun x4 => ob (Mo_wrongAt fault_m 2 x4.1) fun x5 =>
  gd (isB x5.1) (some (x5.1, x4.1, x5.2, x4.2))) (fun x4 => ob (Mo_in x4.2 a1 a2) fun x7 =>
  if x7 = 0 then (ob (Mo_wrongAt fault_m 3 place0_m) fun x8 =>
  if x8.1 = 0 then (some (0, x4.1, x8.2, x4.2)) else (Mo_readsWithin_J107 tape_m x4.1 length0_m x8.2 x4.2)) else (Mo_readsWithin_J107 tape_m x4.1 length0_m fault_m x4.2)))
noncomputable def Mo_laysPart_L22_J144 (v1 : Int32) (v2 : Int32) (v3 : Int32) (v4 : Int32) (v5 : Int32) (v6 : Int32) : Option ((Int32 × Int32) ⊕ (Int32)) :=
  some (.inl (v5, v6 + 1))
noncomputable def Mo_laysPart_L22_J121 (v1 : Int32) (v2 : Int32) (v3 : Int32) (v4 : Int32) (v5 : Int32) (v6 : Int32) (k0 : Int32) : Option ((Int32 × Int32) ⊕ (Int32)) :=
  if k0 = 0 then (Mo_laysPart_L22_J144 v1 v2 v3 v4 v5 v6) else (if v4 = v6 then (Mo_laysPart_L22_J144 v1 v2 v3 v4 v5 v6) else (Mo_laysPart_L22_J144 v1 v2 v3 v4 (v5 ||| ((1 : Int32) <<< (v6 &&& 31))) v6))
noncomputable def Mo_laysPart_L22_J111 (v1 : Int32) (v2 : Int32) (v3 : Int32) (v4 : Int32) (v5 : Int32) (v6 : Int32) : Option ((Int32 × Int32) ⊕ (Int32)) :=
  Mo_laysPart_L22_J121 v1 v2 v3 v4 v5 v6 1
noncomputable def Mo_laysPart_L22_J83 (v1 : Int32) (v2 : Int32) (v3 : Int32) (v4 : Int32) (v5 : Int32) (v6 : Int32) (k0 : Int32) : Option ((Int32 × Int32) ⊕ (Int32)) :=
  if v1 = 75 then (Mo_laysPart_L22_J121 v1 v2 v3 v4 v5 v6 1) else (if v1 = 83 then (if v4 = 0 then (Mo_laysPart_L22_J111 v1 v2 v3 v4 v5 v6) else (if v6 = 0 then (Mo_laysPart_L22_J111 v1 v2 v3 v4 v5 v6) else (Mo_laysPart_L22_J121 v1 v2 v3 v4 v5 v6 0))) else (Mo_laysPart_L22_J121 v1 v2 v3 v4 v5 v6 k0))
noncomputable def Mo_laysPart_L22_J78 (v1 : Int32) (v2 : Int32) (v3 : Int32) (v4 : Int32) (v5 : Int32) (v6 : Int32) : Option ((Int32 × Int32) ⊕ (Int32)) :=
  Mo_laysPart_L22_J83 v1 v2 v3 v4 v5 v6 1
noncomputable def Mo_laysPart_L22_J82 (v1 : Int32) (v2 : Int32) (v3 : Int32) (v4 : Int32) (v5 : Int32) (v6 : Int32) : Option ((Int32 × Int32) ⊕ (Int32)) :=
  Mo_laysPart_L22_J83 v1 v2 v3 v4 v5 v6 0
noncomputable def Mo_laysPart_L22_J65 (v1 : Int32) (v2 : Int32) (v3 : Int32) (v4 : Int32) (v5 : Int32) (v6 : Int32) : Option ((Int32 × Int32) ⊕ (Int32)) :=
  if v6 = 0 then (if v4 = (v2 - 1) then (Mo_laysPart_L22_J78 v1 v2 v3 v4 v5 v6) else (Mo_laysPart_L22_J82 v1 v2 v3 v4 v5 v6)) else (Mo_laysPart_L22_J82 v1 v2 v3 v4 v5 v6)
noncomputable def Mo_laysPart_L22 (v1 : Int32) (v2 : Int32) (v3 : Int32) (v4 : Int32) : (Int32 × Int32) → Option ((Int32 × Int32) ⊕ (Int32)) := fun s22 =>
  if s22.2 < v2 then (if s22.2 = (v4 + 1) then (Mo_laysPart_L22_J78 v1 v2 v3 v4 s22.1 s22.2) else (if v4 = (s22.2 + 1) then (Mo_laysPart_L22_J78 v1 v2 v3 v4 s22.1 s22.2) else (if v1 = 82 then (if v4 = 0 then (if s22.2 = (v2 - 1) then (Mo_laysPart_L22_J78 v1 v2 v3 v4 s22.1 s22.2) else (Mo_laysPart_L22_J65 v1 v2 v3 v4 s22.1 s22.2)) else (Mo_laysPart_L22_J65 v1 v2 v3 v4 s22.1 s22.2)) else (Mo_laysPart_L22_J82 v1 v2 v3 v4 s22.1 s22.2)))) else (some (.inr s22.1))
noncomputable def Mo_laysPart_L10 (v1 : Int32) (v2 : Int32) (v3 : Int32) : (Int32 × (Nat → Int32)) → Option ((Int32 × (Nat → Int32)) ⊕ (Nat → Int32)) := fun s10 =>
  if s10.1 < v2 then (ob (lp (Mo_laysPart_L22 v1 v2 v3 s10.1) (0, 0)) fun x1 =>
  gd (ix ((12 * v3) + s10.1) 48) (some (.inl (s10.1 + 1, upd s10.2 ((12 * v3) + s10.1 : Int32).toNatClampNeg x1)))) else (some (.inr s10.2))
noncomputable def Mo_laysPart (manyAt_m : Nat → Int32) (nextAt_m : Nat → Int32) (a1 : Int32) (a2 : Int32) (a3 : Int32) : Option ((Nat → Int32) × (Nat → Int32)) :=
  gd (ix a3 4) (ob (lp (Mo_laysPart_L10 a1 a2 a3) (0, nextAt_m)) fun x2 =>
  some (upd manyAt_m (a3 : Int32).toNatClampNeg a2, x2))
noncomputable def Mo_joins_L30 (v1 : Int32) (v3 : Int32) : (Int32 × (Nat → Int32)) → Option ((Int32 × (Nat → Int32)) ⊕ (Nat → Int32)) := fun s30 =>
  if s30.1 < v3 then (gd (ix ((12 * (v1 + 1)) + s30.1) 48) (gd (ix ((12 * v1) + s30.1) 48) (some (.inl (s30.1 + 1, upd s30.2 ((12 * v1) + s30.1 : Int32).toNatClampNeg (s30.2 ((12 * (v1 + 1)) + s30.1 : Int32).toNatClampNeg)))))) else (some (.inr s30.2))
noncomputable def Mo_joins_L260 (v1 : Int32) (v2 : Int32) (v3 : Int32) (newNext_m : Nat → Int32) : (Int32 × (Nat → Int32)) → Option ((Int32 × (Nat → Int32)) ⊕ (Nat → Int32)) := fun s260 =>
  if s260.1 < (v2 * v3) then (gd (ix s260.1 12) (gd (ix ((12 * v1) + s260.1) 48) (some (.inl (s260.1 + 1, upd s260.2 ((12 * v1) + s260.1 : Int32).toNatClampNeg (newNext_m (s260.1 : Int32).toNatClampNeg)))))) else (some (.inr s260.2))
noncomputable def Mo_joins_L113_J236 (v1 : Int32) (v2 : Int32) (v3 : Int32) (v4 : Int32) (v5 : Int32) (nextAt_m : Nat → Int32) (newNext_m : Nat → Int32) : Option ((Int32 × (Nat → Int32)) ⊕ (Nat → Int32)) :=
  some (.inl (v5 + 1, newNext_m))
noncomputable def Mo_joins_L113_J217 (v1 : Int32) (v2 : Int32) (v3 : Int32) (v4 : Int32) (v5 : Int32) (nextAt_m : Nat → Int32) (newNext_m : Nat → Int32) : Option ((Int32 × (Nat → Int32)) ⊕ (Nat → Int32)) :=
  gd (ix v4 12) (gd (ix v4 12) (Mo_joins_L113_J236 v1 v2 v3 v4 v5 nextAt_m (upd newNext_m (v4 : Int32).toNatClampNeg ((newNext_m (v4 : Int32).toNatClampNeg) ||| ((1 : Int32) <<< (v5 &&& 31))))))
noncomputable def Mo_joins_L113_J205 (v1 : Int32) (v2 : Int32) (v3 : Int32) (v4 : Int32) (v5 : Int32) (v6 : Int32) (k0 : Int32) (nextAt_m : Nat → Int32) (newNext_m : Nat → Int32) : Option ((Int32 × (Nat → Int32)) ⊕ (Nat → Int32)) :=
  if v6 = 0 then (if k0 = 0 then (Mo_joins_L113_J236 v1 v2 v3 v4 v5 nextAt_m newNext_m) else (Mo_joins_L113_J217 v1 v2 v3 v4 v5 nextAt_m newNext_m)) else (Mo_joins_L113_J217 v1 v2 v3 v4 v5 nextAt_m newNext_m)
noncomputable def Mo_joins_L113_J204 (v1 : Int32) (v2 : Int32) (v3 : Int32) (v4 : Int32) (v5 : Int32) (v6 : Int32) (nextAt_m : Nat → Int32) (newNext_m : Nat → Int32) : Option ((Int32 × (Nat → Int32)) ⊕ (Nat → Int32)) :=
  Mo_joins_L113_J205 v1 v2 v3 v4 v5 v6 0 nextAt_m newNext_m
noncomputable def Mo_joins_L113_J163 (v1 : Int32) (v2 : Int32) (v3 : Int32) (v4 : Int32) (v5 : Int32) (k0 : Int32) (nextAt_m : Nat → Int32) (newNext_m : Nat → Int32) : Option ((Int32 × (Nat → Int32)) ⊕ (Nat → Int32)) :=
  gd (nz v3) (gd (nz v3) (if (v4 % v3) = (v5 % v3) then (gd (nz v3) (gd (ix ((12 * v1) + (v4 / v3)) 48) (gd (nz v3) (ob (Mo_has (nextAt_m ((12 * v1) + (v4 / v3) : Int32).toNatClampNeg) (v5 / v3)) fun x6 =>
  if x6 = 0 then (Mo_joins_L113_J204 v1 v2 v3 v4 v5 k0 nextAt_m newNext_m) else (Mo_joins_L113_J205 v1 v2 v3 v4 v5 k0 1 nextAt_m newNext_m))))) else (Mo_joins_L113_J204 v1 v2 v3 v4 v5 k0 nextAt_m newNext_m)))
noncomputable def Mo_joins_L113_J162 (v1 : Int32) (v2 : Int32) (v3 : Int32) (v4 : Int32) (v5 : Int32) (nextAt_m : Nat → Int32) (newNext_m : Nat → Int32) : Option ((Int32 × (Nat → Int32)) ⊕ (Nat → Int32)) :=
  Mo_joins_L113_J163 v1 v2 v3 v4 v5 0 nextAt_m newNext_m
noncomputable def Mo_joins_L113 (v1 : Int32) (v2 : Int32) (v3 : Int32) (v4 : Int32) (nextAt_m : Nat → Int32) : (Int32 × (Nat → Int32)) → Option ((Int32 × (Nat → Int32)) ⊕ (Nat → Int32)) := fun s113 =>
  if s113.1 < (v2 * v3) then (gd (nz v3) (gd (nz v3) (if (v4 / v3) = (s113.1 / v3) then (gd (nz v3) (gd (ix ((12 * (v1 + 1)) + (v4 % v3)) 48) (gd (nz v3) (ob (Mo_has (nextAt_m ((12 * (v1 + 1)) + (v4 % v3) : Int32).toNatClampNeg) (s113.1 % v3)) fun x6 =>
  if x6 = 0 then (Mo_joins_L113_J162 v1 v2 v3 v4 s113.1 nextAt_m s113.2) else (Mo_joins_L113_J163 v1 v2 v3 v4 s113.1 1 nextAt_m s113.2))))) else (Mo_joins_L113_J162 v1 v2 v3 v4 s113.1 nextAt_m s113.2)))) else (some (.inr s113.2))
noncomputable def Mo_joins_L94 (v1 : Int32) (v2 : Int32) (v3 : Int32) (nextAt_m : Nat → Int32) : (Int32 × (Nat → Int32)) → Option ((Int32 × (Nat → Int32)) ⊕ (Nat → Int32)) := fun s94 =>
  if s94.1 < (v2 * v3) then (gd (ix s94.1 12) (ob (lp (Mo_joins_L113 v1 v2 v3 s94.1 nextAt_m) (0, upd s94.2 (s94.1 : Int32).toNatClampNeg 0)) fun x2 =>
  some (.inl (s94.1 + 1, x2)))) else (some (.inr s94.2))
noncomputable def Mo_joins (fault_m : Int32) (manyAt_m : Nat → Int32) (nextAt_m : Nat → Int32) (partAt_m : Nat → Int32) (newNext_m : Nat → Int32) (a1 : Int32) : Option (Int32 × Int32 × (Nat → Int32) × (Nat → Int32) × (Nat → Int32)) :=
  gd (ix a1 4) (gd (ix (a1 + 1) 4) (if (manyAt_m (a1 : Int32).toNatClampNeg) = 0 then (gd (ix a1 4) (ob (lp (Mo_joins_L30 a1 (manyAt_m (a1 + 1 : Int32).toNatClampNeg)) (0, nextAt_m)) fun x4 =>
  some (1, fault_m, upd manyAt_m (a1 : Int32).toNatClampNeg (manyAt_m (a1 + 1 : Int32).toNatClampNeg), x4, newNext_m))) else (if ((manyAt_m (a1 : Int32).toNatClampNeg) * (manyAt_m (a1 + 1 : Int32).toNatClampNeg)) ≤ 12 then (ob (lp (Mo_joins_L94 a1 (manyAt_m (a1 : Int32).toNatClampNeg) (manyAt_m (a1 + 1 : Int32).toNatClampNeg) nextAt_m) (0, newNext_m)) fun x5 =>
  gd (ix a1 4) (ob (lp (Mo_joins_L260 a1 (manyAt_m (a1 : Int32).toNatClampNeg) (manyAt_m (a1 + 1 : Int32).toNatClampNeg) x5) (0, nextAt_m)) fun x7 =>
  some (1, fault_m, upd manyAt_m (a1 : Int32).toNatClampNeg ((manyAt_m (a1 : Int32).toNatClampNeg) * (manyAt_m (a1 + 1 : Int32).toNatClampNeg)), x7, x5))) else (gd (ix a1 4) (ob (Mo_wrongAt fault_m 6 (partAt_m (a1 : Int32).toNatClampNeg)) fun x9 =>
  gd (isB x9.1) (some (x9.1, x9.2, manyAt_m, nextAt_m, newNext_m)))))))
noncomputable def Mo_readsPlain_J71 (v1 : Int32) (k0 : Int32) (tape_m : Nat → Int32) (place0_m : Int32) (length0_m : Int32) (fault_m : Int32) (number0_m : Int32) (manyAt_m : Nat → Int32) (nextAt_m : Nat → Int32) (partAt_m : Nat → Int32) (newNext_m : Nat → Int32) (depth_m : Int32) : Option (Int32 × Int32 × Int32 × Int32 × (Nat → Int32) × (Nat → Int32) × (Nat → Int32)) :=
  ob (Mo_readsWithin tape_m place0_m length0_m fault_m number0_m k0 12) fun x1 =>
  if x1.1 = 0 then (some (0, x1.2.1, x1.2.2.1, x1.2.2.2, manyAt_m, nextAt_m, newNext_m)) else (ob (Mo_laysPart manyAt_m nextAt_m v1 x1.2.2.2 (depth_m + 1)) fun x2 =>
  ob (Mo_joins x1.2.2.1 x2.1 x2.2 partAt_m newNext_m depth_m) fun x3 =>
  gd (isB x3.1) (some (x3.1, x1.2.1, x3.2.1, x1.2.2.2, x3.2.2.1, x3.2.2.2.1, x3.2.2.2.2)))
noncomputable def Mo_readsPlain_J39 (v1 : Int32) (tape_m : Nat → Int32) (place0_m : Int32) (length0_m : Int32) (fault_m : Int32) (number0_m : Int32) (manyAt_m : Nat → Int32) (nextAt_m : Nat → Int32) (partAt_m : Nat → Int32) (newNext_m : Nat → Int32) (depth_m : Int32) : Option (Int32 × Int32 × Int32 × Int32 × (Nat → Int32) × (Nat → Int32) × (Nat → Int32)) :=
  if v1 = 82 then (Mo_readsPlain_J71 v1 3 tape_m (place0_m + 1) length0_m fault_m number0_m manyAt_m nextAt_m partAt_m newNext_m depth_m) else (if v1 = 83 then (Mo_readsPlain_J71 v1 2 tape_m (place0_m + 1) length0_m fault_m number0_m manyAt_m nextAt_m partAt_m newNext_m depth_m) else (Mo_readsPlain_J71 v1 1 tape_m (place0_m + 1) length0_m fault_m number0_m manyAt_m nextAt_m partAt_m newNext_m depth_m))
noncomputable def Mo_readsPlain (tape_m : Nat → Int32) (place0_m : Int32) (length0_m : Int32) (fault_m : Int32) (number0_m : Int32) (manyAt_m : Nat → Int32) (nextAt_m : Nat → Int32) (partAt_m : Nat → Int32) (newNext_m : Nat → Int32) (depth_m : Int32) : Option (Int32 × Int32 × Int32 × Int32 × (Nat → Int32) × (Nat → Int32) × (Nat → Int32)) :=
  ob (Mo_here tape_m place0_m length0_m) fun x1 =>
  if x1 = 76 then (Mo_readsPlain_J39 x1 tape_m place0_m length0_m fault_m number0_m manyAt_m nextAt_m partAt_m newNext_m depth_m) else (if x1 = 82 then (Mo_readsPlain_J39 x1 tape_m place0_m length0_m fault_m number0_m manyAt_m nextAt_m partAt_m newNext_m depth_m) else (if x1 = 83 then (Mo_readsPlain_J39 x1 tape_m place0_m length0_m fault_m number0_m manyAt_m nextAt_m partAt_m newNext_m depth_m) else (if x1 = 75 then (Mo_readsPlain_J39 x1 tape_m place0_m length0_m fault_m number0_m manyAt_m nextAt_m partAt_m newNext_m depth_m) else (ob (Mo_wrongAt fault_m 1 place0_m) fun x2 =>
  gd (isB x2.1) (some (x2.1, place0_m, x2.2, number0_m, manyAt_m, nextAt_m, newNext_m))))))
noncomputable def Mo_readsWhole_L100 (tape_m : Nat → Int32) (length0_m : Int32) (partAt_m : Nat → Int32) : (Int32 × Int32 × (Nat → Int32) × (Nat → Int32) × (Nat → Int32) × Int32) → Option ((Int32 × Int32 × (Nat → Int32) × (Nat → Int32) × (Nat → Int32) × Int32) ⊕ (Int32 × Int32 × (Nat → Int32) × (Nat → Int32) × (Nat → Int32) × Int32) ⊕ (Int32 × Int32 × (Nat → Int32) × (Nat → Int32) × (Nat → Int32) × Int32)) := fun s100 =>
  ob (Mo_here tape_m s100.1 length0_m) fun x1 =>
  if x1 = 41 then (if s100.2.2.2.2.2 ≤ 0 then (some (.inr (.inr (s100.1, s100.2.1, s100.2.2.1, s100.2.2.2.1, s100.2.2.2.2.1, s100.2.2.2.2.2)))) else (ob (Mo_joins s100.2.1 s100.2.2.1 s100.2.2.2.1 partAt_m s100.2.2.2.2.1 (s100.2.2.2.2.2 - 1)) fun x2 =>
  if x2.1 = 0 then (some (.inr (.inl (s100.1 + 1, x2.2.1, x2.2.2.1, x2.2.2.2.1, x2.2.2.2.2, s100.2.2.2.2.2 - 1)))) else (some (.inl (s100.1 + 1, x2.2.1, x2.2.2.1, x2.2.2.2.1, x2.2.2.2.2, s100.2.2.2.2.2 - 1))))) else (some (.inr (.inr (s100.1, s100.2.1, s100.2.2.1, s100.2.2.2.1, s100.2.2.2.2.1, s100.2.2.2.2.2))))
noncomputable def Mo_readsWhole_L14_J163 (k0 : Int32) (tape_m : Nat → Int32) (place0_m : Int32) (length0_m : Int32) (fault_m : Int32) (number0_m : Int32) (manyAt_m : Nat → Int32) (nextAt_m : Nat → Int32) (partAt_m : Nat → Int32) (newNext_m : Nat → Int32) (depth_m : Int32) : Option ((Int32 × Int32 × Int32 × Int32 × (Nat → Int32) × (Nat → Int32) × (Nat → Int32) × (Nat → Int32) × Int32) ⊕ (Int32 × Int32 × Int32 × (Nat → Int32) × (Nat → Int32) × (Nat → Int32) × (Nat → Int32) × Int32) ⊕ (Int32 × Int32 × Int32 × (Nat → Int32) × (Nat → Int32) × (Nat → Int32) × (Nat → Int32) × Int32) ⊕ (Int32 × Int32 × Int32 × (Nat → Int32) × (Nat → Int32) × (Nat → Int32) × (Nat → Int32) × Int32) ⊕ (Int32 × Int32 × Int32 × (Nat → Int32) × (Nat → Int32) × (Nat → Int32) × (Nat → Int32) × Int32)) :=
  if k0 = 0 then (some (.inl (k0, place0_m, fault_m, number0_m, manyAt_m, nextAt_m, partAt_m, newNext_m, depth_m))) else (some (.inl (k0, place0_m + 1, fault_m, number0_m, manyAt_m, nextAt_m, partAt_m, newNext_m, depth_m)))
noncomputable def Mo_readsWhole_L14_J149 (tape_m : Nat → Int32) (place0_m : Int32) (length0_m : Int32) (fault_m : Int32) (number0_m : Int32) (manyAt_m : Nat → Int32) (nextAt_m : Nat → Int32) (partAt_m : Nat → Int32) (newNext_m : Nat → Int32) (depth_m : Int32) : Option ((Int32 × Int32 × Int32 × Int32 × (Nat → Int32) × (Nat → Int32) × (Nat → Int32) × (Nat → Int32) × Int32) ⊕ (Int32 × Int32 × Int32 × (Nat → Int32) × (Nat → Int32) × (Nat → Int32) × (Nat → Int32) × Int32) ⊕ (Int32 × Int32 × Int32 × (Nat → Int32) × (Nat → Int32) × (Nat → Int32) × (Nat → Int32) × Int32) ⊕ (Int32 × Int32 × Int32 × (Nat → Int32) × (Nat → Int32) × (Nat → Int32) × (Nat → Int32) × Int32) ⊕ (Int32 × Int32 × Int32 × (Nat → Int32) × (Nat → Int32) × (Nat → Int32) × (Nat → Int32) × Int32)) :=
  ob (Mo_here tape_m place0_m length0_m) fun x1 =>
  if x1 = 42 then (Mo_readsWhole_L14_J163 1 tape_m place0_m length0_m fault_m number0_m manyAt_m nextAt_m partAt_m newNext_m depth_m) else (Mo_readsWhole_L14_J163 0 tape_m place0_m length0_m fault_m number0_m manyAt_m nextAt_m partAt_m newNext_m depth_m)
noncomputable def Mo_readsWhole_L14 (tape_m : Nat → Int32) (length0_m : Int32) : (Int32 × Int32 × Int32 × Int32 × (Nat → Int32) × (Nat → Int32) × (Nat → Int32) × (Nat → Int32) × Int32) → Option ((Int32 × Int32 × Int32 × Int32 × (Nat → Int32) × (Nat → Int32) × (Nat → Int32) × (Nat → Int32) × Int32) ⊕ (Int32 × Int32 × Int32 × (Nat → Int32) × (Nat → Int32) × (Nat → Int32) × (Nat → Int32) × Int32) ⊕ (Int32 × Int32 × Int32 × (Nat → Int32) × (Nat → Int32) × (Nat → Int32) × (Nat → Int32) × Int32) ⊕ (Int32 × Int32 × Int32 × (Nat → Int32) × (Nat → Int32) × (Nat → Int32) × (Nat → Int32) × Int32) ⊕ (Int32 × Int32 × Int32 × (Nat → Int32) × (Nat → Int32) × (Nat → Int32) × (Nat → Int32) × Int32)) := fun s14 =>
  if s14.1 = 0 then (some (.inr (.inr (.inr (.inr (s14.2.1, s14.2.2.1, s14.2.2.2.1, s14.2.2.2.2.1, s14.2.2.2.2.2.1, s14.2.2.2.2.2.2.1, s14.2.2.2.2.2.2.2.1, s14.2.2.2.2.2.2.2.2)))))) else (gd (ix s14.2.2.2.2.2.2.2.2 4) (ob (Mo_here tape_m s14.2.1 length0_m) fun x2 =>
  if x2 = 40 then (if s14.2.2.2.2.2.2.2.2 = 2 then (some (.inr (.inl (s14.2.1, s14.2.2.1, s14.2.2.2.1, s14.2.2.2.2.1, s14.2.2.2.2.2.1, upd s14.2.2.2.2.2.2.1 (s14.2.2.2.2.2.2.2.2 : Int32).toNatClampNeg s14.2.1, s14.2.2.2.2.2.2.2.1, s14.2.2.2.2.2.2.2.2)))) else (gd (ix (s14.2.2.2.2.2.2.2.2 + 1) 4) (some (.inl (s14.1, s14.2.1 + 1, s14.2.2.1, s14.2.2.2.1, upd s14.2.2.2.2.1 (s14.2.2.2.2.2.2.2.2 + 1 : Int32).toNatClampNeg 0, s14.2.2.2.2.2.1, upd s14.2.2.2.2.2.2.1 (s14.2.2.2.2.2.2.2.2 : Int32).toNatClampNeg s14.2.1, s14.2.2.2.2.2.2.2.1, s14.2.2.2.2.2.2.2.2 + 1))))) else (ob (Mo_readsPlain tape_m s14.2.1 length0_m s14.2.2.1 s14.2.2.2.1 s14.2.2.2.2.1 s14.2.2.2.2.2.1 (upd s14.2.2.2.2.2.2.1 (s14.2.2.2.2.2.2.2.2 : Int32).toNatClampNeg s14.2.1) s14.2.2.2.2.2.2.2.1 s14.2.2.2.2.2.2.2.2) fun x5 =>
  if x5.1 = 0 then (some (.inr (.inr (.inl (x5.2.1, x5.2.2.1, x5.2.2.2.1, x5.2.2.2.2.1, x5.2.2.2.2.2.1, upd s14.2.2.2.2.2.2.1 (s14.2.2.2.2.2.2.2.2 : Int32).toNatClampNeg s14.2.1, x5.2.2.2.2.2.2, s14.2.2.2.2.2.2.2.2))))) else (ob (lp (Mo_readsWhole_L100 tape_m length0_m (upd s14.2.2.2.2.2.2.1 (s14.2.2.2.2.2.2.2.2 : Int32).toNatClampNeg s14.2.1)) (x5.2.1, x5.2.2.1, x5.2.2.2.2.1, x5.2.2.2.2.2.1, x5.2.2.2.2.2.2, s14.2.2.2.2.2.2.2.2)) fun x6 =>
  sm x6 (fun x6 => some (.inr (.inr (.inr (.inl (x6.1, x6.2.1, x5.2.2.2.1, x6.2.2.1, x6.2.2.2.1, upd s14.2.2.2.2.2.2.1 (s14.2.2.2.2.2.2.2.2 : Int32).toNatClampNeg s14.2.1, x6.2.2.2.2.1, x6.2.2.2.2.2)))))) (fun x6 => Mo_readsWhole_L14_J149 tape_m x6.1 length0_m x6.2.1 x5.2.2.2.1 x6.2.2.1 x6.2.2.2.1 (upd s14.2.2.2.2.2.2.1 (s14.2.2.2.2.2.2.2.2 : Int32).toNatClampNeg s14.2.1) x6.2.2.2.2.1 x6.2.2.2.2.2)))))
noncomputable def Mo_readsWhole_J200 (tape_m : Nat → Int32) (place0_m : Int32) (length0_m : Int32) (fault_m : Int32) (number0_m : Int32) (manyAt_m : Nat → Int32) (nextAt_m : Nat → Int32) (partAt_m : Nat → Int32) (newNext_m : Nat → Int32) (depth_m : Int32) : Option (Int32 × Int32 × Int32 × Int32 × (Nat → Int32) × (Nat → Int32) × (Nat → Int32) × (Nat → Int32) × Int32) :=
  some (1, place0_m, fault_m, number0_m, manyAt_m, nextAt_m, partAt_m, newNext_m, depth_m)
noncomputable def Mo_readsWhole (tape_m : Nat → Int32) (place0_m : Int32) (length0_m : Int32) (fault_m : Int32) (number0_m : Int32) (manyAt_m : Nat → Int32) (nextAt_m : Nat → Int32) (partAt_m : Nat → Int32) (newNext_m : Nat → Int32) (depth_m : Int32) : Option (Int32 × Int32 × Int32 × Int32 × (Nat → Int32) × (Nat → Int32) × (Nat → Int32) × (Nat → Int32) × Int32) :=
  gd (ix 0 4) (ob (lp (Mo_readsWhole_L14 tape_m length0_m) (1, place0_m, fault_m, number0_m, upd manyAt_m (0 : Int32).toNatClampNeg 0, nextAt_m, partAt_m, newNext_m, 0)) fun x2 =>
  sm x2 (fun x2 => ob (Mo_wrongAt x2.2.1 5 x2.1) fun x3 =>
  gd (isB x3.1) (some (x3.1, x2.1, x3.2, x2.2.2.1, x2.2.2.2.1, x2.2.2.2.2.1, x2.2.2.2.2.2.1, x2.2.2.2.2.2.2.1, x2.2.2.2.2.2.2.2))) (fun x2 => sm x2 (fun x2 => some (0, x2.1, x2.2.1, x2.2.2.1, x2.2.2.2.1, x2.2.2.2.2.1, x2.2.2.2.2.2.1, x2.2.2.2.2.2.2.1, x2.2.2.2.2.2.2.2)) (fun x2 => sm x2 (fun x2 => some (0, x2.1, x2.2.1, x2.2.2.1, x2.2.2.2.1, x2.2.2.2.2.1, x2.2.2.2.2.2.1, x2.2.2.2.2.2.2.1, x2.2.2.2.2.2.2.2)) (fun x2 => if x2.2.2.2.2.2.2.2 = 0 then (Mo_readsWhole_J200 tape_m x2.1 length0_m x2.2.1 x2.2.2.1 x2.2.2.2.1 x2.2.2.2.2.1 x2.2.2.2.2.2.1 x2.2.2.2.2.2.2.1 x2.2.2.2.2.2.2.2) else (ob (Mo_wrongAt x2.2.1 1 x2.1) fun x5 =>
  if x5.1 = 0 then (some (0, x2.1, x5.2, x2.2.2.1, x2.2.2.2.1, x2.2.2.2.2.1, x2.2.2.2.2.2.1, x2.2.2.2.2.2.2.1, x2.2.2.2.2.2.2.2)) else (Mo_readsWhole_J200 tape_m x2.1 length0_m x5.2 x2.2.2.1 x2.2.2.2.1 x2.2.2.2.2.1 x2.2.2.2.2.2.1 x2.2.2.2.2.2.2.1 x2.2.2.2.2.2.2.2))))))
noncomputable def Mo_isLetter (tape_m : Nat → Int32) (place0_m : Int32) (length0_m : Int32) : Option (Int32) :=
  ob (Mo_here tape_m place0_m length0_m) fun x1 =>
  ob (Mo_in (x1 - 97) 0 11) fun x2 =>
  gd (isB x2) (some x2)
noncomputable def Mo_readsLine_J274 (k0 : Int32) (k1 : Int32) (tape_m : Nat → Int32) (place0_m : Int32) (length0_m : Int32) (fault_m : Int32) (manyAt_m : Nat → Int32) (nextAt_m : Nat → Int32) (newLines_m : Int32) : Option (Int32 × Int32 × Int32 × (Nat → Int32) × Int32) :=
  gd (ix k1 48) (some (1, place0_m, fault_m, upd nextAt_m (k1 : Int32).toNatClampNeg k0, newLines_m))
noncomputable def Mo_readsLine_J239 (v1 : Int32) (v2 : Int32) (v3 : Int32) (k0 : Int32) (k1 : Int32) (tape_m : Nat → Int32) (place0_m : Int32) (length0_m : Int32) (fault_m : Int32) (manyAt_m : Nat → Int32) (nextAt_m : Nat → Int32) (newLines_m : Int32) : Option (Int32 × Int32 × Int32 × (Nat → Int32) × Int32) :=
  gd (ix k1 48) (if v2 = 0 then (gd (ix v3 48) (Mo_readsLine_J274 (((upd nextAt_m (k1 : Int32).toNatClampNeg k0) (v3 : Int32).toNatClampNeg) &&& (((1 : Int32) <<< (v1 &&& 31)) ^^^ (-1))) v3 tape_m place0_m length0_m fault_m manyAt_m (upd nextAt_m (k1 : Int32).toNatClampNeg k0) newLines_m)) else (gd (ix v3 48) (Mo_readsLine_J274 (((upd nextAt_m (k1 : Int32).toNatClampNeg k0) (v3 : Int32).toNatClampNeg) ||| ((1 : Int32) <<< (v1 &&& 31))) v3 tape_m place0_m length0_m fault_m manyAt_m (upd nextAt_m (k1 : Int32).toNatClampNeg k0) newLines_m)))
noncomputable def Mo_readsLine_J123 (v1 : Int32) (v2 : Int32) (tape_m : Nat → Int32) (place0_m : Int32) (length0_m : Int32) (fault_m : Int32) (manyAt_m : Nat → Int32) (nextAt_m : Nat → Int32) (newLines_m : Int32) : Option (Int32 × Int32 × Int32 × (Nat → Int32) × Int32) :=
  ob (Mo_isLetter tape_m (place0_m + 1) length0_m) fun x1 =>
  if x1 = 0 then (ob (Mo_wrongAt fault_m 1 (place0_m + 1)) fun x2 =>
  gd (isB x2.1) (some (x2.1, place0_m + 1, x2.2, nextAt_m, newLines_m))) else (ob (Mo_here tape_m (place0_m + 1) length0_m) fun x4 =>
  gd (ix 0 4) (if (x4 - 97) < (manyAt_m (0 : Int32).toNatClampNeg) then (if v1 = (x4 - 97) then (ob (Mo_wrongAt fault_m 8 (place0_m + 1)) fun x6 =>
  gd (isB x6.1) (some (x6.1, place0_m + 1, x6.2, nextAt_m, newLines_m))) else (if v2 = 0 then (gd (ix v1 48) (Mo_readsLine_J239 v1 v2 (x4 - 97) ((nextAt_m (v1 : Int32).toNatClampNeg) &&& (((1 : Int32) <<< ((x4 - 97) &&& 31)) ^^^ (-1))) v1 tape_m ((place0_m + 1) + 1) length0_m fault_m manyAt_m nextAt_m newLines_m)) else (gd (ix v1 48) (Mo_readsLine_J239 v1 v2 (x4 - 97) ((nextAt_m (v1 : Int32).toNatClampNeg) ||| ((1 : Int32) <<< ((x4 - 97) &&& 31))) v1 tape_m ((place0_m + 1) + 1) length0_m fault_m manyAt_m nextAt_m newLines_m)))) else (ob (Mo_wrongAt fault_m 7 (place0_m + 1)) fun x12 =>
  gd (isB x12.1) (some (x12.1, place0_m + 1, x12.2, nextAt_m, newLines_m)))))
noncomputable def Mo_readsLine_J99 (v1 : Int32) (k0 : Int32) (tape_m : Nat → Int32) (place0_m : Int32) (length0_m : Int32) (fault_m : Int32) (manyAt_m : Nat → Int32) (nextAt_m : Nat → Int32) (newLines_m : Int32) : Option (Int32 × Int32 × Int32 × (Nat → Int32) × Int32) :=
  if k0 = 0 then (ob (Mo_here tape_m place0_m length0_m) fun x1 =>
  if x1 = 47 then (Mo_readsLine_J123 v1 k0 tape_m place0_m length0_m fault_m manyAt_m nextAt_m newLines_m) else (ob (Mo_wrongAt fault_m 1 place0_m) fun x2 =>
  gd (isB x2.1) (some (x2.1, place0_m, x2.2, nextAt_m, newLines_m)))) else (Mo_readsLine_J123 v1 k0 tape_m place0_m length0_m fault_m manyAt_m nextAt_m newLines_m)
noncomputable def Mo_readsLine (tape_m : Nat → Int32) (place0_m : Int32) (length0_m : Int32) (fault_m : Int32) (manyAt_m : Nat → Int32) (nextAt_m : Nat → Int32) (newLines_m : Int32) : Option (Int32 × Int32 × Int32 × (Nat → Int32) × Int32) :=
  ob (Mo_isLetter tape_m place0_m length0_m) fun x1 =>
  if x1 = 0 then (ob (Mo_wrongAt fault_m 1 place0_m) fun x2 =>
  gd (isB x2.1) (some (x2.1, place0_m, x2.2, nextAt_m, newLines_m))) else (if newLines_m = 10 then (ob (Mo_wrongAt fault_m 4 place0_m) fun x4 =>
  gd (isB x4.1) (some (x4.1, place0_m, x4.2, nextAt_m, newLines_m))) else (ob (Mo_here tape_m place0_m length0_m) fun x6 =>
  gd (ix 0 4) (if (x6 - 97) < (manyAt_m (0 : Int32).toNatClampNeg) then (ob (Mo_here tape_m (place0_m + 1) length0_m) fun x8 =>
  if x8 = 45 then (Mo_readsLine_J99 (x6 - 97) 1 tape_m (place0_m + 1) length0_m fault_m manyAt_m nextAt_m (newLines_m + 1)) else (Mo_readsLine_J99 (x6 - 97) 0 tape_m (place0_m + 1) length0_m fault_m manyAt_m nextAt_m (newLines_m + 1))) else (ob (Mo_wrongAt fault_m 7 place0_m) fun x10 =>
  gd (isB x10.1) (some (x10.1, place0_m, x10.2, nextAt_m, newLines_m + 1))))))
noncomputable def Mo_land_L101_J130 (v3 : Int32) (k0 : Int32) (k1 : Int32) (now_m : Nat → Int32) (nextTo_m : Nat → Int32) (wells_m : Int32) (nextAt_m : Nat → Int32) : Option ((Int32 × (Nat → Int32) × (Nat → Int32)) ⊕ ((Nat → Int32) × (Nat → Int32))) :=
  gd (ix k1 12) (gd (ix (0 + v3) 27) (gd (ix (12 + v3) 27) (some (.inl (v3 + 1, upd (upd now_m (0 + v3 : Int32).toNatClampNeg 0) (12 + v3 : Int32).toNatClampNeg 40, upd nextTo_m (k1 : Int32).toNatClampNeg k0)))))
noncomputable def Mo_land_L101 (wells_m : Int32) (nextAt_m : Nat → Int32) : (Int32 × (Nat → Int32) × (Nat → Int32)) → Option ((Int32 × (Nat → Int32) × (Nat → Int32)) ⊕ ((Nat → Int32) × (Nat → Int32))) := fun s101 =>
  if s101.1 < 12 then (if s101.1 < wells_m then (gd (ix s101.1 48) (Mo_land_L101_J130 s101.1 (nextAt_m (s101.1 : Int32).toNatClampNeg) s101.1 s101.2.1 s101.2.2 wells_m nextAt_m)) else (Mo_land_L101_J130 s101.1 0 s101.1 s101.2.1 s101.2.2 wells_m nextAt_m)) else (some (.inr (s101.2.1, s101.2.2)))
noncomputable def Mo_land_L35_J71 (k0 : Int32) (tape_m : Nat → Int32) (place0_m : Int32) (length0_m : Int32) (fault_m : Int32) (manyAt_m : Nat → Int32) (nextAt_m : Nat → Int32) (newLines_m : Int32) : Option ((Int32 × Int32 × Int32 × (Nat → Int32) × Int32) ⊕ (Int32 × Int32 × Int32 × (Nat → Int32) × Int32)) :=
  some (.inl (k0, place0_m, fault_m, nextAt_m, newLines_m))
noncomputable def Mo_land_L35_J70 (tape_m : Nat → Int32) (place0_m : Int32) (length0_m : Int32) (fault_m : Int32) (manyAt_m : Nat → Int32) (nextAt_m : Nat → Int32) (newLines_m : Int32) : Option ((Int32 × Int32 × Int32 × (Nat → Int32) × Int32) ⊕ (Int32 × Int32 × Int32 × (Nat → Int32) × Int32)) :=
  Mo_land_L35_J71 0 tape_m place0_m length0_m fault_m manyAt_m nextAt_m newLines_m
noncomputable def Mo_land_L35 (tape_m : Nat → Int32) (length0_m : Int32) (manyAt_m : Nat → Int32) : (Int32 × Int32 × Int32 × (Nat → Int32) × Int32) → Option ((Int32 × Int32 × Int32 × (Nat → Int32) × Int32) ⊕ (Int32 × Int32 × Int32 × (Nat → Int32) × Int32)) := fun s35 =>
  if s35.1 = 0 then (some (.inr (s35.1, s35.2.1, s35.2.2.1, s35.2.2.2.1, s35.2.2.2.2))) else (if s35.2.1 < length0_m then (ob (Mo_takes tape_m s35.2.1 length0_m s35.2.2.1 59) fun x1 =>
  if x1.1 = 0 then (Mo_land_L35_J70 tape_m x1.2.1 length0_m x1.2.2 manyAt_m s35.2.2.2.1 s35.2.2.2.2) else (ob (Mo_readsLine tape_m x1.2.1 length0_m x1.2.2 manyAt_m s35.2.2.2.1 s35.2.2.2.2) fun x2 =>
  if x2.1 = 0 then (Mo_land_L35_J70 tape_m x2.2.1 length0_m x2.2.2.1 manyAt_m x2.2.2.2.1 x2.2.2.2.2) else (Mo_land_L35_J71 1 tape_m x2.2.1 length0_m x2.2.2.1 manyAt_m x2.2.2.2.1 x2.2.2.2.2))) else (some (.inr (s35.1, s35.2.1, s35.2.2.1, s35.2.2.2.1, s35.2.2.2.2))))
noncomputable def Mo_land_J75 (v2 : Int32) (now_m : Nat → Int32) (nextTo_m : Nat → Int32) (wells_m : Int32) (tape_m : Nat → Int32) (taped_m : Int32) (place0_m : Int32) (length0_m : Int32) (fault_m : Int32) (number0_m : Int32) (codeMany_m : Int32) (saidMany_m : Int32) (manyAt_m : Nat → Int32) (nextAt_m : Nat → Int32) (partAt_m : Nat → Int32) (newNext_m : Nat → Int32) (depth_m : Int32) (newLines_m : Int32) : Option (Int32 × (Nat → Int32) × (Nat → Int32) × Int32 × Int32 × Int32 × Int32 × Int32 × Int32 × Int32 × Int32 × (Nat → Int32) × (Nat → Int32) × (Nat → Int32) × (Nat → Int32) × Int32 × Int32) :=
  if v2 = 0 then (some (fault_m, now_m, nextTo_m, wells_m, 0, place0_m, length0_m, fault_m, number0_m, codeMany_m, saidMany_m, manyAt_m, nextAt_m, partAt_m, newNext_m, depth_m, newLines_m)) else (gd (ix 0 4) (ob (lp (Mo_land_L101 (manyAt_m (0 : Int32).toNatClampNeg) nextAt_m) (0, now_m, nextTo_m)) fun x2 =>
  gd (ix 24 27) (some (manyAt_m (0 : Int32).toNatClampNeg, upd x2.1 (24 : Int32).toNatClampNeg 0, x2.2, manyAt_m (0 : Int32).toNatClampNeg, 0, place0_m, length0_m, fault_m, number0_m, codeMany_m, saidMany_m, manyAt_m, nextAt_m, partAt_m, newNext_m, depth_m, newLines_m))))
noncomputable def Mo_land (now_m : Nat → Int32) (nextTo_m : Nat → Int32) (wells_m : Int32) (tape_m : Nat → Int32) (taped_m : Int32) (place0_m : Int32) (length0_m : Int32) (fault_m : Int32) (number0_m : Int32) (codeMany_m : Int32) (saidMany_m : Int32) (manyAt_m : Nat → Int32) (nextAt_m : Nat → Int32) (partAt_m : Nat → Int32) (newNext_m : Nat → Int32) (depth_m : Int32) (newLines_m : Int32) (a1 : Int32) : Option (Int32 × (Nat → Int32) × (Nat → Int32) × Int32 × Int32 × Int32 × Int32 × Int32 × Int32 × Int32 × Int32 × (Nat → Int32) × (Nat → Int32) × (Nat → Int32) × (Nat → Int32) × Int32 × Int32) :=
  ob (Mo_in a1 1 60) fun x1 =>
  if x1 = 0 then (some ((-1), now_m, nextTo_m, wells_m, taped_m, place0_m, length0_m, fault_m, number0_m, codeMany_m, saidMany_m, manyAt_m, nextAt_m, partAt_m, newNext_m, depth_m, newLines_m)) else (if a1 ≤ taped_m then (ob (Mo_beginsText place0_m length0_m codeMany_m saidMany_m a1) fun x2 =>
  ob (Mo_readsWhole tape_m x2.1 x2.2.1 fault_m number0_m manyAt_m nextAt_m partAt_m newNext_m depth_m) fun x3 =>
  ob (lp (Mo_land_L35 tape_m x2.2.1 x3.2.2.2.2.1) (x3.1, x3.2.1, x3.2.2.1, x3.2.2.2.2.2.1, 0)) fun x4 =>
  Mo_land_J75 x4.1 now_m nextTo_m wells_m tape_m taped_m x4.2.1 x2.2.1 x4.2.2.1 x3.2.2.2.1 x2.2.2.1 x2.2.2.2 x3.2.2.2.2.1 x4.2.2.2.1 x3.2.2.2.2.2.2.1 x3.2.2.2.2.2.2.2.1 x3.2.2.2.2.2.2.2.2 x4.2.2.2.2) else (some ((-1), now_m, nextTo_m, wells_m, taped_m, place0_m, length0_m, fault_m, number0_m, codeMany_m, saidMany_m, manyAt_m, nextAt_m, partAt_m, newNext_m, depth_m, newLines_m)))
noncomputable def Mo_readsJars (wells_m : Int32) (tape_m : Nat → Int32) (place0_m : Int32) (length0_m : Int32) (fault_m : Int32) (number0_m : Int32) (newJars_m : Nat → Int32) : Option (Int32 × Int32 × Int32 × Int32 × (Nat → Int32)) :=
  ob (Mo_isLetter tape_m place0_m length0_m) fun x1 =>
  if x1 = 0 then (ob (Mo_wrongAt fault_m 1 place0_m) fun x2 =>
  gd (isB x2.1) (some (x2.1, place0_m, x2.2, number0_m, newJars_m))) else (ob (Mo_here tape_m place0_m length0_m) fun x4 =>
  if (x4 - 97) < wells_m then (gd (ix (x4 - 97) 12) (if (newJars_m (x4 - 97 : Int32).toNatClampNeg) = (-1) then (ob (Mo_readsWithin tape_m (place0_m + 1) length0_m fault_m number0_m 0 40) fun x6 =>
  if x6.1 = 0 then (some (0, x6.2.1, x6.2.2.1, x6.2.2.2, newJars_m)) else (gd (ix (x4 - 97) 12) (some (1, x6.2.1, x6.2.2.1, x6.2.2.2, upd newJars_m (x4 - 97 : Int32).toNatClampNeg x6.2.2.2)))) else (ob (Mo_wrongAt fault_m 6 place0_m) fun x9 =>
  gd (isB x9.1) (some (x9.1, place0_m, x9.2, number0_m, newJars_m))))) else (ob (Mo_wrongAt fault_m 7 place0_m) fun x12 =>
  gd (isB x12.1) (some (x12.1, place0_m, x12.2, number0_m, newJars_m))))
noncomputable def Mo_laying_L27  : (Int32 × (Nat → Int32)) → Option ((Int32 × (Nat → Int32)) ⊕ (Nat → Int32)) := fun s27 =>
  if s27.1 < 12 then (gd (ix s27.1 12) (some (.inl (s27.1 + 1, upd s27.2 (s27.1 : Int32).toNatClampNeg (-1))))) else (some (.inr s27.2))
noncomputable def Mo_laying_L90 (wells_m : Int32) (newJars_m : Nat → Int32) : (Int32 × (Nat → Int32)) → Option ((Int32 × (Nat → Int32)) ⊕ (Nat → Int32)) := fun s90 =>
  if s90.1 < wells_m then (gd (ix s90.1 12) (ob (Mo_max 0 (newJars_m (s90.1 : Int32).toNatClampNeg)) fun x2 =>
  gd (ix (0 + s90.1) 27) (some (.inl (s90.1 + 1, upd s90.2 (0 + s90.1 : Int32).toNatClampNeg x2))))) else (some (.inr s90.2))
noncomputable def Mo_laying_L51 (wells_m : Int32) (tape_m : Nat → Int32) (length0_m : Int32) : (Int32 × Int32 × Int32 × Int32 × (Nat → Int32)) → Option ((Int32 × Int32 × Int32 × Int32 × (Nat → Int32)) ⊕ (Int32 × Int32 × Int32 × Int32 × (Nat → Int32))) := fun s51 =>
  if s51.1 = 0 then (some (.inr (s51.1, s51.2.1, s51.2.2.1, s51.2.2.2.1, s51.2.2.2.2))) else (if s51.2.1 < length0_m then (ob (Mo_readsJars wells_m tape_m s51.2.1 length0_m s51.2.2.1 s51.2.2.2.1 s51.2.2.2.2) fun x1 =>
  some (.inl (x1.1, x1.2.1, x1.2.2.1, x1.2.2.2.1, x1.2.2.2.2))) else (some (.inr (s51.1, s51.2.1, s51.2.2.1, s51.2.2.2.1, s51.2.2.2.2))))
noncomputable def Mo_laying_J74 (v2 : Int32) (now_m : Nat → Int32) (wells_m : Int32) (tape_m : Nat → Int32) (taped_m : Int32) (place0_m : Int32) (length0_m : Int32) (fault_m : Int32) (number0_m : Int32) (codeMany_m : Int32) (saidMany_m : Int32) (newJars_m : Nat → Int32) : Option (Int32 × (Nat → Int32) × Int32 × Int32 × Int32 × Int32 × Int32 × Int32 × Int32 × (Nat → Int32)) :=
  if v2 = 0 then (some (fault_m, now_m, 0, place0_m, length0_m, fault_m, number0_m, codeMany_m, saidMany_m, newJars_m)) else (ob (lp (Mo_laying_L90 wells_m newJars_m) (0, now_m)) fun x1 =>
  ob (Mo_jarsOfAll x1 wells_m) fun x2 =>
  some (x2, x1, 0, place0_m, length0_m, fault_m, number0_m, codeMany_m, saidMany_m, newJars_m))
noncomputable def Mo_laying (now_m : Nat → Int32) (wells_m : Int32) (tape_m : Nat → Int32) (taped_m : Int32) (place0_m : Int32) (length0_m : Int32) (fault_m : Int32) (number0_m : Int32) (codeMany_m : Int32) (saidMany_m : Int32) (newJars_m : Nat → Int32) (a1 : Int32) : Option (Int32 × (Nat → Int32) × Int32 × Int32 × Int32 × Int32 × Int32 × Int32 × Int32 × (Nat → Int32)) :=
  ob (Mo_in a1 1 60) fun x1 =>
  if x1 = 0 then (some ((-1), now_m, taped_m, place0_m, length0_m, fault_m, number0_m, codeMany_m, saidMany_m, newJars_m)) else (if a1 ≤ taped_m then (ob (Mo_beginsText place0_m length0_m codeMany_m saidMany_m a1) fun x2 =>
  ob (lp (Mo_laying_L27 ) (0, newJars_m)) fun x3 =>
  ob (Mo_readsJars wells_m tape_m x2.1 x2.2.1 fault_m number0_m x3) fun x4 =>
  ob (lp (Mo_laying_L51 wells_m tape_m x2.2.1) (x4.1, x4.2.1, x4.2.2.1, x4.2.2.2.1, x4.2.2.2.2)) fun x5 =>
  Mo_laying_J74 x5.1 now_m wells_m tape_m taped_m x5.2.1 x2.2.1 x5.2.2.1 x5.2.2.2.1 x2.2.2.1 x2.2.2.2 x5.2.2.2.2) else (some ((-1), now_m, taped_m, place0_m, length0_m, fault_m, number0_m, codeMany_m, saidMany_m, newJars_m)))
noncomputable def Mo_stepsOr99 (now_m : Nat → Int32) (farOf_m : Nat → Int32) (a1 : Int32) : Option (Int32) :=
  gd (ix 24 27) (ob (Mo_far farOf_m a1 (now_m (24 : Int32).toNatClampNeg)) fun x2 =>
  if x2 = (-2) then (some 99) else (some x2))
noncomputable def Mo_feels_L2 (v1 : Int32) : (Int32 × (Nat → Int32)) → Option ((Int32 × (Nat → Int32)) ⊕ (Nat → Int32)) := fun s2 =>
  if s2.1 < 5 then (gd (ix s2.1 9) (some (.inl (s2.1 + 1, upd s2.2 (s2.1 : Int32).toNatClampNeg 0)))) else (some (.inr s2.2))
noncomputable def Mo_feels (now_m : Nat → Int32) (wells_m : Int32) (facts_m : Nat → Int32) (a1 : Int32) : Option (Nat → Int32) :=
  ob (lp (Mo_feels_L2 a1) (0, facts_m)) fun x1 =>
  gd (ix 24 27) (gd (ix 5 9) (ob (Mo_jarsOfAll now_m wells_m) fun x4 =>
  gd (ix 6 9) (gd (ix 25 27) (gd (ix 7 9) (gd (ix 8 9) (some (upd (upd (upd (upd x1 (5 : Int32).toNatClampNeg (now_m (24 : Int32).toNatClampNeg)) (6 : Int32).toNatClampNeg x4) (7 : Int32).toNatClampNeg ((now_m (25 : Int32).toNatClampNeg) % 100)) (8 : Int32).toNatClampNeg a1)))))))
noncomputable def Mo_feelsStage (now_m : Nat → Int32) (wells_m : Int32) (farOf_m : Nat → Int32) (facts_m : Nat → Int32) (a1 : Int32) (a2 : Int32) (a3 : Int32) : Option (Nat → Int32) :=
  ob (Mo_feels now_m wells_m facts_m a3) fun x1 =>
  gd (ix 0 9) (gd (ix 1 9) (gd (ix (0 + a1) 27) (gd (ix 2 9) (gd (ix (0 + a2) 27) (gd (ix 3 9) (ob (Mo_stepsOr99 now_m farOf_m a2) fun x8 =>
  gd (ix 4 9) (some (upd (upd (upd (upd (upd x1 (0 : Int32).toNatClampNeg a1) (1 : Int32).toNatClampNeg a2) (2 : Int32).toNatClampNeg (now_m (0 + a1 : Int32).toNatClampNeg)) (3 : Int32).toNatClampNeg (now_m (0 + a2 : Int32).toNatClampNeg)) (4 : Int32).toNatClampNeg x8))))))))
noncomputable def Mo_feelsWell (now_m : Nat → Int32) (wells_m : Int32) (farOf_m : Nat → Int32) (facts_m : Nat → Int32) (a1 : Int32) (a2 : Int32) : Option (Nat → Int32) :=
  ob (Mo_feels now_m wells_m facts_m a2) fun x1 =>
  gd (ix 0 9) (gd (ix (0 + a1) 27) (gd (ix 2 9) (ob (Mo_stepsOr99 now_m farOf_m a1) fun x5 =>
  gd (ix 4 9) (some (upd (upd (upd x1 (0 : Int32).toNatClampNeg a1) (2 : Int32).toNatClampNeg (now_m (0 + a1 : Int32).toNatClampNeg)) (4 : Int32).toNatClampNeg x5)))))
noncomputable def Mo_draws (now_m : Nat → Int32) : Option (Int32 × (Nat → Int32)) :=
  gd (ix 26 27) (gd (ix 26 27) (gd (ix 26 27) (some (((upd now_m (26 : Int32).toNatClampNeg (((25173 * (now_m (26 : Int32).toNatClampNeg)) + 13849) % 65536)) (26 : Int32).toNatClampNeg) % 10, upd now_m (26 : Int32).toNatClampNeg (((25173 * (now_m (26 : Int32).toNatClampNeg)) + 13849) % 65536)))))
noncomputable def Mo_chosenStage_L19_J134 (v1 : Int32) (v2 : Int32) (v3 : Int32) (v4 : Int32) (v5 : Int32) (now_m : Nat → Int32) (nextTo_m : Nat → Int32) (wells_m : Int32) (farOf_m : Nat → Int32) (clauses_m : Int32) (codes_m : Nat → Int32) (clauseOf_m : Nat → Int32) (codeFrom_m : Nat → Int32) (codeHalf_m : Nat → Int32) (codeTo_m : Nat → Int32) (stack_m : Nat → Int32) (facts_m : Nat → Int32) : Option ((Int32 × Int32 × Int32 × (Nat → Int32) × (Nat → Int32)) ⊕ (Int32 × Int32 × (Nat → Int32) × (Nat → Int32))) :=
  some (.inl (v2, v3, v5 + 1, stack_m, facts_m))
noncomputable def Mo_chosenStage_L19 (v1 : Int32) (v4 : Int32) (now_m : Nat → Int32) (nextTo_m : Nat → Int32) (wells_m : Int32) (farOf_m : Nat → Int32) (clauses_m : Int32) (codes_m : Nat → Int32) (clauseOf_m : Nat → Int32) (codeFrom_m : Nat → Int32) (codeHalf_m : Nat → Int32) (codeTo_m : Nat → Int32) : (Int32 × Int32 × Int32 × (Nat → Int32) × (Nat → Int32)) → Option ((Int32 × Int32 × Int32 × (Nat → Int32) × (Nat → Int32)) ⊕ (Int32 × Int32 × (Nat → Int32) × (Nat → Int32))) := fun s19 =>
  if s19.2.2.1 < wells_m then (gd (ix v4 12) (ob (Mo_has (nextTo_m (v4 : Int32).toNatClampNeg) s19.2.2.1) fun x2 =>
  if x2 = 0 then (Mo_chosenStage_L19_J134 v1 s19.1 s19.2.1 v4 s19.2.2.1 now_m nextTo_m wells_m farOf_m clauses_m codes_m clauseOf_m codeFrom_m codeHalf_m codeTo_m s19.2.2.2.1 s19.2.2.2.2) else (gd (ix (0 + s19.2.2.1) 27) (gd (ix (12 + s19.2.2.1) 27) (if (now_m (0 + s19.2.2.1 : Int32).toNatClampNeg) < (now_m (12 + s19.2.2.1 : Int32).toNatClampNeg) then (ob (Mo_feelsStage now_m wells_m farOf_m s19.2.2.2.2 v4 s19.2.2.1 v1) fun x5 =>
  gd (ix (0 + v4) 27) (ob (Mo_byLaw clauses_m codes_m clauseOf_m codeFrom_m codeHalf_m codeTo_m s19.2.2.2.1 x5 99 2 9) fun x7 =>
  if (now_m (0 + v4 : Int32).toNatClampNeg) < x7.1 then (Mo_chosenStage_L19_J134 v1 s19.1 s19.2.1 v4 s19.2.2.1 now_m nextTo_m wells_m farOf_m clauses_m codes_m clauseOf_m codeFrom_m codeHalf_m codeTo_m x7.2 x5) else (ob (Mo_byLaw clauses_m codes_m clauseOf_m codeFrom_m codeHalf_m codeTo_m x7.2 x5 101 0 9999) fun x8 =>
  if x8.1 ≤ s19.2.1 then (Mo_chosenStage_L19_J134 v1 s19.1 s19.2.1 v4 s19.2.2.1 now_m nextTo_m wells_m farOf_m clauses_m codes_m clauseOf_m codeFrom_m codeHalf_m codeTo_m x8.2 x5) else (Mo_chosenStage_L19_J134 v1 ((12 * v4) + s19.2.2.1) x8.1 v4 s19.2.2.1 now_m nextTo_m wells_m farOf_m clauses_m codes_m clauseOf_m codeFrom_m codeHalf_m codeTo_m x8.2 x5)))) else (Mo_chosenStage_L19_J134 v1 s19.1 s19.2.1 v4 s19.2.2.1 now_m nextTo_m wells_m farOf_m clauses_m codes_m clauseOf_m codeFrom_m codeHalf_m codeTo_m s19.2.2.2.1 s19.2.2.2.2)))))) else (some (.inr (s19.1, s19.2.1, s19.2.2.2.1, s19.2.2.2.2)))
noncomputable def Mo_chosenStage_L7 (v1 : Int32) (now_m : Nat → Int32) (nextTo_m : Nat → Int32) (wells_m : Int32) (farOf_m : Nat → Int32) (clauses_m : Int32) (codes_m : Nat → Int32) (clauseOf_m : Nat → Int32) (codeFrom_m : Nat → Int32) (codeHalf_m : Nat → Int32) (codeTo_m : Nat → Int32) : (Int32 × Int32 × Int32 × (Nat → Int32) × (Nat → Int32)) → Option ((Int32 × Int32 × Int32 × (Nat → Int32) × (Nat → Int32)) ⊕ (Int32 × (Nat → Int32) × (Nat → Int32))) := fun s7 =>
  if s7.2.2.1 < wells_m then (ob (lp (Mo_chosenStage_L19 v1 s7.2.2.1 now_m nextTo_m wells_m farOf_m clauses_m codes_m clauseOf_m codeFrom_m codeHalf_m codeTo_m) (s7.1, s7.2.1, 0, s7.2.2.2.1, s7.2.2.2.2)) fun x1 =>
  some (.inl (x1.1, x1.2.1, s7.2.2.1 + 1, x1.2.2.1, x1.2.2.2))) else (some (.inr (s7.1, s7.2.2.2.1, s7.2.2.2.2)))
noncomputable def Mo_chosenStage (now_m : Nat → Int32) (nextTo_m : Nat → Int32) (wells_m : Int32) (farOf_m : Nat → Int32) (clauses_m : Int32) (codes_m : Nat → Int32) (clauseOf_m : Nat → Int32) (codeFrom_m : Nat → Int32) (codeHalf_m : Nat → Int32) (codeTo_m : Nat → Int32) (stack_m : Nat → Int32) (facts_m : Nat → Int32) (a1 : Int32) : Option (Int32 × (Nat → Int32) × (Nat → Int32)) :=
  ob (lp (Mo_chosenStage_L7 a1 now_m nextTo_m wells_m farOf_m clauses_m codes_m clauseOf_m codeFrom_m codeHalf_m codeTo_m) ((-1), 0, 0, stack_m, facts_m)) fun x1 =>
  some (x1.1, x1.2.1, x1.2.2)
/-! the reference, 3 -/
noncomputable def Mo_carriersGo (now_m : Nat → Int32) (nextTo_m : Nat → Int32) (wells_m : Int32) (farOf_m : Nat → Int32) (clauses_m : Int32) (codes_m : Nat → Int32) (clauseOf_m : Nat → Int32) (codeFrom_m : Nat → Int32) (codeHalf_m : Nat → Int32) (codeTo_m : Nat → Int32) (stack_m : Nat → Int32) (facts_m : Nat → Int32) (stagesNow_m : Int32) (a1 : Int32) : Option ((Nat → Int32) × (Nat → Int32) × (Nat → Int32) × Int32) :=
  ob (Mo_feels now_m wells_m facts_m a1) fun x1 =>
  ob (Mo_holdsAny clauses_m codes_m clauseOf_m codeHalf_m codeTo_m stack_m x1 120) fun x2 =>
  if x2.1 = 0 then (ob (Mo_chosenStage now_m nextTo_m wells_m farOf_m clauses_m codes_m clauseOf_m codeFrom_m codeHalf_m codeTo_m x2.2 x1 a1) fun x3 =>
  if x3.1 = (-1) then (some (now_m, x3.2.1, x3.2.2, stagesNow_m)) else (ob (Mo_feelsStage now_m wells_m farOf_m x3.2.2 (x3.1 / 12) (x3.1 % 12) a1) fun x4 =>
  gd (ix (0 + (x3.1 / 12)) 27) (ob (Mo_byLaw clauses_m codes_m clauseOf_m codeFrom_m codeHalf_m codeTo_m x3.2.1 x4 99 2 9) fun x6 =>
  gd (ix (0 + (x3.1 / 12)) 27) (gd (ix (0 + (x3.1 % 12)) 27) (gd (ix (0 + (x3.1 % 12)) 27) (some (upd (upd now_m (0 + (x3.1 / 12) : Int32).toNatClampNeg ((now_m (0 + (x3.1 / 12) : Int32).toNatClampNeg) - x6.1)) (0 + (x3.1 % 12) : Int32).toNatClampNeg (((upd now_m (0 + (x3.1 / 12) : Int32).toNatClampNeg ((now_m (0 + (x3.1 / 12) : Int32).toNatClampNeg) - x6.1)) (0 + (x3.1 % 12) : Int32).toNatClampNeg) + 1), x6.2, x4, stagesNow_m + 1))))))) else (some (now_m, x2.2, x1, stagesNow_m))
noncomputable def Mo_robbersGo_L2_J79 (v1 : Int32) (v2 : Int32) (now_m : Nat → Int32) (wells_m : Int32) (farOf_m : Nat → Int32) (clauses_m : Int32) (codes_m : Nat → Int32) (clauseOf_m : Nat → Int32) (codeFrom_m : Nat → Int32) (codeHalf_m : Nat → Int32) (codeTo_m : Nat → Int32) (stack_m : Nat → Int32) (facts_m : Nat → Int32) (robbedNow_m : Int32) : Option ((Int32 × (Nat → Int32) × (Nat → Int32) × (Nat → Int32) × Int32) ⊕ ((Nat → Int32) × (Nat → Int32) × (Nat → Int32) × Int32)) :=
  some (.inl (v2 + 1, now_m, stack_m, facts_m, robbedNow_m))
noncomputable def Mo_robbersGo_L2 (v1 : Int32) (wells_m : Int32) (farOf_m : Nat → Int32) (clauses_m : Int32) (codes_m : Nat → Int32) (clauseOf_m : Nat → Int32) (codeFrom_m : Nat → Int32) (codeHalf_m : Nat → Int32) (codeTo_m : Nat → Int32) : (Int32 × (Nat → Int32) × (Nat → Int32) × (Nat → Int32) × Int32) → Option ((Int32 × (Nat → Int32) × (Nat → Int32) × (Nat → Int32) × Int32) ⊕ ((Nat → Int32) × (Nat → Int32) × (Nat → Int32) × Int32)) := fun s2 =>
  if s2.1 < wells_m then (gd (ix (0 + s2.1) 27) (if (s2.2.1 (0 + s2.1 : Int32).toNatClampNeg) = 0 then (Mo_robbersGo_L2_J79 v1 s2.1 s2.2.1 wells_m farOf_m clauses_m codes_m clauseOf_m codeFrom_m codeHalf_m codeTo_m s2.2.2.1 s2.2.2.2.1 s2.2.2.2.2) else (ob (Mo_feelsWell s2.2.1 wells_m farOf_m s2.2.2.2.1 s2.1 v1) fun x2 =>
  ob (Mo_byLaw clauses_m codes_m clauseOf_m codeFrom_m codeHalf_m codeTo_m s2.2.2.1 x2 114 0 10) fun x3 =>
  ob (Mo_draws s2.2.1) fun x4 =>
  if x4.1 < x3.1 then (gd (ix (0 + s2.1) 27) (gd (ix (0 + s2.1) 27) (Mo_robbersGo_L2_J79 v1 s2.1 (upd x4.2 (0 + s2.1 : Int32).toNatClampNeg ((x4.2 (0 + s2.1 : Int32).toNatClampNeg) - 1)) wells_m farOf_m clauses_m codes_m clauseOf_m codeFrom_m codeHalf_m codeTo_m x3.2 x2 (s2.2.2.2.2 + 1)))) else (Mo_robbersGo_L2_J79 v1 s2.1 x4.2 wells_m farOf_m clauses_m codes_m clauseOf_m codeFrom_m codeHalf_m codeTo_m x3.2 x2 s2.2.2.2.2)))) else (some (.inr (s2.2.1, s2.2.2.1, s2.2.2.2.1, s2.2.2.2.2)))
noncomputable def Mo_robbersGo (now_m : Nat → Int32) (wells_m : Int32) (farOf_m : Nat → Int32) (clauses_m : Int32) (codes_m : Nat → Int32) (clauseOf_m : Nat → Int32) (codeFrom_m : Nat → Int32) (codeHalf_m : Nat → Int32) (codeTo_m : Nat → Int32) (stack_m : Nat → Int32) (facts_m : Nat → Int32) (robbedNow_m : Int32) (a1 : Int32) : Option ((Nat → Int32) × (Nat → Int32) × (Nat → Int32) × Int32) :=
  ob (lp (Mo_robbersGo_L2 a1 wells_m farOf_m clauses_m codes_m clauseOf_m codeFrom_m codeHalf_m codeTo_m) (0, now_m, stack_m, facts_m, robbedNow_m)) fun x1 =>
  some (x1.1, x1.2.1, x1.2.2.1, x1.2.2.2)
noncomputable def Mo_daysGo_L16 (v1 : Int32) (nextTo_m : Nat → Int32) (wells_m : Int32) (farOf_m : Nat → Int32) (clauses_m : Int32) (codes_m : Nat → Int32) (clauseOf_m : Nat → Int32) (codeFrom_m : Nat → Int32) (codeHalf_m : Nat → Int32) (codeTo_m : Nat → Int32) : (Int32 × (Nat → Int32) × (Nat → Int32) × (Nat → Int32) × Int32 × Int32) → Option ((Int32 × (Nat → Int32) × (Nat → Int32) × (Nat → Int32) × Int32 × Int32) ⊕ ((Nat → Int32) × (Nat → Int32) × (Nat → Int32) × Int32 × Int32)) := fun s16 =>
  if s16.1 < v1 then (gd (ix 25 27) (if (s16.2.1 (25 : Int32).toNatClampNeg) < 9999 then (ob (Mo_draws s16.2.1) fun x2 =>
  ob (Mo_carriersGo x2.2 nextTo_m wells_m farOf_m clauses_m codes_m clauseOf_m codeFrom_m codeHalf_m codeTo_m s16.2.2.1 s16.2.2.2.1 s16.2.2.2.2.1 x2.1) fun x3 =>
  ob (Mo_robbersGo x3.1 wells_m farOf_m clauses_m codes_m clauseOf_m codeFrom_m codeHalf_m codeTo_m x3.2.1 x3.2.2.1 s16.2.2.2.2.2 x2.1) fun x4 =>
  gd (ix 25 27) (gd (ix 25 27) (some (.inl (s16.1 + 1, upd x4.1 (25 : Int32).toNatClampNeg ((x4.1 (25 : Int32).toNatClampNeg) + 1), x4.2.1, x4.2.2.1, x3.2.2.2, x4.2.2.2))))) else (some (.inr (s16.2.1, s16.2.2.1, s16.2.2.2.1, s16.2.2.2.2.1, s16.2.2.2.2.2))))) else (some (.inr (s16.2.1, s16.2.2.1, s16.2.2.2.1, s16.2.2.2.2.1, s16.2.2.2.2.2)))
noncomputable def Mo_daysGo (now_m : Nat → Int32) (nextTo_m : Nat → Int32) (wells_m : Int32) (farOf_m : Nat → Int32) (line_m : Nat → Int32) (clauses_m : Int32) (codes_m : Nat → Int32) (clauseOf_m : Nat → Int32) (codeFrom_m : Nat → Int32) (codeHalf_m : Nat → Int32) (codeTo_m : Nat → Int32) (stack_m : Nat → Int32) (facts_m : Nat → Int32) (stagesNow_m : Int32) (robbedNow_m : Int32) (a1 : Int32) : Option ((Nat → Int32) × (Nat → Int32) × (Nat → Int32) × (Nat → Int32) × (Nat → Int32) × Int32 × Int32) :=
  ob (Mo_laysSteps nextTo_m wells_m farOf_m line_m) fun x1 =>
  ob (lp (Mo_daysGo_L16 a1 nextTo_m wells_m x1.1 clauses_m codes_m clauseOf_m codeFrom_m codeHalf_m codeTo_m) (0, now_m, stack_m, facts_m, 0, 0)) fun x2 =>
  some (x2.1, x1.1, x1.2, x2.2.1, x2.2.2.1, x2.2.2.2.1, x2.2.2.2.2)
noncomputable def Mo_days (now_m : Nat → Int32) (nextTo_m : Nat → Int32) (wells_m : Int32) (farOf_m : Nat → Int32) (line_m : Nat → Int32) (clauses_m : Int32) (codes_m : Nat → Int32) (clauseOf_m : Nat → Int32) (codeFrom_m : Nat → Int32) (codeHalf_m : Nat → Int32) (codeTo_m : Nat → Int32) (stack_m : Nat → Int32) (facts_m : Nat → Int32) (stagesNow_m : Int32) (robbedNow_m : Int32) (a1 : Int32) : Option (Int32 × (Nat → Int32) × (Nat → Int32) × (Nat → Int32) × (Nat → Int32) × (Nat → Int32) × Int32 × Int32) :=
  ob (Mo_in a1 1 100) fun x1 =>
  if x1 = 0 then (some ((-1), now_m, farOf_m, line_m, stack_m, facts_m, stagesNow_m, robbedNow_m)) else (ob (Mo_daysGo now_m nextTo_m wells_m farOf_m line_m clauses_m codes_m clauseOf_m codeFrom_m codeHalf_m codeTo_m stack_m facts_m stagesNow_m robbedNow_m a1) fun x2 =>
  some (x2.2.2.2.2.2.1, x2.1, x2.2.1, x2.2.2.1, x2.2.2.2.1, x2.2.2.2.2.1, x2.2.2.2.2.2.1, x2.2.2.2.2.2.2))
noncomputable def Mo_tried_J94 (k0 : Int32) (now_m : Nat → Int32) (aside_m : Nat → Int32) (nextTo_m : Nat → Int32) (wells_m : Int32) (farOf_m : Nat → Int32) (line_m : Nat → Int32) (clauses_m : Int32) (codes_m : Nat → Int32) (clauseOf_m : Nat → Int32) (codeFrom_m : Nat → Int32) (codeHalf_m : Nat → Int32) (codeTo_m : Nat → Int32) (stack_m : Nat → Int32) (facts_m : Nat → Int32) (stagesNow_m : Int32) (robbedNow_m : Int32) : Option (Int32 × (Nat → Int32) × (Nat → Int32) × (Nat → Int32) × (Nat → Int32) × (Nat → Int32) × (Nat → Int32) × Int32 × Int32) :=
  ob (Mo_copies aside_m now_m) fun x1 =>
  some (k0, x1, aside_m, farOf_m, line_m, stack_m, facts_m, stagesNow_m, robbedNow_m)
noncomputable def Mo_tried_J32 (v1 : Int32) (v2 : Int32) (now_m : Nat → Int32) (aside_m : Nat → Int32) (nextTo_m : Nat → Int32) (wells_m : Int32) (farOf_m : Nat → Int32) (line_m : Nat → Int32) (clauses_m : Int32) (codes_m : Nat → Int32) (clauseOf_m : Nat → Int32) (codeFrom_m : Nat → Int32) (codeHalf_m : Nat → Int32) (codeTo_m : Nat → Int32) (stack_m : Nat → Int32) (facts_m : Nat → Int32) (stagesNow_m : Int32) (robbedNow_m : Int32) : Option (Int32 × (Nat → Int32) × (Nat → Int32) × (Nat → Int32) × (Nat → Int32) × (Nat → Int32) × (Nat → Int32) × Int32 × Int32) :=
  ob (Mo_copies now_m aside_m) fun x1 =>
  ob (Mo_daysGo now_m nextTo_m wells_m farOf_m line_m clauses_m codes_m clauseOf_m codeFrom_m codeHalf_m codeTo_m stack_m facts_m stagesNow_m robbedNow_m v1) fun x2 =>
  if v2 = 0 then (Mo_tried_J94 x2.2.2.2.2.2.1 x2.1 x1 nextTo_m wells_m x2.2.1 x2.2.2.1 clauses_m codes_m clauseOf_m codeFrom_m codeHalf_m codeTo_m x2.2.2.2.1 x2.2.2.2.2.1 x2.2.2.2.2.2.1 x2.2.2.2.2.2.2) else (if v2 = 1 then (Mo_tried_J94 x2.2.2.2.2.2.2 x2.1 x1 nextTo_m wells_m x2.2.1 x2.2.2.1 clauses_m codes_m clauseOf_m codeFrom_m codeHalf_m codeTo_m x2.2.2.2.1 x2.2.2.2.2.1 x2.2.2.2.2.2.1 x2.2.2.2.2.2.2) else (if v2 = 2 then (ob (Mo_jarsOfAll x2.1 wells_m) fun x3 =>
  Mo_tried_J94 x3 x2.1 x1 nextTo_m wells_m x2.2.1 x2.2.2.1 clauses_m codes_m clauseOf_m codeFrom_m codeHalf_m codeTo_m x2.2.2.2.1 x2.2.2.2.2.1 x2.2.2.2.2.2.1 x2.2.2.2.2.2.2) else (gd (ix ((0 + v2) - 10) 27) (Mo_tried_J94 (x2.1 ((0 + v2) - 10 : Int32).toNatClampNeg) x2.1 x1 nextTo_m wells_m x2.2.1 x2.2.2.1 clauses_m codes_m clauseOf_m codeFrom_m codeHalf_m codeTo_m x2.2.2.2.1 x2.2.2.2.2.1 x2.2.2.2.2.2.1 x2.2.2.2.2.2.2))))
noncomputable def Mo_tried (now_m : Nat → Int32) (aside_m : Nat → Int32) (nextTo_m : Nat → Int32) (wells_m : Int32) (farOf_m : Nat → Int32) (line_m : Nat → Int32) (clauses_m : Int32) (codes_m : Nat → Int32) (clauseOf_m : Nat → Int32) (codeFrom_m : Nat → Int32) (codeHalf_m : Nat → Int32) (codeTo_m : Nat → Int32) (stack_m : Nat → Int32) (facts_m : Nat → Int32) (stagesNow_m : Int32) (robbedNow_m : Int32) (a1 : Int32) (a2 : Int32) : Option (Int32 × (Nat → Int32) × (Nat → Int32) × (Nat → Int32) × (Nat → Int32) × (Nat → Int32) × (Nat → Int32) × Int32 × Int32) :=
  ob (Mo_in a1 1 100) fun x1 =>
  if x1 = 0 then (some ((-1), now_m, aside_m, farOf_m, line_m, stack_m, facts_m, stagesNow_m, robbedNow_m)) else (ob (Mo_in a2 0 2) fun x2 =>
  if x2 = 0 then (ob (Mo_isWell wells_m (a2 - 10)) fun x3 =>
  if x3 = 0 then (some ((-1), now_m, aside_m, farOf_m, line_m, stack_m, facts_m, stagesNow_m, robbedNow_m)) else (Mo_tried_J32 a1 a2 now_m aside_m nextTo_m wells_m farOf_m line_m clauses_m codes_m clauseOf_m codeFrom_m codeHalf_m codeTo_m stack_m facts_m stagesNow_m robbedNow_m)) else (Mo_tried_J32 a1 a2 now_m aside_m nextTo_m wells_m farOf_m line_m clauses_m codes_m clauseOf_m codeFrom_m codeHalf_m codeTo_m stack_m facts_m stagesNow_m robbedNow_m))
noncomputable def Mo_wellIs (now_m : Nat → Int32) (nextTo_m : Nat → Int32) (wells_m : Int32) (farOf_m : Nat → Int32) (line_m : Nat → Int32) (a1 : Int32) (a2 : Int32) : Option (Int32 × (Nat → Int32) × (Nat → Int32)) :=
  ob (Mo_isWell wells_m a1) fun x1 =>
  if x1 = 0 then (some ((-1), farOf_m, line_m)) else (if a2 = 0 then (gd (ix (0 + a1) 27) (some (now_m (0 + a1 : Int32).toNatClampNeg, farOf_m, line_m))) else (if a2 = 1 then (gd (ix (12 + a1) 27) (some (now_m (12 + a1 : Int32).toNatClampNeg, farOf_m, line_m))) else (if a2 = 2 then (gd (ix a1 12) (some (nextTo_m (a1 : Int32).toNatClampNeg, farOf_m, line_m))) else (if a2 = 3 then (gd (ix 24 27) (ob (Mo_steps nextTo_m wells_m farOf_m line_m a1 (now_m (24 : Int32).toNatClampNeg)) fun x10 =>
  some (x10.1, x10.2.1, x10.2.2))) else (some ((-1), farOf_m, line_m))))))
noncomputable def Mo_jarsIn (a0 : Int32) (a1 : Int32) : Option (Int32) :=
  some ((a0 >>> ((4 * a1) &&& 31)) &&& 15)
noncomputable def Mo_one (a0 : Int32) : Option (Int32) :=
  some ((1 : Int32) <<< ((4 * a0) &&& 31))
noncomputable def Mo_placeOf_L9 (v1 : Int32) (slotFor_m : Nat → Int32) (stateAt_m : Nat → Int32) : Int32 → Option ((Int32) ⊕ (Int32)) := fun s9 =>
  gd (ix s9 262144) (if (slotFor_m (s9 : Int32).toNatClampNeg) = 0 then (some (.inr s9)) else (gd (ix s9 262144) (gd (ix ((slotFor_m (s9 : Int32).toNatClampNeg) - 1) 131072) (if (stateAt_m ((slotFor_m (s9 : Int32).toNatClampNeg) - 1 : Int32).toNatClampNeg) = v1 then (some (.inr s9)) else (some (.inl ((s9 + 1) % 262144)))))))
noncomputable def Mo_placeOf_J45 (v1 : Int32) (v2 : Int32) (slotFor_m : Nat → Int32) (stateAt_m : Nat → Int32) (slotOf_m : Nat → Int32) (states_m : Int32) : Option (Int32 × (Nat → Int32) × (Nat → Int32) × (Nat → Int32) × Int32) :=
  gd (ix v2 262144) (if (slotFor_m (v2 : Int32).toNatClampNeg) = 0 then (gd (ix states_m 131072) (gd (ix states_m 131072) (gd (ix v2 262144) (some ((states_m + 1) - 1, upd slotFor_m (v2 : Int32).toNatClampNeg (states_m + 1), upd stateAt_m (states_m : Int32).toNatClampNeg v1, upd slotOf_m (states_m : Int32).toNatClampNeg v2, states_m + 1))))) else (gd (ix v2 262144) (some ((slotFor_m (v2 : Int32).toNatClampNeg) - 1, slotFor_m, stateAt_m, slotOf_m, states_m))))
noncomputable def Mo_placeOf (slotFor_m : Nat → Int32) (stateAt_m : Nat → Int32) (slotOf_m : Nat → Int32) (states_m : Int32) (a1 : Int32) : Option (Int32 × (Nat → Int32) × (Nat → Int32) × (Nat → Int32) × Int32) :=
  ob (lp (Mo_placeOf_L9 a1 slotFor_m stateAt_m) (juS (a1 * (-1640531527)) 14)) fun x1 =>
  Mo_placeOf_J45 a1 x1 slotFor_m stateAt_m slotOf_m states_m
noncomputable def Mo_clearsStates_L2 (slotOf_m : Nat → Int32) (states_m : Int32) : (Int32 × (Nat → Int32)) → Option ((Int32 × (Nat → Int32)) ⊕ (Nat → Int32)) := fun s2 =>
  if s2.1 < states_m then (gd (ix s2.1 131072) (gd (ix (slotOf_m (s2.1 : Int32).toNatClampNeg) 262144) (some (.inl (s2.1 + 1, upd s2.2 (slotOf_m (s2.1 : Int32).toNatClampNeg : Int32).toNatClampNeg 0))))) else (some (.inr s2.2))
noncomputable def Mo_clearsStates (slotFor_m : Nat → Int32) (slotOf_m : Nat → Int32) (states_m : Int32) : Option ((Nat → Int32) × Int32) :=
  ob (lp (Mo_clearsStates_L2 slotOf_m states_m) (0, slotFor_m)) fun x1 =>
  some (x1, 0)
noncomputable def Mo_stateNow_L4 (now_m : Nat → Int32) (wells_m : Int32) : (Int32 × Int32) → Option ((Int32 × Int32) ⊕ (Int32)) := fun s4 =>
  if s4.2 < wells_m then (gd (ix (0 + s4.2) 27) (some (.inl (s4.1 ||| ((now_m (0 + s4.2 : Int32).toNatClampNeg) <<< ((4 * s4.2) &&& 31)), s4.2 + 1)))) else (some (.inr s4.1))
noncomputable def Mo_stateNow (now_m : Nat → Int32) (wells_m : Int32) : Option (Int32) :=
  ob (lp (Mo_stateNow_L4 now_m wells_m) (0, 0)) fun x1 =>
  some x1
noncomputable def Mo_reaches_J59 (k0 : Int32) (k1 : Int32) (slotFor_m : Nat → Int32) (stateAt_m : Nat → Int32) (slotOf_m : Nat → Int32) (firstAt_m : Nat → Int32) (movesTo_m : Nat → Int32) (states_m : Int32) : Option ((Nat → Int32) × (Nat → Int32) × (Nat → Int32) × (Nat → Int32) × (Nat → Int32) × Int32) :=
  gd (ix k1 131072) (some (slotFor_m, stateAt_m, slotOf_m, upd firstAt_m (k1 : Int32).toNatClampNeg k0, movesTo_m, states_m))
noncomputable def Mo_reaches (slotFor_m : Nat → Int32) (stateAt_m : Nat → Int32) (slotOf_m : Nat → Int32) (firstAt_m : Nat → Int32) (movesTo_m : Nat → Int32) (states_m : Int32) (a1 : Int32) (a2 : Int32) (a3 : Int32) : Option ((Nat → Int32) × (Nat → Int32) × (Nat → Int32) × (Nat → Int32) × (Nat → Int32) × Int32) :=
  ob (Mo_placeOf slotFor_m stateAt_m slotOf_m states_m a2) fun x1 =>
  if x1.2.2.2.2 = states_m then (some (x1.2.1, x1.2.2.1, x1.2.2.2.1, firstAt_m, movesTo_m, x1.2.2.2.2)) else (gd (ix a1 131072) (gd (ix x1.1 131072) (if a1 = 0 then (Mo_reaches_J59 a3 x1.1 x1.2.1 x1.2.2.1 x1.2.2.2.1 firstAt_m (upd movesTo_m (x1.1 : Int32).toNatClampNeg (vp_nar .byte (jB ((movesTo_m (a1 : Int32).toNatClampNeg) + 1)))) x1.2.2.2.2) else (gd (ix a1 131072) (Mo_reaches_J59 (firstAt_m (a1 : Int32).toNatClampNeg) x1.1 x1.2.1 x1.2.2.1 x1.2.2.2.1 firstAt_m (upd movesTo_m (x1.1 : Int32).toNatClampNeg (vp_nar .byte (jB ((movesTo_m (a1 : Int32).toNatClampNeg) + 1)))) x1.2.2.2.2)))))
noncomputable def Mo_movesOn_L22_J85 (v1 : Int32) (v2 : Int32) (v3 : Int32) (v4 : Int32) (v5 : Int32) (nextTo_m : Nat → Int32) (wells_m : Int32) (slotFor_m : Nat → Int32) (stateAt_m : Nat → Int32) (slotOf_m : Nat → Int32) (firstAt_m : Nat → Int32) (movesTo_m : Nat → Int32) (states_m : Int32) : Option ((Int32 × (Nat → Int32) × (Nat → Int32) × (Nat → Int32) × (Nat → Int32) × (Nat → Int32) × Int32) ⊕ ((Nat → Int32) × (Nat → Int32) × (Nat → Int32) × (Nat → Int32) × (Nat → Int32) × Int32)) :=
  some (.inl (v5 + 1, slotFor_m, stateAt_m, slotOf_m, firstAt_m, movesTo_m, states_m))
noncomputable def Mo_movesOn_L22 (v1 : Int32) (v2 : Int32) (v3 : Int32) (v4 : Int32) (nextTo_m : Nat → Int32) (wells_m : Int32) : (Int32 × (Nat → Int32) × (Nat → Int32) × (Nat → Int32) × (Nat → Int32) × (Nat → Int32) × Int32) → Option ((Int32 × (Nat → Int32) × (Nat → Int32) × (Nat → Int32) × (Nat → Int32) × (Nat → Int32) × Int32) ⊕ ((Nat → Int32) × (Nat → Int32) × (Nat → Int32) × (Nat → Int32) × (Nat → Int32) × Int32)) := fun s22 =>
  if s22.1 < wells_m then (ob (Mo_jarsIn v3 v4) fun x1 =>
  if x1 ≤ 1 then (some (.inr (s22.2.1, s22.2.2.1, s22.2.2.2.1, s22.2.2.2.2.1, s22.2.2.2.2.2.1, s22.2.2.2.2.2.2))) else (gd (ix v4 12) (ob (Mo_has (nextTo_m (v4 : Int32).toNatClampNeg) s22.1) fun x3 =>
  if x3 = 0 then (Mo_movesOn_L22_J85 v1 v2 v3 v4 s22.1 nextTo_m wells_m s22.2.1 s22.2.2.1 s22.2.2.2.1 s22.2.2.2.2.1 s22.2.2.2.2.2.1 s22.2.2.2.2.2.2) else (ob (Mo_one v4) fun x4 =>
  ob (Mo_one s22.1) fun x5 =>
  ob (Mo_reaches s22.2.1 s22.2.2.1 s22.2.2.2.1 s22.2.2.2.2.1 s22.2.2.2.2.2.1 s22.2.2.2.2.2.2 v1 ((v3 - (2 * x4)) + x5) ((272 * v4) + s22.1)) fun x6 =>
  Mo_movesOn_L22_J85 v1 v2 v3 v4 s22.1 nextTo_m wells_m x6.1 x6.2.1 x6.2.2.1 x6.2.2.2.1 x6.2.2.2.2.1 x6.2.2.2.2.2)))) else (some (.inr (s22.2.1, s22.2.2.1, s22.2.2.2.1, s22.2.2.2.2.1, s22.2.2.2.2.2.1, s22.2.2.2.2.2.2)))
noncomputable def Mo_movesOn_L140_J220 (v1 : Int32) (v2 : Int32) (v3 : Int32) (v4 : Int32) (v5 : Int32) (v6 : Int32) (nextTo_m : Nat → Int32) (wells_m : Int32) (slotFor_m : Nat → Int32) (stateAt_m : Nat → Int32) (slotOf_m : Nat → Int32) (firstAt_m : Nat → Int32) (movesTo_m : Nat → Int32) (states_m : Int32) : Option ((Int32 × (Nat → Int32) × (Nat → Int32) × (Nat → Int32) × (Nat → Int32) × (Nat → Int32) × Int32) ⊕ ((Nat → Int32) × (Nat → Int32) × (Nat → Int32) × (Nat → Int32) × (Nat → Int32) × Int32)) :=
  some (.inl (v6 + 1, slotFor_m, stateAt_m, slotOf_m, firstAt_m, movesTo_m, states_m))
noncomputable def Mo_movesOn_L140 (v1 : Int32) (v2 : Int32) (v3 : Int32) (v4 : Int32) (v5 : Int32) (nextTo_m : Nat → Int32) (wells_m : Int32) : (Int32 × (Nat → Int32) × (Nat → Int32) × (Nat → Int32) × (Nat → Int32) × (Nat → Int32) × Int32) → Option ((Int32 × (Nat → Int32) × (Nat → Int32) × (Nat → Int32) × (Nat → Int32) × (Nat → Int32) × Int32) ⊕ ((Nat → Int32) × (Nat → Int32) × (Nat → Int32) × (Nat → Int32) × (Nat → Int32) × Int32)) := fun s140 =>
  if s140.1 < wells_m then (ob (Mo_jarsIn v3 v5) fun x1 =>
  if x1 ≤ 0 then (some (.inr (s140.2.1, s140.2.2.1, s140.2.2.2.1, s140.2.2.2.2.1, s140.2.2.2.2.2.1, s140.2.2.2.2.2.2))) else (gd (ix v4 12) (gd (ix v5 12) (ob (Mo_has ((nextTo_m (v4 : Int32).toNatClampNeg) &&& (nextTo_m (v5 : Int32).toNatClampNeg)) s140.1) fun x4 =>
  if x4 = 0 then (Mo_movesOn_L140_J220 v1 v2 v3 v4 v5 s140.1 nextTo_m wells_m s140.2.1 s140.2.2.1 s140.2.2.2.1 s140.2.2.2.2.1 s140.2.2.2.2.2.1 s140.2.2.2.2.2.2) else (ob (Mo_one v4) fun x5 =>
  ob (Mo_one v5) fun x6 =>
  ob (Mo_one s140.1) fun x7 =>
  ob (Mo_reaches s140.2.1 s140.2.2.1 s140.2.2.2.1 s140.2.2.2.2.1 s140.2.2.2.2.2.1 s140.2.2.2.2.2.2 v1 (((v3 - x5) - x6) + x7) (((256 * v4) + (16 * v5)) + s140.1)) fun x8 =>
  Mo_movesOn_L140_J220 v1 v2 v3 v4 v5 s140.1 nextTo_m wells_m x8.1 x8.2.1 x8.2.2.1 x8.2.2.2.1 x8.2.2.2.2.1 x8.2.2.2.2.2))))) else (some (.inr (s140.2.1, s140.2.2.1, s140.2.2.2.1, s140.2.2.2.2.1, s140.2.2.2.2.2.1, s140.2.2.2.2.2.2)))
noncomputable def Mo_movesOn_L10_J91 (v1 : Int32) (v2 : Int32) (v3 : Int32) (v4 : Int32) (nextTo_m : Nat → Int32) (wells_m : Int32) (slotFor_m : Nat → Int32) (stateAt_m : Nat → Int32) (slotOf_m : Nat → Int32) (firstAt_m : Nat → Int32) (movesTo_m : Nat → Int32) (states_m : Int32) : Option ((Int32 × (Nat → Int32) × (Nat → Int32) × (Nat → Int32) × (Nat → Int32) × (Nat → Int32) × Int32) ⊕ ((Nat → Int32) × (Nat → Int32) × (Nat → Int32) × (Nat → Int32) × (Nat → Int32) × Int32)) :=
  some (.inl (v4 + 1, slotFor_m, stateAt_m, slotOf_m, firstAt_m, movesTo_m, states_m))
noncomputable def Mo_movesOn_L10 (v1 : Int32) (v2 : Int32) (v3 : Int32) (nextTo_m : Nat → Int32) (wells_m : Int32) : (Int32 × (Nat → Int32) × (Nat → Int32) × (Nat → Int32) × (Nat → Int32) × (Nat → Int32) × Int32) → Option ((Int32 × (Nat → Int32) × (Nat → Int32) × (Nat → Int32) × (Nat → Int32) × (Nat → Int32) × Int32) ⊕ ((Nat → Int32) × (Nat → Int32) × (Nat → Int32) × (Nat → Int32) × (Nat → Int32) × Int32)) := fun s10 =>
  if s10.1 < wells_m then (ob (lp (Mo_movesOn_L22 v1 v2 v3 s10.1 nextTo_m wells_m) (0, s10.2.1, s10.2.2.1, s10.2.2.2.1, s10.2.2.2.2.1, s10.2.2.2.2.2.1, s10.2.2.2.2.2.2)) fun x1 =>
  Mo_movesOn_L10_J91 v1 v2 v3 s10.1 nextTo_m wells_m x1.1 x1.2.1 x1.2.2.1 x1.2.2.2.1 x1.2.2.2.2.1 x1.2.2.2.2.2) else (some (.inr (s10.2.1, s10.2.2.1, s10.2.2.2.1, s10.2.2.2.2.1, s10.2.2.2.2.2.1, s10.2.2.2.2.2.2)))
noncomputable def Mo_movesOn_L119_J226 (v1 : Int32) (v2 : Int32) (v3 : Int32) (v4 : Int32) (v5 : Int32) (nextTo_m : Nat → Int32) (wells_m : Int32) (slotFor_m : Nat → Int32) (stateAt_m : Nat → Int32) (slotOf_m : Nat → Int32) (firstAt_m : Nat → Int32) (movesTo_m : Nat → Int32) (states_m : Int32) : Option ((Int32 × (Nat → Int32) × (Nat → Int32) × (Nat → Int32) × (Nat → Int32) × (Nat → Int32) × Int32) ⊕ ((Nat → Int32) × (Nat → Int32) × (Nat → Int32) × (Nat → Int32) × (Nat → Int32) × Int32)) :=
  some (.inl (v5 + 1, slotFor_m, stateAt_m, slotOf_m, firstAt_m, movesTo_m, states_m))
noncomputable def Mo_movesOn_L119 (v1 : Int32) (v2 : Int32) (v3 : Int32) (v4 : Int32) (nextTo_m : Nat → Int32) (wells_m : Int32) : (Int32 × (Nat → Int32) × (Nat → Int32) × (Nat → Int32) × (Nat → Int32) × (Nat → Int32) × Int32) → Option ((Int32 × (Nat → Int32) × (Nat → Int32) × (Nat → Int32) × (Nat → Int32) × (Nat → Int32) × Int32) ⊕ ((Nat → Int32) × (Nat → Int32) × (Nat → Int32) × (Nat → Int32) × (Nat → Int32) × Int32)) := fun s119 =>
  if s119.1 < wells_m then (ob (Mo_jarsIn v3 v4) fun x1 =>
  if x1 ≤ 0 then (some (.inr (s119.2.1, s119.2.2.1, s119.2.2.2.1, s119.2.2.2.2.1, s119.2.2.2.2.2.1, s119.2.2.2.2.2.2))) else (ob (lp (Mo_movesOn_L140 v1 v2 v3 v4 s119.1 nextTo_m wells_m) (0, s119.2.1, s119.2.2.1, s119.2.2.2.1, s119.2.2.2.2.1, s119.2.2.2.2.2.1, s119.2.2.2.2.2.2)) fun x2 =>
  Mo_movesOn_L119_J226 v1 v2 v3 v4 s119.1 nextTo_m wells_m x2.1 x2.2.1 x2.2.2.1 x2.2.2.2.1 x2.2.2.2.2.1 x2.2.2.2.2.2)) else (some (.inr (s119.2.1, s119.2.2.1, s119.2.2.2.1, s119.2.2.2.2.1, s119.2.2.2.2.2.1, s119.2.2.2.2.2.2)))
noncomputable def Mo_movesOn_L100_J232 (v1 : Int32) (v2 : Int32) (v3 : Int32) (v4 : Int32) (nextTo_m : Nat → Int32) (wells_m : Int32) (slotFor_m : Nat → Int32) (stateAt_m : Nat → Int32) (slotOf_m : Nat → Int32) (firstAt_m : Nat → Int32) (movesTo_m : Nat → Int32) (states_m : Int32) : Option ((Int32 × (Nat → Int32) × (Nat → Int32) × (Nat → Int32) × (Nat → Int32) × (Nat → Int32) × Int32) ⊕ ((Nat → Int32) × (Nat → Int32) × (Nat → Int32) × (Nat → Int32) × (Nat → Int32) × Int32)) :=
  some (.inl (v4 + 1, slotFor_m, stateAt_m, slotOf_m, firstAt_m, movesTo_m, states_m))
noncomputable def Mo_movesOn_L100 (v1 : Int32) (v2 : Int32) (v3 : Int32) (nextTo_m : Nat → Int32) (wells_m : Int32) : (Int32 × (Nat → Int32) × (Nat → Int32) × (Nat → Int32) × (Nat → Int32) × (Nat → Int32) × Int32) → Option ((Int32 × (Nat → Int32) × (Nat → Int32) × (Nat → Int32) × (Nat → Int32) × (Nat → Int32) × Int32) ⊕ ((Nat → Int32) × (Nat → Int32) × (Nat → Int32) × (Nat → Int32) × (Nat → Int32) × Int32)) := fun s100 =>
  if s100.1 < wells_m then (if v2 = 0 then (some (.inr (s100.2.1, s100.2.2.1, s100.2.2.2.1, s100.2.2.2.2.1, s100.2.2.2.2.2.1, s100.2.2.2.2.2.2))) else (ob (lp (Mo_movesOn_L119 v1 v2 v3 s100.1 nextTo_m wells_m) (s100.1 + 1, s100.2.1, s100.2.2.1, s100.2.2.2.1, s100.2.2.2.2.1, s100.2.2.2.2.2.1, s100.2.2.2.2.2.2)) fun x1 =>
  Mo_movesOn_L100_J232 v1 v2 v3 s100.1 nextTo_m wells_m x1.1 x1.2.1 x1.2.2.1 x1.2.2.2.1 x1.2.2.2.2.1 x1.2.2.2.2.2)) else (some (.inr (s100.2.1, s100.2.2.1, s100.2.2.2.1, s100.2.2.2.2.1, s100.2.2.2.2.2.1, s100.2.2.2.2.2.2)))
noncomputable def Mo_movesOn (nextTo_m : Nat → Int32) (wells_m : Int32) (slotFor_m : Nat → Int32) (stateAt_m : Nat → Int32) (slotOf_m : Nat → Int32) (firstAt_m : Nat → Int32) (movesTo_m : Nat → Int32) (states_m : Int32) (a1 : Int32) (a2 : Int32) : Option ((Nat → Int32) × (Nat → Int32) × (Nat → Int32) × (Nat → Int32) × (Nat → Int32) × Int32) :=
  gd (ix a1 131072) (ob (lp (Mo_movesOn_L10 a1 a2 (stateAt_m (a1 : Int32).toNatClampNeg) nextTo_m wells_m) (0, slotFor_m, stateAt_m, slotOf_m, firstAt_m, movesTo_m, states_m)) fun x2 =>
  ob (lp (Mo_movesOn_L100 a1 a2 (stateAt_m (a1 : Int32).toNatClampNeg) nextTo_m wells_m) (0, x2.1, x2.2.1, x2.2.2.1, x2.2.2.2.1, x2.2.2.2.2.1, x2.2.2.2.2.2)) fun x3 =>
  some (x3.1, x3.2.1, x3.2.2.1, x3.2.2.2.1, x3.2.2.2.2.1, x3.2.2.2.2.2))
noncomputable def Mo_reach_L86_J151 (v1 : Int32) (v2 : Int32) (v3 : Int32) (v4 : Int32) (v5 : Int32) (v6 : Int32) (nextTo_m : Nat → Int32) (wells_m : Int32) (slotFor_m : Nat → Int32) (stateAt_m : Nat → Int32) (slotOf_m : Nat → Int32) (firstAt_m : Nat → Int32) (movesTo_m : Nat → Int32) (states_m : Int32) : Option ((Int32 × Int32 × (Nat → Int32) × (Nat → Int32) × (Nat → Int32) × (Nat → Int32) × (Nat → Int32) × Int32) ⊕ (Int32 × (Nat → Int32) × (Nat → Int32) × (Nat → Int32) × (Nat → Int32) × (Nat → Int32) × Int32)) :=
  some (.inl (v5, v6 + 1, slotFor_m, stateAt_m, slotOf_m, firstAt_m, movesTo_m, states_m))
noncomputable def Mo_reach_L86_J139 (v1 : Int32) (v2 : Int32) (v3 : Int32) (v4 : Int32) (v6 : Int32) (k0 : Int32) (nextTo_m : Nat → Int32) (wells_m : Int32) (slotFor_m : Nat → Int32) (stateAt_m : Nat → Int32) (slotOf_m : Nat → Int32) (firstAt_m : Nat → Int32) (movesTo_m : Nat → Int32) (states_m : Int32) : Option ((Int32 × Int32 × (Nat → Int32) × (Nat → Int32) × (Nat → Int32) × (Nat → Int32) × (Nat → Int32) × Int32) ⊕ (Int32 × (Nat → Int32) × (Nat → Int32) × (Nat → Int32) × (Nat → Int32) × (Nat → Int32) × Int32)) :=
  Mo_reach_L86_J151 v1 v2 v3 v4 k0 v6 nextTo_m wells_m slotFor_m stateAt_m slotOf_m firstAt_m movesTo_m states_m
noncomputable def Mo_reach_L86 (v1 : Int32) (v2 : Int32) (v3 : Int32) (v4 : Int32) (nextTo_m : Nat → Int32) (wells_m : Int32) : (Int32 × Int32 × (Nat → Int32) × (Nat → Int32) × (Nat → Int32) × (Nat → Int32) × (Nat → Int32) × Int32) → Option ((Int32 × Int32 × (Nat → Int32) × (Nat → Int32) × (Nat → Int32) × (Nat → Int32) × (Nat → Int32) × Int32) ⊕ (Int32 × (Nat → Int32) × (Nat → Int32) × (Nat → Int32) × (Nat → Int32) × (Nat → Int32) × Int32)) := fun s86 =>
  if s86.2.1 < s86.2.2.2.2.2.2.2 then (if s86.1 = (-2) then (gd (ix s86.2.1 131072) (ob (Mo_jarsIn (s86.2.2.2.1 (s86.2.1 : Int32).toNatClampNeg) v1) fun x2 =>
  if x2 < v2 then (ob (Mo_movesOn nextTo_m wells_m s86.2.2.1 s86.2.2.2.1 s86.2.2.2.2.1 s86.2.2.2.2.2.1 s86.2.2.2.2.2.2.1 s86.2.2.2.2.2.2.2 s86.2.1 v3) fun x3 =>
  Mo_reach_L86_J151 v1 v2 v3 v4 s86.1 s86.2.1 nextTo_m wells_m x3.1 x3.2.1 x3.2.2.1 x3.2.2.2.1 x3.2.2.2.2.1 x3.2.2.2.2.2) else (if v4 = 0 then (gd (ix s86.2.1 131072) (Mo_reach_L86_J139 v1 v2 v3 v4 s86.2.1 (s86.2.2.2.2.2.2.1 (s86.2.1 : Int32).toNatClampNeg) nextTo_m wells_m s86.2.2.1 s86.2.2.2.1 s86.2.2.2.2.1 s86.2.2.2.2.2.1 s86.2.2.2.2.2.2.1 s86.2.2.2.2.2.2.2)) else (gd (ix s86.2.1 131072) (Mo_reach_L86_J139 v1 v2 v3 v4 s86.2.1 (s86.2.2.2.2.2.1 (s86.2.1 : Int32).toNatClampNeg) nextTo_m wells_m s86.2.2.1 s86.2.2.2.1 s86.2.2.2.2.1 s86.2.2.2.2.2.1 s86.2.2.2.2.2.2.1 s86.2.2.2.2.2.2.2))))) else (some (.inr (s86.1, s86.2.2.1, s86.2.2.2.1, s86.2.2.2.2.1, s86.2.2.2.2.2.1, s86.2.2.2.2.2.2.1, s86.2.2.2.2.2.2.2)))) else (some (.inr (s86.1, s86.2.2.1, s86.2.2.2.1, s86.2.2.2.2.1, s86.2.2.2.2.2.1, s86.2.2.2.2.2.2.1, s86.2.2.2.2.2.2.2)))
noncomputable def Mo_reach_J48 (now_m : Nat → Int32) (nextTo_m : Nat → Int32) (wells_m : Int32) (slotFor_m : Nat → Int32) (stateAt_m : Nat → Int32) (slotOf_m : Nat → Int32) (firstAt_m : Nat → Int32) (movesTo_m : Nat → Int32) (states_m : Int32) : Option (Int32 × (Nat → Int32) × (Nat → Int32) × (Nat → Int32) × (Nat → Int32) × (Nat → Int32) × Int32) :=
  some ((-4), slotFor_m, stateAt_m, slotOf_m, firstAt_m, movesTo_m, states_m)
noncomputable def Mo_reach_J157 (v5 : Int32) (now_m : Nat → Int32) (nextTo_m : Nat → Int32) (wells_m : Int32) (slotFor_m : Nat → Int32) (stateAt_m : Nat → Int32) (slotOf_m : Nat → Int32) (firstAt_m : Nat → Int32) (movesTo_m : Nat → Int32) (states_m : Int32) : Option (Int32 × (Nat → Int32) × (Nat → Int32) × (Nat → Int32) × (Nat → Int32) × (Nat → Int32) × Int32) :=
  ob (Mo_clearsStates slotFor_m slotOf_m states_m) fun x1 =>
  some (v5, x1.1, stateAt_m, slotOf_m, firstAt_m, movesTo_m, x1.2)
noncomputable def Mo_reach (now_m : Nat → Int32) (nextTo_m : Nat → Int32) (wells_m : Int32) (slotFor_m : Nat → Int32) (stateAt_m : Nat → Int32) (slotOf_m : Nat → Int32) (firstAt_m : Nat → Int32) (movesTo_m : Nat → Int32) (states_m : Int32) (a1 : Int32) (a2 : Int32) (a3 : Int32) (a4 : Int32) : Option (Int32 × (Nat → Int32) × (Nat → Int32) × (Nat → Int32) × (Nat → Int32) × (Nat → Int32) × Int32) :=
  ob (Mo_isWell wells_m a1) fun x1 =>
  if x1 = 0 then (some ((-1), slotFor_m, stateAt_m, slotOf_m, firstAt_m, movesTo_m, states_m)) else (ob (Mo_in a2 1 40) fun x2 =>
  if x2 = 0 then (some ((-1), slotFor_m, stateAt_m, slotOf_m, firstAt_m, movesTo_m, states_m)) else (ob (Mo_in a4 0 1) fun x3 =>
  if x3 = 0 then (some ((-1), slotFor_m, stateAt_m, slotOf_m, firstAt_m, movesTo_m, states_m)) else (if wells_m ≤ 8 then (ob (Mo_jarsOfAll now_m wells_m) fun x4 =>
  if x4 ≤ 12 then (ob (Mo_clearsStates slotFor_m slotOf_m states_m) fun x5 =>
  ob (Mo_stateNow now_m wells_m) fun x6 =>
  ob (Mo_placeOf x5.1 stateAt_m slotOf_m x5.2 x6) fun x7 =>
  gd (ix 0 131072) (gd (ix 0 131072) (ob (lp (Mo_reach_L86 a1 a2 a3 a4 nextTo_m wells_m) ((-2), 0, x7.2.1, x7.2.2.1, x7.2.2.2.1, upd firstAt_m (0 : Int32).toNatClampNeg (-3), upd movesTo_m (0 : Int32).toNatClampNeg (vp_nar .byte 0), x7.2.2.2.2)) fun x10 =>
  Mo_reach_J157 x10.1 now_m nextTo_m wells_m x10.2.1 x10.2.2.1 x10.2.2.2.1 x10.2.2.2.2.1 x10.2.2.2.2.2.1 x10.2.2.2.2.2.2))) else (Mo_reach_J48 now_m nextTo_m wells_m slotFor_m stateAt_m slotOf_m firstAt_m movesTo_m states_m)) else (Mo_reach_J48 now_m nextTo_m wells_m slotFor_m stateAt_m slotOf_m firstAt_m movesTo_m states_m))))
noncomputable def Mo_jarsBy (shiftOf_m : Nat → Int32) (widthOf_m : Nat → Int32) (a1 : Int32) (a2 : Int32) : Option (Int32) :=
  gd (ix a2 12) (gd (ix a2 12) (some ((a1 >>> ((shiftOf_m (a2 : Int32).toNatClampNeg) &&& 31)) &&& (((1 : Int32) <<< ((widthOf_m (a2 : Int32).toNatClampNeg) &&& 31)) - 1))))
noncomputable def Mo_totalBy_L4 (v1 : Int32) (wells_m : Int32) (shiftOf_m : Nat → Int32) (widthOf_m : Nat → Int32) : (Int32 × Int32) → Option ((Int32 × Int32) ⊕ (Int32)) := fun s4 =>
  if s4.2 < wells_m then (ob (Mo_jarsBy shiftOf_m widthOf_m v1 s4.2) fun x1 =>
  some (.inl (s4.1 + x1, s4.2 + 1))) else (some (.inr s4.1))
noncomputable def Mo_totalBy (wells_m : Int32) (shiftOf_m : Nat → Int32) (widthOf_m : Nat → Int32) (a1 : Int32) : Option (Int32) :=
  ob (lp (Mo_totalBy_L4 a1 wells_m shiftOf_m widthOf_m) (0, 0)) fun x1 =>
  some x1
noncomputable def Mo_laysBits_L57 (v1 : Int32) (wells_m : Int32) (farOf_m : Nat → Int32) : (Int32 × (Nat → Int32) × (Nat → Int32) × Int32) → Option ((Int32 × (Nat → Int32) × (Nat → Int32) × Int32) ⊕ ((Nat → Int32) × (Nat → Int32) × Int32)) := fun s57 =>
  if s57.1 < wells_m then (gd (ix s57.1 12) (ob (Mo_far farOf_m s57.1 v1) fun x2 =>
  gd (ix s57.1 12) (gd (ix s57.1 12) (some (.inl (s57.1 + 1, upd s57.2.1 (s57.1 : Int32).toNatClampNeg s57.2.2.2, upd s57.2.2.1 (s57.1 : Int32).toNatClampNeg x2, s57.2.2.2 + ((upd s57.2.2.1 (s57.1 : Int32).toNatClampNeg x2) (s57.1 : Int32).toNatClampNeg))))))) else (some (.inr (s57.2.1, s57.2.2.1, s57.2.2.2)))
noncomputable def Mo_laysBits_L9 (v1 : Int32) (wells_m : Int32) (farOf_m : Nat → Int32) : (Int32 × Int32) → Option ((Int32 × Int32) ⊕ (Unit) ⊕ (Int32)) := fun s9 =>
  if s9.2 < wells_m then (ob (Mo_far farOf_m s9.2 v1) fun x1 =>
  if x1 = (-2) then (some (.inr (.inl ()))) else (ob (Mo_far farOf_m s9.2 v1) fun x2 =>
  some (.inl (s9.1 + x2, s9.2 + 1)))) else (some (.inr (.inr (s9.1))))
noncomputable def Mo_laysBits (wells_m : Int32) (farOf_m : Nat → Int32) (shiftOf_m : Nat → Int32) (widthOf_m : Nat → Int32) (bitsInAll_m : Int32) (a1 : Int32) : Option (Int32 × (Nat → Int32) × (Nat → Int32) × Int32) :=
  ob (lp (Mo_laysBits_L9 a1 wells_m farOf_m) (0, 0)) fun x1 =>
  sm x1 (fun x1 => some ((-2), shiftOf_m, widthOf_m, 0)) (fun x1 => if x1 ≤ 16 then (ob (lp (Mo_laysBits_L57 a1 wells_m farOf_m) (0, shiftOf_m, widthOf_m, 0)) fun x2 =>
  some (0, x2.1, x2.2.1, x2.2.2)) else (some ((-4), shiftOf_m, widthOf_m, 0)))
noncomputable def Mo_isInVain_L26_J111 (v1 : Int32) (v2 : Int32) (v3 : Int32) (v4 : Int32) (nextTo_m : Nat → Int32) (wells_m : Int32) (shiftOf_m : Nat → Int32) (widthOf_m : Nat → Int32) (isVain_m : Nat → Int32) : Option ((Int32) ⊕ (Unit) ⊕ (Unit) ⊕ (Unit)) :=
  some (.inl (v4 + 1))
noncomputable def Mo_isInVain_L26 (v1 : Int32) (v2 : Int32) (v3 : Int32) (nextTo_m : Nat → Int32) (wells_m : Int32) (shiftOf_m : Nat → Int32) (widthOf_m : Nat → Int32) (isVain_m : Nat → Int32) : Int32 → Option ((Int32) ⊕ (Unit) ⊕ (Unit) ⊕ (Unit)) := fun s26 =>
  if s26 < wells_m then (gd (ix v3 12) (ob (Mo_has (nextTo_m (v3 : Int32).toNatClampNeg) s26) fun x2 =>
  if x2 = 0 then (Mo_isInVain_L26_J111 v1 v2 v3 s26 nextTo_m wells_m shiftOf_m widthOf_m isVain_m) else (if s26 = v2 then (some (.inr (.inl ()))) else (ob (Mo_jarsBy shiftOf_m widthOf_m v1 s26) fun x3 =>
  gd (ix s26 12) (if (x3 + 1) < ((1 : Int32) <<< ((widthOf_m (s26 : Int32).toNatClampNeg) &&& 31)) then (gd (ix v3 12) (gd (ix s26 12) (gd (ix ((v1 - ((2 : Int32) <<< ((shiftOf_m (v3 : Int32).toNatClampNeg) &&& 31))) + ((1 : Int32) <<< ((shiftOf_m (s26 : Int32).toNatClampNeg) &&& 31))) 65536) (if (isVain_m ((v1 - ((2 : Int32) <<< ((shiftOf_m (v3 : Int32).toNatClampNeg) &&& 31))) + ((1 : Int32) <<< ((shiftOf_m (s26 : Int32).toNatClampNeg) &&& 31)) : Int32).toNatClampNeg) = 0 then (some (.inr (.inr (.inl ())))) else (Mo_isInVain_L26_J111 v1 v2 v3 s26 nextTo_m wells_m shiftOf_m widthOf_m isVain_m))))) else (some (.inr (.inl ())))))))) else (some (.inr (.inr (.inr ()))))
noncomputable def Mo_isInVain_L2_J117 (v1 : Int32) (v2 : Int32) (v3 : Int32) (nextTo_m : Nat → Int32) (wells_m : Int32) (shiftOf_m : Nat → Int32) (widthOf_m : Nat → Int32) (isVain_m : Nat → Int32) : Option ((Int32) ⊕ (Unit) ⊕ (Unit) ⊕ (Unit)) :=
  some (.inl (v3 + 1))
noncomputable def Mo_isInVain_L2 (v1 : Int32) (v2 : Int32) (nextTo_m : Nat → Int32) (wells_m : Int32) (shiftOf_m : Nat → Int32) (widthOf_m : Nat → Int32) (isVain_m : Nat → Int32) : Int32 → Option ((Int32) ⊕ (Unit) ⊕ (Unit) ⊕ (Unit)) := fun s2 =>
  if s2 < wells_m then (ob (Mo_jarsBy shiftOf_m widthOf_m v1 s2) fun x1 =>
  if x1 < 2 then (Mo_isInVain_L2_J117 v1 v2 s2 nextTo_m wells_m shiftOf_m widthOf_m isVain_m) else (ob (lp (Mo_isInVain_L26 v1 v2 s2 nextTo_m wells_m shiftOf_m widthOf_m isVain_m) 0) fun x2 =>
  sm x2 (fun x2 => some (.inr (.inl ()))) (fun x2 => sm x2 (fun x2 => some (.inr (.inr (.inl ())))) (fun x2 => Mo_isInVain_L2_J117 v1 v2 s2 nextTo_m wells_m shiftOf_m widthOf_m isVain_m)))) else (some (.inr (.inr (.inr ()))))
noncomputable def Mo_isInVain (nextTo_m : Nat → Int32) (wells_m : Int32) (shiftOf_m : Nat → Int32) (widthOf_m : Nat → Int32) (isVain_m : Nat → Int32) (a1 : Int32) (a2 : Int32) : Option (Int32) :=
  ob (lp (Mo_isInVain_L2 a1 a2 nextTo_m wells_m shiftOf_m widthOf_m isVain_m) 0) fun x1 =>
  sm x1 (fun x1 => some 0) (fun x1 => sm x1 (fun x1 => some 0) (fun x1 => some 1))
noncomputable def Mo_isGreater_L2 (v1 : Int32) (v2 : Int32) (wells_m : Int32) (shiftOf_m : Nat → Int32) (widthOf_m : Nat → Int32) : Int32 → Option ((Int32) ⊕ (Int32) ⊕ (Unit)) := fun s2 =>
  if s2 < wells_m then (ob (Mo_jarsBy shiftOf_m widthOf_m v1 s2) fun x1 =>
  ob (Mo_jarsBy shiftOf_m widthOf_m v2 s2) fun x2 =>
  if x1 = x2 then (some (.inl (s2 + 1))) else (some (.inr (.inl s2)))) else (some (.inr (.inr ())))
noncomputable def Mo_isGreater (wells_m : Int32) (shiftOf_m : Nat → Int32) (widthOf_m : Nat → Int32) (a1 : Int32) (a2 : Int32) : Option (Int32) :=
  ob (lp (Mo_isGreater_L2 a1 a2 wells_m shiftOf_m widthOf_m) 0) fun x1 =>
  sm x1 (fun x1 => ob (Mo_jarsBy shiftOf_m widthOf_m a1 x1) fun x2 =>
  ob (Mo_jarsBy shiftOf_m widthOf_m a2 x1) fun x3 =>
  if x2 ≤ x3 then (some 0) else (some 1)) (fun x1 => some 0)
noncomputable def Mo_countsVain_J23 (v1 : Int32) (wells_m : Int32) (shiftOf_m : Nat → Int32) (widthOf_m : Nat → Int32) (vainMost_m : Int32) (vainMany_m : Int32) (vainGreatest_m : Int32) : Option (Int32 × Int32 × Int32) :=
  ob (Mo_isGreater wells_m shiftOf_m widthOf_m v1 vainGreatest_m) fun x1 =>
  if x1 = 0 then (some (vainMost_m, vainMany_m + 1, vainGreatest_m)) else (some (vainMost_m, vainMany_m + 1, v1))
noncomputable def Mo_countsVain (wells_m : Int32) (shiftOf_m : Nat → Int32) (widthOf_m : Nat → Int32) (vainMost_m : Int32) (vainMany_m : Int32) (vainGreatest_m : Int32) (a1 : Int32) (a2 : Int32) : Option (Int32 × Int32 × Int32) :=
  if a2 ≤ vainMost_m then (Mo_countsVain_J23 a1 wells_m shiftOf_m widthOf_m vainMost_m vainMany_m vainGreatest_m) else (Mo_countsVain_J23 a1 wells_m shiftOf_m widthOf_m a2 0 a1)
/-! the reference, 4 -/
noncomputable def Mo_laysVain_L14 (v1 : Int32) : (Int32 × (Nat → Int32)) → Option ((Int32 × (Nat → Int32)) ⊕ (Nat → Int32)) := fun s14 =>
  if s14.1 < 64 then (gd (ix s14.1 64) (some (.inl (s14.1 + 1, upd s14.2 (s14.1 : Int32).toNatClampNeg (-1))))) else (some (.inr s14.2))
noncomputable def Mo_laysVain_L35 (v1 : Int32) (wells_m : Int32) (shiftOf_m : Nat → Int32) (widthOf_m : Nat → Int32) (bitsInAll_m : Int32) : (Int32 × (Nat → Int32) × (Nat → Int32)) → Option ((Int32 × (Nat → Int32) × (Nat → Int32)) ⊕ ((Nat → Int32) × (Nat → Int32))) := fun s35 =>
  if s35.1 < ((1 : Int32) <<< (bitsInAll_m &&& 31)) then (ob (Mo_totalBy wells_m shiftOf_m widthOf_m s35.1) fun x1 =>
  gd (ix x1 64) (gd (ix s35.1 65536) (gd (ix x1 64) (some (.inl (s35.1 + 1, upd s35.2.1 (s35.1 : Int32).toNatClampNeg (s35.2.2 (x1 : Int32).toNatClampNeg), upd s35.2.2 (x1 : Int32).toNatClampNeg s35.1)))))) else (some (.inr (s35.2.1, s35.2.2)))
noncomputable def Mo_laysVain_L100_J137 (v1 : Int32) (v3 : Int32) (v4 : Int32) (nextTo_m : Nat → Int32) (wells_m : Int32) (shiftOf_m : Nat → Int32) (widthOf_m : Nat → Int32) (nextIn_m : Nat → Int32) (isVain_m : Nat → Int32) (vainMost_m : Int32) (vainMany_m : Int32) (vainGreatest_m : Int32) : Option ((Int32 × (Nat → Int32) × Int32 × Int32 × Int32) ⊕ ((Nat → Int32) × Int32 × Int32 × Int32)) :=
  gd (ix v4 65536) (some (.inl (nextIn_m (v4 : Int32).toNatClampNeg, isVain_m, vainMost_m, vainMany_m, vainGreatest_m)))
noncomputable def Mo_laysVain_L100 (v1 : Int32) (v3 : Int32) (nextTo_m : Nat → Int32) (wells_m : Int32) (shiftOf_m : Nat → Int32) (widthOf_m : Nat → Int32) (nextIn_m : Nat → Int32) : (Int32 × (Nat → Int32) × Int32 × Int32 × Int32) → Option ((Int32 × (Nat → Int32) × Int32 × Int32 × Int32) ⊕ ((Nat → Int32) × Int32 × Int32 × Int32)) := fun s100 =>
  if s100.1 = (-1) then (some (.inr (s100.2.1, s100.2.2.1, s100.2.2.2.1, s100.2.2.2.2))) else (ob (Mo_isInVain nextTo_m wells_m shiftOf_m widthOf_m s100.2.1 s100.1 v1) fun x1 =>
  gd (ix s100.1 65536) (gd (ix s100.1 65536) (if ((upd s100.2.1 (s100.1 : Int32).toNatClampNeg (vp_nar .boolean x1)) (s100.1 : Int32).toNatClampNeg) = 0 then (Mo_laysVain_L100_J137 v1 v3 s100.1 nextTo_m wells_m shiftOf_m widthOf_m nextIn_m (upd s100.2.1 (s100.1 : Int32).toNatClampNeg (vp_nar .boolean x1)) s100.2.2.1 s100.2.2.2.1 s100.2.2.2.2) else (ob (Mo_countsVain wells_m shiftOf_m widthOf_m s100.2.2.1 s100.2.2.2.1 s100.2.2.2.2 s100.1 v3) fun x4 =>
  Mo_laysVain_L100_J137 v1 v3 s100.1 nextTo_m wells_m shiftOf_m widthOf_m nextIn_m (upd s100.2.1 (s100.1 : Int32).toNatClampNeg (vp_nar .boolean x1)) x4.1 x4.2.1 x4.2.2))))
noncomputable def Mo_laysVain_L86 (v1 : Int32) (nextTo_m : Nat → Int32) (wells_m : Int32) (shiftOf_m : Nat → Int32) (widthOf_m : Nat → Int32) (nextIn_m : Nat → Int32) (headOf_m : Nat → Int32) : (Int32 × (Nat → Int32) × Int32 × Int32 × Int32) → Option ((Int32 × (Nat → Int32) × Int32 × Int32 × Int32) ⊕ ((Nat → Int32) × Int32 × Int32 × Int32)) := fun s86 =>
  if s86.1 < 64 then (gd (ix s86.1 64) (ob (lp (Mo_laysVain_L100 v1 s86.1 nextTo_m wells_m shiftOf_m widthOf_m nextIn_m) (headOf_m (s86.1 : Int32).toNatClampNeg, s86.2.1, s86.2.2.1, s86.2.2.2.1, s86.2.2.2.2)) fun x2 =>
  some (.inl (s86.1 + 1, x2.1, x2.2.1, x2.2.2.1, x2.2.2.2)))) else (some (.inr (s86.2.1, s86.2.2.1, s86.2.2.2.1, s86.2.2.2.2)))
noncomputable def Mo_laysVain (nextTo_m : Nat → Int32) (wells_m : Int32) (farOf_m : Nat → Int32) (shiftOf_m : Nat → Int32) (widthOf_m : Nat → Int32) (nextIn_m : Nat → Int32) (headOf_m : Nat → Int32) (isVain_m : Nat → Int32) (bitsInAll_m : Int32) (vainMost_m : Int32) (vainMany_m : Int32) (vainGreatest_m : Int32) (a1 : Int32) : Option (Int32 × (Nat → Int32) × (Nat → Int32) × (Nat → Int32) × (Nat → Int32) × (Nat → Int32) × Int32 × Int32 × Int32 × Int32) :=
  ob (Mo_laysBits wells_m farOf_m shiftOf_m widthOf_m bitsInAll_m a1) fun x1 =>
  if x1.1 = 0 then (ob (lp (Mo_laysVain_L14 a1) (0, headOf_m)) fun x2 =>
  ob (lp (Mo_laysVain_L35 a1 wells_m x1.2.1 x1.2.2.1 x1.2.2.2) (0, nextIn_m, x2)) fun x3 =>
  ob (lp (Mo_laysVain_L86 a1 nextTo_m wells_m x1.2.1 x1.2.2.1 x3.1 x3.2) (0, isVain_m, (-1), vainMany_m, vainGreatest_m)) fun x4 =>
  some (0, x1.2.1, x1.2.2.1, x3.1, x3.2, x4.1, x1.2.2.2, x4.2.1, x4.2.2.1, x4.2.2.2)) else (some (x1.1, x1.2.1, x1.2.2.1, nextIn_m, headOf_m, isVain_m, x1.2.2.2, vainMost_m, vainMany_m, vainGreatest_m))
noncomputable def Mo_number_J30 (v1 : Int32) (v2 : Int32) (nextTo_m : Nat → Int32) (wells_m : Int32) (farOf_m : Nat → Int32) (line_m : Nat → Int32) (shiftOf_m : Nat → Int32) (widthOf_m : Nat → Int32) (nextIn_m : Nat → Int32) (headOf_m : Nat → Int32) (isVain_m : Nat → Int32) (bitsInAll_m : Int32) (vainMost_m : Int32) (vainMany_m : Int32) (vainGreatest_m : Int32) : Option (Int32 × (Nat → Int32) × (Nat → Int32) × (Nat → Int32) × (Nat → Int32) × (Nat → Int32) × (Nat → Int32) × (Nat → Int32) × Int32 × Int32 × Int32 × Int32) :=
  ob (Mo_laysSteps nextTo_m wells_m farOf_m line_m) fun x1 =>
  ob (Mo_laysVain nextTo_m wells_m x1.1 shiftOf_m widthOf_m nextIn_m headOf_m isVain_m bitsInAll_m vainMost_m vainMany_m vainGreatest_m v1) fun x2 =>
  if x2.1 = 0 then (if v2 = 100 then (some (x2.2.2.2.2.2.2.2.1 + 1, x1.1, x1.2, x2.2.1, x2.2.2.1, x2.2.2.2.1, x2.2.2.2.2.1, x2.2.2.2.2.2.1, x2.2.2.2.2.2.2.1, x2.2.2.2.2.2.2.2.1, x2.2.2.2.2.2.2.2.2.1, x2.2.2.2.2.2.2.2.2.2)) else (if v2 = 101 then (some (x2.2.2.2.2.2.2.2.2.1, x1.1, x1.2, x2.2.1, x2.2.2.1, x2.2.2.2.1, x2.2.2.2.2.1, x2.2.2.2.2.2.1, x2.2.2.2.2.2.2.1, x2.2.2.2.2.2.2.2.1, x2.2.2.2.2.2.2.2.2.1, x2.2.2.2.2.2.2.2.2.2)) else (ob (Mo_jarsBy x2.2.1 x2.2.2.1 x2.2.2.2.2.2.2.2.2.2 v2) fun x3 =>
  some (x3, x1.1, x1.2, x2.2.1, x2.2.2.1, x2.2.2.2.1, x2.2.2.2.2.1, x2.2.2.2.2.2.1, x2.2.2.2.2.2.2.1, x2.2.2.2.2.2.2.2.1, x2.2.2.2.2.2.2.2.2.1, x2.2.2.2.2.2.2.2.2.2)))) else (some (x2.1, x1.1, x1.2, x2.2.1, x2.2.2.1, x2.2.2.2.1, x2.2.2.2.2.1, x2.2.2.2.2.2.1, x2.2.2.2.2.2.2.1, x2.2.2.2.2.2.2.2.1, x2.2.2.2.2.2.2.2.2.1, x2.2.2.2.2.2.2.2.2.2))
noncomputable def Mo_number (nextTo_m : Nat → Int32) (wells_m : Int32) (farOf_m : Nat → Int32) (line_m : Nat → Int32) (shiftOf_m : Nat → Int32) (widthOf_m : Nat → Int32) (nextIn_m : Nat → Int32) (headOf_m : Nat → Int32) (isVain_m : Nat → Int32) (bitsInAll_m : Int32) (vainMost_m : Int32) (vainMany_m : Int32) (vainGreatest_m : Int32) (a1 : Int32) (a2 : Int32) : Option (Int32 × (Nat → Int32) × (Nat → Int32) × (Nat → Int32) × (Nat → Int32) × (Nat → Int32) × (Nat → Int32) × (Nat → Int32) × Int32 × Int32 × Int32 × Int32) :=
  ob (Mo_isWell wells_m a1) fun x1 =>
  if x1 = 0 then (some ((-1), farOf_m, line_m, shiftOf_m, widthOf_m, nextIn_m, headOf_m, isVain_m, bitsInAll_m, vainMost_m, vainMany_m, vainGreatest_m)) else (if a2 = 100 then (Mo_number_J30 a1 a2 nextTo_m wells_m farOf_m line_m shiftOf_m widthOf_m nextIn_m headOf_m isVain_m bitsInAll_m vainMost_m vainMany_m vainGreatest_m) else (if a2 = 101 then (Mo_number_J30 a1 a2 nextTo_m wells_m farOf_m line_m shiftOf_m widthOf_m nextIn_m headOf_m isVain_m bitsInAll_m vainMost_m vainMany_m vainGreatest_m) else (ob (Mo_isWell wells_m a2) fun x2 =>
  if x2 = 0 then (some ((-1), farOf_m, line_m, shiftOf_m, widthOf_m, nextIn_m, headOf_m, isVain_m, bitsInAll_m, vainMost_m, vainMany_m, vainGreatest_m)) else (Mo_number_J30 a1 a2 nextTo_m wells_m farOf_m line_m shiftOf_m widthOf_m nextIn_m headOf_m isVain_m bitsInAll_m vainMost_m vainMany_m vainGreatest_m))))
noncomputable def Mo_numberOfLand_L8_J53 (v1 : Int32) (v2 : Int32) (nextTo_m : Nat → Int32) (wells_m : Int32) (farOf_m : Nat → Int32) (shiftOf_m : Nat → Int32) (widthOf_m : Nat → Int32) (nextIn_m : Nat → Int32) (headOf_m : Nat → Int32) (isVain_m : Nat → Int32) (bitsInAll_m : Int32) (vainMost_m : Int32) (vainMany_m : Int32) (vainGreatest_m : Int32) (lowestBest_m : Int32) : Option ((Int32 × Int32 × (Nat → Int32) × (Nat → Int32) × (Nat → Int32) × (Nat → Int32) × (Nat → Int32) × Int32 × Int32 × Int32 × Int32 × Int32) ⊕ (Int32 × (Nat → Int32) × (Nat → Int32) × (Nat → Int32) × (Nat → Int32) × (Nat → Int32) × Int32 × Int32 × Int32 × Int32 × Int32) ⊕ (Int32 × (Nat → Int32) × (Nat → Int32) × (Nat → Int32) × (Nat → Int32) × (Nat → Int32) × Int32 × Int32 × Int32 × Int32 × Int32)) :=
  some (.inl (v1, v2 + 1, shiftOf_m, widthOf_m, nextIn_m, headOf_m, isVain_m, bitsInAll_m, vainMost_m, vainMany_m, vainGreatest_m, lowestBest_m))
noncomputable def Mo_numberOfLand_L8 (nextTo_m : Nat → Int32) (wells_m : Int32) (farOf_m : Nat → Int32) : (Int32 × Int32 × (Nat → Int32) × (Nat → Int32) × (Nat → Int32) × (Nat → Int32) × (Nat → Int32) × Int32 × Int32 × Int32 × Int32 × Int32) → Option ((Int32 × Int32 × (Nat → Int32) × (Nat → Int32) × (Nat → Int32) × (Nat → Int32) × (Nat → Int32) × Int32 × Int32 × Int32 × Int32 × Int32) ⊕ (Int32 × (Nat → Int32) × (Nat → Int32) × (Nat → Int32) × (Nat → Int32) × (Nat → Int32) × Int32 × Int32 × Int32 × Int32 × Int32) ⊕ (Int32 × (Nat → Int32) × (Nat → Int32) × (Nat → Int32) × (Nat → Int32) × (Nat → Int32) × Int32 × Int32 × Int32 × Int32 × Int32)) := fun s8 =>
  if s8.2.1 < wells_m then (ob (Mo_laysVain nextTo_m wells_m farOf_m s8.2.2.1 s8.2.2.2.1 s8.2.2.2.2.1 s8.2.2.2.2.2.1 s8.2.2.2.2.2.2.1 s8.2.2.2.2.2.2.2.1 s8.2.2.2.2.2.2.2.2.1 s8.2.2.2.2.2.2.2.2.2.1 s8.2.2.2.2.2.2.2.2.2.2.1 s8.2.1) fun x1 =>
  if x1.1 = 0 then (if (x1.2.2.2.2.2.2.2.1 + 1) ≤ s8.1 then (Mo_numberOfLand_L8_J53 s8.1 s8.2.1 nextTo_m wells_m farOf_m x1.2.1 x1.2.2.1 x1.2.2.2.1 x1.2.2.2.2.1 x1.2.2.2.2.2.1 x1.2.2.2.2.2.2.1 x1.2.2.2.2.2.2.2.1 x1.2.2.2.2.2.2.2.2.1 x1.2.2.2.2.2.2.2.2.2 s8.2.2.2.2.2.2.2.2.2.2.2) else (Mo_numberOfLand_L8_J53 (x1.2.2.2.2.2.2.2.1 + 1) s8.2.1 nextTo_m wells_m farOf_m x1.2.1 x1.2.2.1 x1.2.2.2.1 x1.2.2.2.2.1 x1.2.2.2.2.2.1 x1.2.2.2.2.2.2.1 x1.2.2.2.2.2.2.2.1 x1.2.2.2.2.2.2.2.2.1 x1.2.2.2.2.2.2.2.2.2 s8.2.1)) else (some (.inr (.inl (x1.1, x1.2.1, x1.2.2.1, x1.2.2.2.1, x1.2.2.2.2.1, x1.2.2.2.2.2.1, x1.2.2.2.2.2.2.1, x1.2.2.2.2.2.2.2.1, x1.2.2.2.2.2.2.2.2.1, x1.2.2.2.2.2.2.2.2.2, s8.2.2.2.2.2.2.2.2.2.2.2))))) else (some (.inr (.inr (s8.1, s8.2.2.1, s8.2.2.2.1, s8.2.2.2.2.1, s8.2.2.2.2.2.1, s8.2.2.2.2.2.2.1, s8.2.2.2.2.2.2.2.1, s8.2.2.2.2.2.2.2.2.1, s8.2.2.2.2.2.2.2.2.2.1, s8.2.2.2.2.2.2.2.2.2.2.1, s8.2.2.2.2.2.2.2.2.2.2.2))))
noncomputable def Mo_numberOfLand (nextTo_m : Nat → Int32) (wells_m : Int32) (farOf_m : Nat → Int32) (line_m : Nat → Int32) (shiftOf_m : Nat → Int32) (widthOf_m : Nat → Int32) (nextIn_m : Nat → Int32) (headOf_m : Nat → Int32) (isVain_m : Nat → Int32) (bitsInAll_m : Int32) (vainMost_m : Int32) (vainMany_m : Int32) (vainGreatest_m : Int32) (lowestBest_m : Int32) : Option (Int32 × (Nat → Int32) × (Nat → Int32) × (Nat → Int32) × (Nat → Int32) × (Nat → Int32) × (Nat → Int32) × (Nat → Int32) × Int32 × Int32 × Int32 × Int32 × Int32) :=
  ob (Mo_laysSteps nextTo_m wells_m farOf_m line_m) fun x1 =>
  ob (lp (Mo_numberOfLand_L8 nextTo_m wells_m x1.1) (0, 0, shiftOf_m, widthOf_m, nextIn_m, headOf_m, isVain_m, bitsInAll_m, vainMost_m, vainMany_m, vainGreatest_m, lowestBest_m)) fun x2 =>
  sm x2 (fun x2 => some (x2.1, x1.1, x1.2, x2.2.1, x2.2.2.1, x2.2.2.2.1, x2.2.2.2.2.1, x2.2.2.2.2.2.1, x2.2.2.2.2.2.2.1, x2.2.2.2.2.2.2.2.1, x2.2.2.2.2.2.2.2.2.1, x2.2.2.2.2.2.2.2.2.2.1, x2.2.2.2.2.2.2.2.2.2.2)) (fun x2 => some (x2.1, x1.1, x1.2, x2.2.1, x2.2.2.1, x2.2.2.2.1, x2.2.2.2.2.1, x2.2.2.2.2.2.1, x2.2.2.2.2.2.2.1, x2.2.2.2.2.2.2.2.1, x2.2.2.2.2.2.2.2.2.1, x2.2.2.2.2.2.2.2.2.2.1, x2.2.2.2.2.2.2.2.2.2.2))
noncomputable def Mo_landNumber_J34 (v2 : Int32) (nextTo_m : Nat → Int32) (wells_m : Int32) (farOf_m : Nat → Int32) (line_m : Nat → Int32) (shiftOf_m : Nat → Int32) (widthOf_m : Nat → Int32) (nextIn_m : Nat → Int32) (headOf_m : Nat → Int32) (isVain_m : Nat → Int32) (bitsInAll_m : Int32) (vainMost_m : Int32) (vainMany_m : Int32) (vainGreatest_m : Int32) (lowestBest_m : Int32) : Option (Int32 × (Nat → Int32) × (Nat → Int32) × (Nat → Int32) × (Nat → Int32) × (Nat → Int32) × (Nat → Int32) × (Nat → Int32) × Int32 × Int32 × Int32 × Int32 × Int32) :=
  some (v2, farOf_m, line_m, shiftOf_m, widthOf_m, nextIn_m, headOf_m, isVain_m, bitsInAll_m, vainMost_m, vainMany_m, vainGreatest_m, lowestBest_m)
noncomputable def Mo_landNumber (nextTo_m : Nat → Int32) (wells_m : Int32) (farOf_m : Nat → Int32) (line_m : Nat → Int32) (shiftOf_m : Nat → Int32) (widthOf_m : Nat → Int32) (nextIn_m : Nat → Int32) (headOf_m : Nat → Int32) (isVain_m : Nat → Int32) (bitsInAll_m : Int32) (vainMost_m : Int32) (vainMany_m : Int32) (vainGreatest_m : Int32) (lowestBest_m : Int32) (a1 : Int32) : Option (Int32 × (Nat → Int32) × (Nat → Int32) × (Nat → Int32) × (Nat → Int32) × (Nat → Int32) × (Nat → Int32) × (Nat → Int32) × Int32 × Int32 × Int32 × Int32 × Int32) :=
  ob (Mo_in a1 0 1) fun x1 =>
  if x1 = 0 then (some ((-1), farOf_m, line_m, shiftOf_m, widthOf_m, nextIn_m, headOf_m, isVain_m, bitsInAll_m, vainMost_m, vainMany_m, vainGreatest_m, lowestBest_m)) else (if wells_m = 0 then (some ((-3), farOf_m, line_m, shiftOf_m, widthOf_m, nextIn_m, headOf_m, isVain_m, bitsInAll_m, vainMost_m, vainMany_m, vainGreatest_m, lowestBest_m)) else (ob (Mo_numberOfLand nextTo_m wells_m farOf_m line_m shiftOf_m widthOf_m nextIn_m headOf_m isVain_m bitsInAll_m vainMost_m vainMany_m vainGreatest_m lowestBest_m) fun x2 =>
  if x2.1 < 0 then (Mo_landNumber_J34 x2.1 nextTo_m wells_m x2.2.1 x2.2.2.1 x2.2.2.2.1 x2.2.2.2.2.1 x2.2.2.2.2.2.1 x2.2.2.2.2.2.2.1 x2.2.2.2.2.2.2.2.1 x2.2.2.2.2.2.2.2.2.1 x2.2.2.2.2.2.2.2.2.2.1 x2.2.2.2.2.2.2.2.2.2.2.1 x2.2.2.2.2.2.2.2.2.2.2.2.1 x2.2.2.2.2.2.2.2.2.2.2.2.2) else (if a1 = 0 then (Mo_landNumber_J34 x2.1 nextTo_m wells_m x2.2.1 x2.2.2.1 x2.2.2.2.1 x2.2.2.2.2.1 x2.2.2.2.2.2.1 x2.2.2.2.2.2.2.1 x2.2.2.2.2.2.2.2.1 x2.2.2.2.2.2.2.2.2.1 x2.2.2.2.2.2.2.2.2.2.1 x2.2.2.2.2.2.2.2.2.2.2.1 x2.2.2.2.2.2.2.2.2.2.2.2.1 x2.2.2.2.2.2.2.2.2.2.2.2.2) else (some (x2.2.2.2.2.2.2.2.2.2.2.2.2, x2.2.1, x2.2.2.1, x2.2.2.2.1, x2.2.2.2.2.1, x2.2.2.2.2.2.1, x2.2.2.2.2.2.2.1, x2.2.2.2.2.2.2.2.1, x2.2.2.2.2.2.2.2.2.1, x2.2.2.2.2.2.2.2.2.2.1, x2.2.2.2.2.2.2.2.2.2.2.1, x2.2.2.2.2.2.2.2.2.2.2.2.1, x2.2.2.2.2.2.2.2.2.2.2.2.2)))))
noncomputable def Mo_reachesAll_L8 (wells_m : Int32) (laidNow_m : Nat → Int32) : (Int32 × Int32) → Option ((Int32 × Int32) ⊕ (Int32)) := fun s8 =>
  if s8.2 < wells_m then (gd (ix s8.2 7) (some (.inl (s8.1 ||| ((laidNow_m (s8.2 : Int32).toNatClampNeg) <<< ((4 * s8.2) &&& 31)), s8.2 + 1)))) else (some (.inr s8.1))
noncomputable def Mo_reachesAll_L71_J101 (v2 : Int32) (v3 : Int32) (v4 : Int32) (wells_m : Int32) (stateAt_m : Nat → Int32) : Option ((Int32 × Int32) ⊕ (Int32)) :=
  some (.inl (v2, v4 + 1))
noncomputable def Mo_reachesAll_L71 (v3 : Int32) (wells_m : Int32) (stateAt_m : Nat → Int32) : (Int32 × Int32) → Option ((Int32 × Int32) ⊕ (Int32)) := fun s71 =>
  if s71.2 < wells_m then (gd (ix v3 131072) (ob (Mo_jarsIn (stateAt_m (v3 : Int32).toNatClampNeg) s71.2) fun x2 =>
  if x2 ≤ 0 then (Mo_reachesAll_L71_J101 s71.1 v3 s71.2 wells_m stateAt_m) else (Mo_reachesAll_L71_J101 (s71.1 ||| ((1 : Int32) <<< (s71.2 &&& 31))) v3 s71.2 wells_m stateAt_m))) else (some (.inr s71.1))
noncomputable def Mo_reachesAll_L60 (nextTo_m : Nat → Int32) (wells_m : Int32) : (Int32 × Int32 × (Nat → Int32) × (Nat → Int32) × (Nat → Int32) × (Nat → Int32) × (Nat → Int32) × Int32) → Option ((Int32 × Int32 × (Nat → Int32) × (Nat → Int32) × (Nat → Int32) × (Nat → Int32) × (Nat → Int32) × Int32) ⊕ ((Nat → Int32) × (Nat → Int32) × (Nat → Int32) × (Nat → Int32) × (Nat → Int32) × Int32) ⊕ ((Nat → Int32) × (Nat → Int32) × (Nat → Int32) × (Nat → Int32) × (Nat → Int32) × Int32)) := fun s60 =>
  if s60.2.1 < s60.2.2.2.2.2.2.2 then (ob (lp (Mo_reachesAll_L71 s60.2.1 wells_m s60.2.2.2.1) (s60.1, 0)) fun x1 =>
  if x1 = (((1 : Int32) <<< (wells_m &&& 31)) - 1) then (some (.inr (.inl (s60.2.2.1, s60.2.2.2.1, s60.2.2.2.2.1, s60.2.2.2.2.2.1, s60.2.2.2.2.2.2.1, s60.2.2.2.2.2.2.2)))) else (ob (Mo_movesOn nextTo_m wells_m s60.2.2.1 s60.2.2.2.1 s60.2.2.2.2.1 s60.2.2.2.2.2.1 s60.2.2.2.2.2.2.1 s60.2.2.2.2.2.2.2 s60.2.1 0) fun x2 =>
  some (.inl (x1, s60.2.1 + 1, x2.1, x2.2.1, x2.2.2.1, x2.2.2.2.1, x2.2.2.2.2.1, x2.2.2.2.2.2)))) else (some (.inr (.inr (s60.2.2.1, s60.2.2.2.1, s60.2.2.2.2.1, s60.2.2.2.2.2.1, s60.2.2.2.2.2.2.1, s60.2.2.2.2.2.2.2))))
noncomputable def Mo_reachesAll (nextTo_m : Nat → Int32) (wells_m : Int32) (slotFor_m : Nat → Int32) (stateAt_m : Nat → Int32) (slotOf_m : Nat → Int32) (firstAt_m : Nat → Int32) (movesTo_m : Nat → Int32) (states_m : Int32) (laidNow_m : Nat → Int32) : Option (Int32 × (Nat → Int32) × (Nat → Int32) × (Nat → Int32) × (Nat → Int32) × (Nat → Int32) × Int32) :=
  ob (Mo_clearsStates slotFor_m slotOf_m states_m) fun x1 =>
  ob (lp (Mo_reachesAll_L8 wells_m laidNow_m) (0, 0)) fun x2 =>
  ob (Mo_placeOf x1.1 stateAt_m slotOf_m x1.2 x2) fun x3 =>
  gd (ix 0 131072) (gd (ix 0 131072) (ob (lp (Mo_reachesAll_L60 nextTo_m wells_m) (0, 0, x3.2.1, x3.2.2.1, x3.2.2.2.1, upd firstAt_m (0 : Int32).toNatClampNeg (-3), upd movesTo_m (0 : Int32).toNatClampNeg (vp_nar .byte 0), x3.2.2.2.2)) fun x6 =>
  sm x6 (fun x6 => some (1, x6.1, x6.2.1, x6.2.2.1, x6.2.2.2.1, x6.2.2.2.2.1, x6.2.2.2.2.2)) (fun x6 => some (0, x6.1, x6.2.1, x6.2.2.1, x6.2.2.2.1, x6.2.2.2.2.1, x6.2.2.2.2.2))))
noncomputable def Mo_nextRow_L39 (v1 : Int32) (wells_m : Int32) : (Int32 × Int32 × (Nat → Int32)) → Option ((Int32 × Int32 × (Nat → Int32)) ⊕ (Int32 × (Nat → Int32))) := fun s39 =>
  if s39.2.1 < wells_m then (gd (ix s39.2.1 7) (gd (ix s39.2.1 7) (some (.inl (s39.1 + (s39.2.2 (s39.2.1 : Int32).toNatClampNeg), s39.2.1 + 1, upd s39.2.2 (s39.2.1 : Int32).toNatClampNeg 0))))) else (some (.inr (s39.1, s39.2.2)))
noncomputable def Mo_nextRow_L7 (laidNow_m : Nat → Int32) : Int32 → Option ((Int32) ⊕ (Int32)) := fun s7 =>
  if s7 < 0 then (some (.inr s7)) else (gd (ix s7 7) (if (laidNow_m (s7 : Int32).toNatClampNeg) = 0 then (some (.inl (s7 - 1))) else (some (.inr s7))))
noncomputable def Mo_nextRow_J27 (v1 : Int32) (wells_m : Int32) (laidNow_m : Nat → Int32) : Option (Int32 × (Nat → Int32)) :=
  if v1 < 0 then (some (0, laidNow_m)) else (ob (lp (Mo_nextRow_L39 v1 wells_m) (0, v1 + 1, laidNow_m)) fun x1 =>
  gd (ix v1 7) (gd (ix v1 7) (gd (ix (v1 + 1) 7) (some (1, upd (upd x1.2 (v1 : Int32).toNatClampNeg ((x1.2 (v1 : Int32).toNatClampNeg) - 1)) (v1 + 1 : Int32).toNatClampNeg (x1.1 + 1))))))
noncomputable def Mo_nextRow (wells_m : Int32) (laidNow_m : Nat → Int32) : Option (Int32 × (Nat → Int32)) :=
  ob (lp (Mo_nextRow_L7 laidNow_m) (wells_m - 2)) fun x1 =>
  Mo_nextRow_J27 x1 wells_m laidNow_m
noncomputable def Mo_waysOf_L49 (v2 : Int32) (wells_m : Int32) (laidNow_m : Nat → Int32) : (Int32 × (Nat → Int32)) → Option ((Int32 × (Nat → Int32)) ⊕ (Nat → Int32)) := fun s49 =>
  if s49.1 < wells_m then (if v2 = 0 then (gd (ix s49.1 7) (gd (ix s49.1 7) (some (.inl (s49.1 + 1, upd s49.2 (s49.1 : Int32).toNatClampNeg (laidNow_m (s49.1 : Int32).toNatClampNeg)))))) else (some (.inr s49.2))) else (some (.inr s49.2))
noncomputable def Mo_waysOf_L4_J26 (v1 : Int32) (v2 : Int32) (v3 : Int32) (k0 : Int32) (k1 : Int32) (wells_m : Int32) (laidNow_m : Nat → Int32) : Option ((Int32 × (Nat → Int32)) ⊕ (Nat → Int32)) :=
  gd (ix k1 7) (some (.inl (v3 + 1, upd laidNow_m (k1 : Int32).toNatClampNeg k0)))
noncomputable def Mo_waysOf_L4 (v1 : Int32) (v2 : Int32) (wells_m : Int32) : (Int32 × (Nat → Int32)) → Option ((Int32 × (Nat → Int32)) ⊕ (Nat → Int32)) := fun s4 =>
  if s4.1 < wells_m then (if s4.1 = 0 then (Mo_waysOf_L4_J26 v1 v2 s4.1 v1 s4.1 wells_m s4.2) else (Mo_waysOf_L4_J26 v1 v2 s4.1 0 s4.1 wells_m s4.2)) else (some (.inr s4.2))
noncomputable def Mo_waysOf_L35_J86 (v2 : Int32) (nextTo_m : Nat → Int32) (wells_m : Int32) (slotFor_m : Nat → Int32) (stateAt_m : Nat → Int32) (slotOf_m : Nat → Int32) (firstAt_m : Nat → Int32) (movesTo_m : Nat → Int32) (states_m : Int32) (laidNow_m : Nat → Int32) (laidBest_m : Nat → Int32) : Option ((Int32 × Int32 × (Nat → Int32) × (Nat → Int32) × (Nat → Int32) × (Nat → Int32) × (Nat → Int32) × Int32 × (Nat → Int32) × (Nat → Int32)) ⊕ (Int32 × (Nat → Int32) × (Nat → Int32) × (Nat → Int32) × (Nat → Int32) × (Nat → Int32) × Int32 × (Nat → Int32) × (Nat → Int32))) :=
  ob (Mo_nextRow wells_m laidNow_m) fun x1 =>
  some (.inl (v2, x1.1, slotFor_m, stateAt_m, slotOf_m, firstAt_m, movesTo_m, states_m, x1.2, laidBest_m))
noncomputable def Mo_waysOf_L35_J82 (v2 : Int32) (nextTo_m : Nat → Int32) (wells_m : Int32) (slotFor_m : Nat → Int32) (stateAt_m : Nat → Int32) (slotOf_m : Nat → Int32) (firstAt_m : Nat → Int32) (movesTo_m : Nat → Int32) (states_m : Int32) (laidNow_m : Nat → Int32) (laidBest_m : Nat → Int32) : Option ((Int32 × Int32 × (Nat → Int32) × (Nat → Int32) × (Nat → Int32) × (Nat → Int32) × (Nat → Int32) × Int32 × (Nat → Int32) × (Nat → Int32)) ⊕ (Int32 × (Nat → Int32) × (Nat → Int32) × (Nat → Int32) × (Nat → Int32) × (Nat → Int32) × Int32 × (Nat → Int32) × (Nat → Int32))) :=
  Mo_waysOf_L35_J86 (v2 + 1) nextTo_m wells_m slotFor_m stateAt_m slotOf_m firstAt_m movesTo_m states_m laidNow_m laidBest_m
noncomputable def Mo_waysOf_L35 (nextTo_m : Nat → Int32) (wells_m : Int32) : (Int32 × Int32 × (Nat → Int32) × (Nat → Int32) × (Nat → Int32) × (Nat → Int32) × (Nat → Int32) × Int32 × (Nat → Int32) × (Nat → Int32)) → Option ((Int32 × Int32 × (Nat → Int32) × (Nat → Int32) × (Nat → Int32) × (Nat → Int32) × (Nat → Int32) × Int32 × (Nat → Int32) × (Nat → Int32)) ⊕ (Int32 × (Nat → Int32) × (Nat → Int32) × (Nat → Int32) × (Nat → Int32) × (Nat → Int32) × Int32 × (Nat → Int32) × (Nat → Int32))) := fun s35 =>
  if s35.2.1 = 0 then (some (.inr (s35.1, s35.2.2.1, s35.2.2.2.1, s35.2.2.2.2.1, s35.2.2.2.2.2.1, s35.2.2.2.2.2.2.1, s35.2.2.2.2.2.2.2.1, s35.2.2.2.2.2.2.2.2.1, s35.2.2.2.2.2.2.2.2.2))) else (ob (Mo_reachesAll nextTo_m wells_m s35.2.2.1 s35.2.2.2.1 s35.2.2.2.2.1 s35.2.2.2.2.2.1 s35.2.2.2.2.2.2.1 s35.2.2.2.2.2.2.2.1 s35.2.2.2.2.2.2.2.2.1) fun x1 =>
  if x1.1 = 0 then (Mo_waysOf_L35_J86 s35.1 nextTo_m wells_m x1.2.1 x1.2.2.1 x1.2.2.2.1 x1.2.2.2.2.1 x1.2.2.2.2.2.1 x1.2.2.2.2.2.2 s35.2.2.2.2.2.2.2.2.1 s35.2.2.2.2.2.2.2.2.2) else (ob (lp (Mo_waysOf_L49 s35.1 wells_m s35.2.2.2.2.2.2.2.2.1) (0, s35.2.2.2.2.2.2.2.2.2)) fun x2 =>
  Mo_waysOf_L35_J82 s35.1 nextTo_m wells_m x1.2.1 x1.2.2.1 x1.2.2.2.1 x1.2.2.2.2.1 x1.2.2.2.2.2.1 x1.2.2.2.2.2.2 s35.2.2.2.2.2.2.2.2.1 x2))
noncomputable def Mo_waysOf (nextTo_m : Nat → Int32) (wells_m : Int32) (slotFor_m : Nat → Int32) (stateAt_m : Nat → Int32) (slotOf_m : Nat → Int32) (firstAt_m : Nat → Int32) (movesTo_m : Nat → Int32) (states_m : Int32) (laidNow_m : Nat → Int32) (laidBest_m : Nat → Int32) (a1 : Int32) : Option (Int32 × (Nat → Int32) × (Nat → Int32) × (Nat → Int32) × (Nat → Int32) × (Nat → Int32) × Int32 × (Nat → Int32) × (Nat → Int32)) :=
  ob (lp (Mo_waysOf_L4 a1 0 wells_m) (0, laidNow_m)) fun x1 =>
  ob (lp (Mo_waysOf_L35 nextTo_m wells_m) (0, 1, slotFor_m, stateAt_m, slotOf_m, firstAt_m, movesTo_m, states_m, x1, laidBest_m)) fun x2 =>
  ob (Mo_clearsStates x2.2.1 x2.2.2.2.1 x2.2.2.2.2.2.2.1) fun x3 =>
  some (x2.1, x3.1, x2.2.2.1, x2.2.2.2.1, x2.2.2.2.2.1, x2.2.2.2.2.2.1, x3.2, x2.2.2.2.2.2.2.2.1, x2.2.2.2.2.2.2.2.2)
noncomputable def Mo_fewest_L51 (v1 : Int32) (nextTo_m : Nat → Int32) (wells_m : Int32) : (Int32 × Int32 × (Nat → Int32) × (Nat → Int32) × (Nat → Int32) × (Nat → Int32) × (Nat → Int32) × Int32 × (Nat → Int32) × (Nat → Int32)) → Option ((Int32 × Int32 × (Nat → Int32) × (Nat → Int32) × (Nat → Int32) × (Nat → Int32) × (Nat → Int32) × Int32 × (Nat → Int32) × (Nat → Int32)) ⊕ (Int32 × Int32 × (Nat → Int32) × (Nat → Int32) × (Nat → Int32) × (Nat → Int32) × (Nat → Int32) × Int32 × (Nat → Int32) × (Nat → Int32))) := fun s51 =>
  if s51.2.1 = 0 then (ob (Mo_waysOf nextTo_m wells_m s51.2.2.1 s51.2.2.2.1 s51.2.2.2.2.1 s51.2.2.2.2.2.1 s51.2.2.2.2.2.2.1 s51.2.2.2.2.2.2.2.1 s51.2.2.2.2.2.2.2.2.1 s51.2.2.2.2.2.2.2.2.2 (s51.1 + 1)) fun x1 =>
  some (.inl (s51.1 + 1, x1.1, x1.2.1, x1.2.2.1, x1.2.2.2.1, x1.2.2.2.2.1, x1.2.2.2.2.2.1, x1.2.2.2.2.2.2.1, x1.2.2.2.2.2.2.2.1, x1.2.2.2.2.2.2.2.2))) else (some (.inr (s51.1, s51.2.1, s51.2.2.1, s51.2.2.2.1, s51.2.2.2.2.1, s51.2.2.2.2.2.1, s51.2.2.2.2.2.2.1, s51.2.2.2.2.2.2.2.1, s51.2.2.2.2.2.2.2.2.1, s51.2.2.2.2.2.2.2.2.2)))
noncomputable def Mo_fewest_J21 (v1 : Int32) (nextTo_m : Nat → Int32) (wells_m : Int32) (slotFor_m : Nat → Int32) (stateAt_m : Nat → Int32) (slotOf_m : Nat → Int32) (firstAt_m : Nat → Int32) (movesTo_m : Nat → Int32) (states_m : Int32) (laidNow_m : Nat → Int32) (laidBest_m : Nat → Int32) : Option (Int32 × (Nat → Int32) × (Nat → Int32) × (Nat → Int32) × (Nat → Int32) × (Nat → Int32) × Int32 × (Nat → Int32) × (Nat → Int32)) :=
  if wells_m = 0 then (some ((-3), slotFor_m, stateAt_m, slotOf_m, firstAt_m, movesTo_m, states_m, laidNow_m, laidBest_m)) else (if wells_m ≤ 7 then (ob (Mo_waysOf nextTo_m wells_m slotFor_m stateAt_m slotOf_m firstAt_m movesTo_m states_m laidNow_m laidBest_m 1) fun x1 =>
  ob (lp (Mo_fewest_L51 v1 nextTo_m wells_m) (1, x1.1, x1.2.1, x1.2.2.1, x1.2.2.2.1, x1.2.2.2.2.1, x1.2.2.2.2.2.1, x1.2.2.2.2.2.2.1, x1.2.2.2.2.2.2.2.1, x1.2.2.2.2.2.2.2.2)) fun x2 =>
  if v1 = 100 then (some (x2.1, x2.2.2.1, x2.2.2.2.1, x2.2.2.2.2.1, x2.2.2.2.2.2.1, x2.2.2.2.2.2.2.1, x2.2.2.2.2.2.2.2.1, x2.2.2.2.2.2.2.2.2.1, x2.2.2.2.2.2.2.2.2.2)) else (if v1 = 101 then (some (x2.2.1, x2.2.2.1, x2.2.2.2.1, x2.2.2.2.2.1, x2.2.2.2.2.2.1, x2.2.2.2.2.2.2.1, x2.2.2.2.2.2.2.2.1, x2.2.2.2.2.2.2.2.2.1, x2.2.2.2.2.2.2.2.2.2)) else (gd (ix v1 7) (some (x2.2.2.2.2.2.2.2.2.2 (v1 : Int32).toNatClampNeg, x2.2.2.1, x2.2.2.2.1, x2.2.2.2.2.1, x2.2.2.2.2.2.1, x2.2.2.2.2.2.2.1, x2.2.2.2.2.2.2.2.1, x2.2.2.2.2.2.2.2.2.1, x2.2.2.2.2.2.2.2.2.2))))) else (some ((-4), slotFor_m, stateAt_m, slotOf_m, firstAt_m, movesTo_m, states_m, laidNow_m, laidBest_m)))
noncomputable def Mo_fewest (nextTo_m : Nat → Int32) (wells_m : Int32) (slotFor_m : Nat → Int32) (stateAt_m : Nat → Int32) (slotOf_m : Nat → Int32) (firstAt_m : Nat → Int32) (movesTo_m : Nat → Int32) (states_m : Int32) (laidNow_m : Nat → Int32) (laidBest_m : Nat → Int32) (a1 : Int32) : Option (Int32 × (Nat → Int32) × (Nat → Int32) × (Nat → Int32) × (Nat → Int32) × (Nat → Int32) × Int32 × (Nat → Int32) × (Nat → Int32)) :=
  ob (Mo_in a1 100 101) fun x1 =>
  if x1 = 0 then (ob (Mo_isWell wells_m a1) fun x2 =>
  if x2 = 0 then (some ((-1), slotFor_m, stateAt_m, slotOf_m, firstAt_m, movesTo_m, states_m, laidNow_m, laidBest_m)) else (Mo_fewest_J21 a1 nextTo_m wells_m slotFor_m stateAt_m slotOf_m firstAt_m movesTo_m states_m laidNow_m laidBest_m)) else (Mo_fewest_J21 a1 nextTo_m wells_m slotFor_m stateAt_m slotOf_m firstAt_m movesTo_m states_m laidNow_m laidBest_m)
noncomputable def Mo_atOnce_L39 (v1 : Int32) (v2 : Int32) (wells_m : Int32) (farOf_m : Nat → Int32) : (Int32 × Int32) → Option ((Int32 × Int32) ⊕ (Int32)) := fun s39 =>
  if s39.2 < wells_m then (ob (Mo_far farOf_m v2 s39.2) fun x1 =>
  some (.inl (s39.1 + ((1 : Int32) <<< (x1 &&& 31)), s39.2 + 1))) else (some (.inr s39.1))
noncomputable def Mo_atOnce_L26 (wells_m : Int32) (farOf_m : Nat → Int32) : (Int32 × Int32) → Option ((Int32 × Int32) ⊕ (Int32)) := fun s26 =>
  if s26.2 < wells_m then (ob (lp (Mo_atOnce_L39 s26.1 s26.2 wells_m farOf_m) (0, 0)) fun x1 =>
  ob (Mo_max s26.1 x1) fun x2 =>
  some (.inl (x2, s26.2 + 1))) else (some (.inr s26.1))
noncomputable def Mo_atOnce (nextTo_m : Nat → Int32) (wells_m : Int32) (farOf_m : Nat → Int32) (line_m : Nat → Int32) : Option (Int32 × (Nat → Int32) × (Nat → Int32)) :=
  if wells_m = 0 then (some ((-3), farOf_m, line_m)) else (ob (Mo_mostSteps nextTo_m wells_m farOf_m line_m) fun x1 =>
  if x1.1 = (-2) then (some ((-2), x1.2.1, x1.2.2)) else (ob (lp (Mo_atOnce_L26 wells_m x1.2.1) (0, 0)) fun x2 =>
  some (x2, x1.2.1, x1.2.2)))
noncomputable def Mo_weightIn (tape_m : Nat → Int32) (a1 : Int32) (a2 : Int32) : Option (Int32) :=
  ob (Mo_octet tape_m ((a1 + (2 * a2)) + 1)) fun x1 =>
  some x1
noncomputable def Mo_wrongIn_L2_J89 (v1 : Int32) (v2 : Int32) (v3 : Int32) (nextTo_m : Nat → Int32) (wells_m : Int32) (tape_m : Nat → Int32) : Option ((Int32) ⊕ (Int32) ⊕ (Int32) ⊕ (Unit)) :=
  some (.inl (v3 + 1))
noncomputable def Mo_wrongIn_L2 (v1 : Int32) (v2 : Int32) (nextTo_m : Nat → Int32) (wells_m : Int32) (tape_m : Nat → Int32) : Int32 → Option ((Int32) ⊕ (Int32) ⊕ (Int32) ⊕ (Unit)) := fun s2 =>
  if s2 < wells_m then (if s2 = v2 then (Mo_wrongIn_L2_J89 v1 v2 s2 nextTo_m wells_m tape_m) else (ob (Mo_weightIn tape_m v1 s2) fun x1 =>
  if x1 = 0 then (Mo_wrongIn_L2_J89 v1 v2 s2 nextTo_m wells_m tape_m) else (ob (Mo_octet tape_m (v1 + (2 * s2))) fun x2 =>
  ob (Mo_isWell wells_m x2) fun x3 =>
  if x3 = 0 then (some (.inr (.inl s2))) else (gd (ix s2 12) (ob (Mo_has (nextTo_m (s2 : Int32).toNatClampNeg) x2) fun x5 =>
  if x5 = 0 then (some (.inr (.inl s2))) else (if x2 = v2 then (Mo_wrongIn_L2_J89 v1 v2 s2 nextTo_m wells_m tape_m) else (ob (Mo_weightIn tape_m v1 s2) fun x6 =>
  ob (Mo_weightIn tape_m v1 x2) fun x7 =>
  if (2 * x6) ≤ x7 then (Mo_wrongIn_L2_J89 v1 v2 s2 nextTo_m wells_m tape_m) else (some (.inr (.inr (.inl s2))))))))))) else (some (.inr (.inr (.inr ()))))
noncomputable def Mo_wrongIn (nextTo_m : Nat → Int32) (wells_m : Int32) (tape_m : Nat → Int32) (a1 : Int32) (a2 : Int32) : Option (Int32) :=
  ob (lp (Mo_wrongIn_L2 a1 a2 nextTo_m wells_m tape_m) 0) fun x1 =>
  sm x1 (fun x1 => some x1) (fun x1 => sm x1 (fun x1 => some x1) (fun x1 => some (-1)))
noncomputable def Mo_paper_L50_J75 (v1 : Int32) (v3 : Int32) (v4 : Int32) (wells_m : Int32) (tape_m : Nat → Int32) : Option ((Int32 × Int32) ⊕ (Int32)) :=
  some (.inl (v3, v4 + 1))
noncomputable def Mo_paper_L50 (v1 : Int32) (wells_m : Int32) (tape_m : Nat → Int32) : (Int32 × Int32) → Option ((Int32 × Int32) ⊕ (Int32)) := fun s50 =>
  if s50.2 < wells_m then (if s50.2 = v1 then (Mo_paper_L50_J75 v1 s50.1 s50.2 wells_m tape_m) else (ob (Mo_weightIn tape_m 0 s50.2) fun x1 =>
  Mo_paper_L50_J75 v1 (s50.1 + x1) s50.2 wells_m tape_m)) else (some (.inr s50.1))
noncomputable def Mo_paper (nextTo_m : Nat → Int32) (wells_m : Int32) (tape_m : Nat → Int32) (taped_m : Int32) (a1 : Int32) : Option (Int32 × Int32) :=
  ob (Mo_isWell wells_m a1) fun x1 =>
  if x1 = 0 then (some ((-1), taped_m)) else (if (2 * wells_m) ≤ taped_m then (ob (Mo_wrongIn nextTo_m wells_m tape_m 0 a1) fun x2 =>
  if x2 = (-1) then (ob (lp (Mo_paper_L50 a1 wells_m tape_m) (0, 0)) fun x3 =>
  some (x3, 0)) else (some ((-2) - x2, 0))) else (some ((-1), taped_m)))
noncomputable def Mo_joined_L120 (v1 : Int32) (v2 : Int32) (v3 : Int32) (v4 : Int32) (v5 : Int32) (wells_m : Int32) (tape_m : Nat → Int32) : (Int32 × Int32) → Option ((Int32 × Int32) ⊕ (Int32)) := fun s120 =>
  if s120.2 < v2 then (ob (Mo_weightIn tape_m ((2 * wells_m) * s120.2) v5) fun x1 =>
  some (.inl (s120.1 + x1, s120.2 + 1))) else (some (.inr s120.1))
noncomputable def Mo_joined_L41 (v1 : Int32) (v2 : Int32) (nextTo_m : Nat → Int32) (wells_m : Int32) (tape_m : Nat → Int32) : Int32 → Option ((Int32) ⊕ (Int32) ⊕ (Unit)) := fun s41 =>
  if s41 < v2 then (ob (Mo_wrongIn nextTo_m wells_m tape_m ((2 * wells_m) * s41) v1) fun x1 =>
  if x1 = (-1) then (some (.inl (s41 + 1))) else (some (.inr (.inl s41)))) else (some (.inr (.inr ())))
noncomputable def Mo_joined_L96_J166 (v1 : Int32) (v2 : Int32) (v3 : Int32) (v4 : Int32) (v5 : Int32) (wells_m : Int32) (tape_m : Nat → Int32) : Option ((Int32 × Int32 × Int32) ⊕ (Int32 × Int32)) :=
  some (.inl (v3, v4, v5 + 1))
noncomputable def Mo_joined_L96 (v1 : Int32) (v2 : Int32) (wells_m : Int32) (tape_m : Nat → Int32) : (Int32 × Int32 × Int32) → Option ((Int32 × Int32 × Int32) ⊕ (Int32 × Int32)) := fun s96 =>
  if s96.2.2 < wells_m then (if s96.2.2 = v1 then (Mo_joined_L96_J166 v1 v2 s96.1 s96.2.1 s96.2.2 wells_m tape_m) else (ob (lp (Mo_joined_L120 v1 v2 s96.1 s96.2.1 s96.2.2 wells_m tape_m) (0, 0)) fun x1 =>
  ob (Mo_min s96.2.1 x1) fun x2 =>
  Mo_joined_L96_J166 v1 v2 (s96.1 + x1) x2 s96.2.2 wells_m tape_m)) else (some (.inr (s96.1, s96.2.1)))
noncomputable def Mo_joined (nextTo_m : Nat → Int32) (wells_m : Int32) (tape_m : Nat → Int32) (taped_m : Int32) (a1 : Int32) (a2 : Int32) : Option (Int32 × Int32) :=
  ob (Mo_isWell wells_m a1) fun x1 =>
  if x1 = 0 then (some ((-1), taped_m)) else (ob (Mo_in a2 1 4) fun x2 =>
  if x2 = 0 then (some ((-1), taped_m)) else (if ((2 * wells_m) * a2) ≤ taped_m then (ob (lp (Mo_joined_L41 a1 a2 nextTo_m wells_m tape_m) 0) fun x3 =>
  sm x3 (fun x3 => ob (Mo_wrongIn nextTo_m wells_m tape_m ((2 * wells_m) * x3) a1) fun x4 =>
  some ((-2) - x4, 0)) (fun x3 => ob (lp (Mo_joined_L96 a1 a2 wells_m tape_m) (0, 1000000, 0)) fun x5 =>
  if x5.2 = 0 then (some ((-100), 0)) else (gd (nz x5.2) (some ((x5.1 / x5.2) + 1, 0))))) else (some ((-1), taped_m))))
noncomputable def Mo_readsTwo_L21 (nextAt_m : Nat → Int32) (firstMany_m : Int32) : (Int32 × (Nat → Int32)) → Option ((Int32 × (Nat → Int32)) ⊕ (Nat → Int32)) := fun s21 =>
  if s21.1 < firstMany_m then (gd (ix s21.1 48) (gd (ix s21.1 12) (some (.inl (s21.1 + 1, upd s21.2 (s21.1 : Int32).toNatClampNeg (nextAt_m (s21.1 : Int32).toNatClampNeg)))))) else (some (.inr s21.2))
noncomputable def Mo_readsTwo_L84 (v1 : Int32) (nextAt_m : Nat → Int32) (secondMany_m : Int32) : (Int32 × (Nat → Int32)) → Option ((Int32 × (Nat → Int32)) ⊕ (Nat → Int32)) := fun s84 =>
  if s84.1 < secondMany_m then (gd (ix s84.1 48) (gd (ix s84.1 12) (some (.inl (s84.1 + 1, upd s84.2 (s84.1 : Int32).toNatClampNeg (nextAt_m (s84.1 : Int32).toNatClampNeg)))))) else (some (.inr s84.2))
noncomputable def Mo_readsTwo_J155 (tape_m : Nat → Int32) (place0_m : Int32) (length0_m : Int32) (fault_m : Int32) (number0_m : Int32) (manyAt_m : Nat → Int32) (nextAt_m : Nat → Int32) (partAt_m : Nat → Int32) (newNext_m : Nat → Int32) (depth_m : Int32) (firstNext_m : Nat → Int32) (secondNext_m : Nat → Int32) (firstMany_m : Int32) (secondMany_m : Int32) : Option (Int32 × Int32 × Int32 × Int32 × (Nat → Int32) × (Nat → Int32) × (Nat → Int32) × (Nat → Int32) × Int32 × (Nat → Int32) × (Nat → Int32) × Int32 × Int32) :=
  some (1, place0_m, fault_m, number0_m, manyAt_m, nextAt_m, partAt_m, newNext_m, depth_m, firstNext_m, secondNext_m, firstMany_m, secondMany_m)
noncomputable def Mo_readsTwo (tape_m : Nat → Int32) (place0_m : Int32) (length0_m : Int32) (fault_m : Int32) (number0_m : Int32) (manyAt_m : Nat → Int32) (nextAt_m : Nat → Int32) (partAt_m : Nat → Int32) (newNext_m : Nat → Int32) (depth_m : Int32) (firstNext_m : Nat → Int32) (secondNext_m : Nat → Int32) (firstMany_m : Int32) (secondMany_m : Int32) : Option (Int32 × Int32 × Int32 × Int32 × (Nat → Int32) × (Nat → Int32) × (Nat → Int32) × (Nat → Int32) × Int32 × (Nat → Int32) × (Nat → Int32) × Int32 × Int32) :=
  ob (Mo_readsWhole tape_m place0_m length0_m fault_m number0_m manyAt_m nextAt_m partAt_m newNext_m depth_m) fun x1 =>
  if x1.1 = 0 then (some (0, x1.2.1, x1.2.2.1, x1.2.2.2.1, x1.2.2.2.2.1, x1.2.2.2.2.2.1, x1.2.2.2.2.2.2.1, x1.2.2.2.2.2.2.2.1, x1.2.2.2.2.2.2.2.2, firstNext_m, secondNext_m, firstMany_m, secondMany_m)) else (gd (ix 0 4) (ob (lp (Mo_readsTwo_L21 x1.2.2.2.2.2.1 (x1.2.2.2.2.1 (0 : Int32).toNatClampNeg)) (0, firstNext_m)) fun x3 =>
  ob (Mo_takes tape_m x1.2.1 length0_m x1.2.2.1 44) fun x4 =>
  if x4.1 = 0 then (some (0, x4.2.1, x4.2.2, x1.2.2.2.1, x1.2.2.2.2.1, x1.2.2.2.2.2.1, x1.2.2.2.2.2.2.1, x1.2.2.2.2.2.2.2.1, x1.2.2.2.2.2.2.2.2, x3, secondNext_m, x1.2.2.2.2.1 (0 : Int32).toNatClampNeg, secondMany_m)) else (ob (Mo_readsWhole tape_m x4.2.1 length0_m x4.2.2 x1.2.2.2.1 x1.2.2.2.2.1 x1.2.2.2.2.2.1 x1.2.2.2.2.2.2.1 x1.2.2.2.2.2.2.2.1 x1.2.2.2.2.2.2.2.2) fun x5 =>
  if x5.1 = 0 then (some (0, x5.2.1, x5.2.2.1, x5.2.2.2.1, x5.2.2.2.2.1, x5.2.2.2.2.2.1, x5.2.2.2.2.2.2.1, x5.2.2.2.2.2.2.2.1, x5.2.2.2.2.2.2.2.2, x3, secondNext_m, x1.2.2.2.2.1 (0 : Int32).toNatClampNeg, secondMany_m)) else (gd (ix 0 4) (ob (lp (Mo_readsTwo_L84 x4.2.1 x5.2.2.2.2.2.1 (x5.2.2.2.2.1 (0 : Int32).toNatClampNeg)) (0, secondNext_m)) fun x7 =>
  if ((x1.2.2.2.2.1 (0 : Int32).toNatClampNeg) * (x5.2.2.2.2.1 (0 : Int32).toNatClampNeg)) ≤ 12 then (if x5.2.1 = length0_m then (Mo_readsTwo_J155 tape_m x5.2.1 length0_m x5.2.2.1 x5.2.2.2.1 x5.2.2.2.2.1 x5.2.2.2.2.2.1 x5.2.2.2.2.2.2.1 x5.2.2.2.2.2.2.2.1 x5.2.2.2.2.2.2.2.2 x3 x7 (x1.2.2.2.2.1 (0 : Int32).toNatClampNeg) (x5.2.2.2.2.1 (0 : Int32).toNatClampNeg)) else (ob (Mo_wrongAt x5.2.2.1 1 x5.2.1) fun x8 =>
  if x8.1 = 0 then (some (0, x5.2.1, x8.2, x5.2.2.2.1, x5.2.2.2.2.1, x5.2.2.2.2.2.1, x5.2.2.2.2.2.2.1, x5.2.2.2.2.2.2.2.1, x5.2.2.2.2.2.2.2.2, x3, x7, x1.2.2.2.2.1 (0 : Int32).toNatClampNeg, x5.2.2.2.2.1 (0 : Int32).toNatClampNeg)) else (Mo_readsTwo_J155 tape_m x5.2.1 length0_m x8.2 x5.2.2.2.1 x5.2.2.2.2.1 x5.2.2.2.2.2.1 x5.2.2.2.2.2.2.1 x5.2.2.2.2.2.2.2.1 x5.2.2.2.2.2.2.2.2 x3 x7 (x1.2.2.2.2.1 (0 : Int32).toNatClampNeg) (x5.2.2.2.2.1 (0 : Int32).toNatClampNeg)))) else (ob (Mo_wrongAt x5.2.2.1 6 x4.2.1) fun x11 =>
  gd (isB x11.1) (some (x11.1, x5.2.1, x11.2, x5.2.2.2.1, x5.2.2.2.2.1, x5.2.2.2.2.2.1, x5.2.2.2.2.2.2.1, x5.2.2.2.2.2.2.2.1, x5.2.2.2.2.2.2.2.2, x3, x7, x1.2.2.2.2.1 (0 : Int32).toNatClampNeg, x5.2.2.2.2.1 (0 : Int32).toNatClampNeg))))))))
noncomputable def Mo_becomes_firstNext_L7_J30 (v2 : Int32) (v3 : Int32) (k0 : Int32) (k1 : Int32) (nextTo_m : Nat → Int32) (firstNext_m : Nat → Int32) : Option ((Int32 × (Nat → Int32)) ⊕ (Nat → Int32)) :=
  gd (ix k1 12) (some (.inl (v3 + 1, upd nextTo_m (k1 : Int32).toNatClampNeg k0)))
noncomputable def Mo_becomes_firstNext_L7 (v2 : Int32) (firstNext_m : Nat → Int32) : (Int32 × (Nat → Int32)) → Option ((Int32 × (Nat → Int32)) ⊕ (Nat → Int32)) := fun s7 =>
  if s7.1 < 12 then (if s7.1 < v2 then (gd (ix s7.1 12) (Mo_becomes_firstNext_L7_J30 v2 s7.1 (firstNext_m (s7.1 : Int32).toNatClampNeg) s7.1 s7.2 firstNext_m)) else (Mo_becomes_firstNext_L7_J30 v2 s7.1 0 s7.1 s7.2 firstNext_m)) else (some (.inr s7.2))
noncomputable def Mo_becomes_firstNext (nextTo_m : Nat → Int32) (wells_m : Int32) (firstNext_m : Nat → Int32) (a2 : Int32) : Option ((Nat → Int32) × Int32) :=
  ob (lp (Mo_becomes_firstNext_L7 a2 firstNext_m) (0, nextTo_m)) fun x1 =>
  some (x1, a2)
noncomputable def Mo_becomes_secondNext_L7_J30 (v2 : Int32) (v3 : Int32) (k0 : Int32) (k1 : Int32) (nextTo_m : Nat → Int32) (secondNext_m : Nat → Int32) : Option ((Int32 × (Nat → Int32)) ⊕ (Nat → Int32)) :=
  gd (ix k1 12) (some (.inl (v3 + 1, upd nextTo_m (k1 : Int32).toNatClampNeg k0)))
noncomputable def Mo_becomes_secondNext_L7 (v2 : Int32) (secondNext_m : Nat → Int32) : (Int32 × (Nat → Int32)) → Option ((Int32 × (Nat → Int32)) ⊕ (Nat → Int32)) := fun s7 =>
  if s7.1 < 12 then (if s7.1 < v2 then (gd (ix s7.1 12) (Mo_becomes_secondNext_L7_J30 v2 s7.1 (secondNext_m (s7.1 : Int32).toNatClampNeg) s7.1 s7.2 secondNext_m)) else (Mo_becomes_secondNext_L7_J30 v2 s7.1 0 s7.1 s7.2 secondNext_m)) else (some (.inr s7.2))
noncomputable def Mo_becomes_secondNext (nextTo_m : Nat → Int32) (wells_m : Int32) (secondNext_m : Nat → Int32) (a2 : Int32) : Option ((Nat → Int32) × Int32) :=
  ob (lp (Mo_becomes_secondNext_L7 a2 secondNext_m) (0, nextTo_m)) fun x1 =>
  some (x1, a2)
noncomputable def Mo_becomes_nextAt_L7_J30 (v2 : Int32) (v3 : Int32) (k0 : Int32) (k1 : Int32) (nextTo_m : Nat → Int32) (nextAt_m : Nat → Int32) : Option ((Int32 × (Nat → Int32)) ⊕ (Nat → Int32)) :=
  gd (ix k1 12) (some (.inl (v3 + 1, upd nextTo_m (k1 : Int32).toNatClampNeg k0)))
noncomputable def Mo_becomes_nextAt_L7 (v2 : Int32) (nextAt_m : Nat → Int32) : (Int32 × (Nat → Int32)) → Option ((Int32 × (Nat → Int32)) ⊕ (Nat → Int32)) := fun s7 =>
  if s7.1 < 12 then (if s7.1 < v2 then (gd (ix s7.1 48) (Mo_becomes_nextAt_L7_J30 v2 s7.1 (nextAt_m (s7.1 : Int32).toNatClampNeg) s7.1 s7.2 nextAt_m)) else (Mo_becomes_nextAt_L7_J30 v2 s7.1 0 s7.1 s7.2 nextAt_m)) else (some (.inr s7.2))
noncomputable def Mo_becomes_nextAt (nextTo_m : Nat → Int32) (wells_m : Int32) (nextAt_m : Nat → Int32) (a2 : Int32) : Option ((Nat → Int32) × Int32) :=
  ob (lp (Mo_becomes_nextAt_L7 a2 nextAt_m) (0, nextTo_m)) fun x1 =>
  some (x1, a2)
noncomputable def Mo_becomes_wasNext_L7_J30 (v2 : Int32) (v3 : Int32) (k0 : Int32) (k1 : Int32) (nextTo_m : Nat → Int32) (wasNext_m : Nat → Int32) : Option ((Int32 × (Nat → Int32)) ⊕ (Nat → Int32)) :=
  gd (ix k1 12) (some (.inl (v3 + 1, upd nextTo_m (k1 : Int32).toNatClampNeg k0)))
noncomputable def Mo_becomes_wasNext_L7 (v2 : Int32) (wasNext_m : Nat → Int32) : (Int32 × (Nat → Int32)) → Option ((Int32 × (Nat → Int32)) ⊕ (Nat → Int32)) := fun s7 =>
  if s7.1 < 12 then (if s7.1 < v2 then (gd (ix s7.1 12) (Mo_becomes_wasNext_L7_J30 v2 s7.1 (wasNext_m (s7.1 : Int32).toNatClampNeg) s7.1 s7.2 wasNext_m)) else (Mo_becomes_wasNext_L7_J30 v2 s7.1 0 s7.1 s7.2 wasNext_m)) else (some (.inr s7.2))
noncomputable def Mo_becomes_wasNext (nextTo_m : Nat → Int32) (wasNext_m : Nat → Int32) (wells_m : Int32) (a2 : Int32) : Option ((Nat → Int32) × Int32) :=
  ob (lp (Mo_becomes_wasNext_L7 a2 wasNext_m) (0, nextTo_m)) fun x1 =>
  some (x1, a2)
noncomputable def Mo_laysProduct_L22 (firstNext_m : Nat → Int32) (firstMany_m : Int32) : (Int32 × (Nat → Int32)) → Option ((Int32 × (Nat → Int32)) ⊕ (Nat → Int32)) := fun s22 =>
  if s22.1 < firstMany_m then (gd (ix s22.1 12) (gd (ix s22.1 48) (some (.inl (s22.1 + 1, upd s22.2 (s22.1 : Int32).toNatClampNeg (firstNext_m (s22.1 : Int32).toNatClampNeg)))))) else (some (.inr s22.2))
noncomputable def Mo_laysProduct_L50 (secondNext_m : Nat → Int32) (secondMany_m : Int32) : (Int32 × (Nat → Int32)) → Option ((Int32 × (Nat → Int32)) ⊕ (Nat → Int32)) := fun s50 =>
  if s50.1 < secondMany_m then (gd (ix s50.1 12) (gd (ix (12 + s50.1) 48) (some (.inl (s50.1 + 1, upd s50.2 (12 + s50.1 : Int32).toNatClampNeg (secondNext_m (s50.1 : Int32).toNatClampNeg)))))) else (some (.inr s50.2))
noncomputable def Mo_laysProduct (fault_m : Int32) (manyAt_m : Nat → Int32) (nextAt_m : Nat → Int32) (partAt_m : Nat → Int32) (newNext_m : Nat → Int32) (firstNext_m : Nat → Int32) (secondNext_m : Nat → Int32) (firstMany_m : Int32) (secondMany_m : Int32) : Option (Int32 × (Nat → Int32) × (Nat → Int32) × (Nat → Int32)) :=
  gd (ix 0 4) (gd (ix 1 4) (ob (lp (Mo_laysProduct_L22 firstNext_m firstMany_m) (0, nextAt_m)) fun x3 =>
  ob (lp (Mo_laysProduct_L50 secondNext_m secondMany_m) (0, x3)) fun x4 =>
  ob (Mo_joins fault_m (upd (upd manyAt_m (0 : Int32).toNatClampNeg firstMany_m) (1 : Int32).toNatClampNeg secondMany_m) x4 partAt_m newNext_m 0) fun x5 =>
  some (x5.2.1, x5.2.2.1, x5.2.2.2.1, x5.2.2.2.2)))
noncomputable def Mo_product_L54 (nextTo_m : Nat → Int32) : (Int32 × (Nat → Int32)) → Option ((Int32 × (Nat → Int32)) ⊕ (Nat → Int32)) := fun s54 =>
  if s54.1 < 12 then (gd (ix s54.1 12) (gd (ix s54.1 12) (some (.inl (s54.1 + 1, upd s54.2 (s54.1 : Int32).toNatClampNeg (nextTo_m (s54.1 : Int32).toNatClampNeg)))))) else (some (.inr s54.2))
noncomputable def Mo_product_J163 (nextTo_m : Nat → Int32) (wasNext_m : Nat → Int32) (wells_m : Int32) (wasWells_m : Int32) (farOf_m : Nat → Int32) (line_m : Nat → Int32) (tape_m : Nat → Int32) (taped_m : Int32) (place0_m : Int32) (length0_m : Int32) (fault_m : Int32) (number0_m : Int32) (codeMany_m : Int32) (saidMany_m : Int32) (manyAt_m : Nat → Int32) (nextAt_m : Nat → Int32) (partAt_m : Nat → Int32) (newNext_m : Nat → Int32) (depth_m : Int32) (shiftOf_m : Nat → Int32) (widthOf_m : Nat → Int32) (nextIn_m : Nat → Int32) (headOf_m : Nat → Int32) (isVain_m : Nat → Int32) (bitsInAll_m : Int32) (vainMost_m : Int32) (vainMany_m : Int32) (vainGreatest_m : Int32) (lowestBest_m : Int32) (firstNext_m : Nat → Int32) (secondNext_m : Nat → Int32) (firstMany_m : Int32) (secondMany_m : Int32) : Option (Int32 × (Nat → Int32) × (Nat → Int32) × Int32 × Int32 × (Nat → Int32) × (Nat → Int32) × Int32 × Int32 × Int32 × Int32 × Int32 × Int32 × Int32 × (Nat → Int32) × (Nat → Int32) × (Nat → Int32) × (Nat → Int32) × Int32 × (Nat → Int32) × (Nat → Int32) × (Nat → Int32) × (Nat → Int32) × (Nat → Int32) × Int32 × Int32 × Int32 × Int32 × Int32 × (Nat → Int32) × (Nat → Int32) × Int32 × Int32) :=
  some (1000000, nextTo_m, wasNext_m, wells_m, wasWells_m, farOf_m, line_m, taped_m, place0_m, length0_m, fault_m, number0_m, codeMany_m, saidMany_m, manyAt_m, nextAt_m, partAt_m, newNext_m, depth_m, shiftOf_m, widthOf_m, nextIn_m, headOf_m, isVain_m, bitsInAll_m, vainMost_m, vainMany_m, vainGreatest_m, lowestBest_m, firstNext_m, secondNext_m, firstMany_m, secondMany_m)
noncomputable def Mo_product (nextTo_m : Nat → Int32) (wasNext_m : Nat → Int32) (wells_m : Int32) (wasWells_m : Int32) (farOf_m : Nat → Int32) (line_m : Nat → Int32) (tape_m : Nat → Int32) (taped_m : Int32) (place0_m : Int32) (length0_m : Int32) (fault_m : Int32) (number0_m : Int32) (codeMany_m : Int32) (saidMany_m : Int32) (manyAt_m : Nat → Int32) (nextAt_m : Nat → Int32) (partAt_m : Nat → Int32) (newNext_m : Nat → Int32) (depth_m : Int32) (shiftOf_m : Nat → Int32) (widthOf_m : Nat → Int32) (nextIn_m : Nat → Int32) (headOf_m : Nat → Int32) (isVain_m : Nat → Int32) (bitsInAll_m : Int32) (vainMost_m : Int32) (vainMany_m : Int32) (vainGreatest_m : Int32) (lowestBest_m : Int32) (firstNext_m : Nat → Int32) (secondNext_m : Nat → Int32) (firstMany_m : Int32) (secondMany_m : Int32) (a1 : Int32) : Option (Int32 × (Nat → Int32) × (Nat → Int32) × Int32 × Int32 × (Nat → Int32) × (Nat → Int32) × Int32 × Int32 × Int32 × Int32 × Int32 × Int32 × Int32 × (Nat → Int32) × (Nat → Int32) × (Nat → Int32) × (Nat → Int32) × Int32 × (Nat → Int32) × (Nat → Int32) × (Nat → Int32) × (Nat → Int32) × (Nat → Int32) × Int32 × Int32 × Int32 × Int32 × Int32 × (Nat → Int32) × (Nat → Int32) × Int32 × Int32) :=
  ob (Mo_in a1 1 60) fun x1 =>
  if x1 = 0 then (some ((-1), nextTo_m, wasNext_m, wells_m, wasWells_m, farOf_m, line_m, taped_m, place0_m, length0_m, fault_m, number0_m, codeMany_m, saidMany_m, manyAt_m, nextAt_m, partAt_m, newNext_m, depth_m, shiftOf_m, widthOf_m, nextIn_m, headOf_m, isVain_m, bitsInAll_m, vainMost_m, vainMany_m, vainGreatest_m, lowestBest_m, firstNext_m, secondNext_m, firstMany_m, secondMany_m)) else (if a1 ≤ taped_m then (ob (Mo_beginsText place0_m length0_m codeMany_m saidMany_m a1) fun x2 =>
  ob (Mo_readsTwo tape_m x2.1 x2.2.1 fault_m number0_m manyAt_m nextAt_m partAt_m newNext_m depth_m firstNext_m secondNext_m firstMany_m secondMany_m) fun x3 =>
  if x3.1 = 0 then (some (x3.2.2.1, nextTo_m, wasNext_m, wells_m, wasWells_m, farOf_m, line_m, 0, x3.2.1, x2.2.1, x3.2.2.1, x3.2.2.2.1, x2.2.2.1, x2.2.2.2, x3.2.2.2.2.1, x3.2.2.2.2.2.1, x3.2.2.2.2.2.2.1, x3.2.2.2.2.2.2.2.1, x3.2.2.2.2.2.2.2.2.1, shiftOf_m, widthOf_m, nextIn_m, headOf_m, isVain_m, bitsInAll_m, vainMost_m, vainMany_m, vainGreatest_m, lowestBest_m, x3.2.2.2.2.2.2.2.2.2.1, x3.2.2.2.2.2.2.2.2.2.2.1, x3.2.2.2.2.2.2.2.2.2.2.2.1, x3.2.2.2.2.2.2.2.2.2.2.2.2)) else (ob (lp (Mo_product_L54 nextTo_m) (0, wasNext_m)) fun x4 =>
  ob (Mo_becomes_firstNext nextTo_m wells_m x3.2.2.2.2.2.2.2.2.2.1 x3.2.2.2.2.2.2.2.2.2.2.2.1) fun x5 =>
  ob (Mo_numberOfLand x5.1 x5.2 farOf_m line_m shiftOf_m widthOf_m nextIn_m headOf_m isVain_m bitsInAll_m vainMost_m vainMany_m vainGreatest_m lowestBest_m) fun x6 =>
  ob (Mo_becomes_secondNext x5.1 x5.2 x3.2.2.2.2.2.2.2.2.2.2.1 x3.2.2.2.2.2.2.2.2.2.2.2.2) fun x7 =>
  ob (Mo_numberOfLand x7.1 x7.2 x6.2.1 x6.2.2.1 x6.2.2.2.1 x6.2.2.2.2.1 x6.2.2.2.2.2.1 x6.2.2.2.2.2.2.1 x6.2.2.2.2.2.2.2.1 x6.2.2.2.2.2.2.2.2.1 x6.2.2.2.2.2.2.2.2.2.1 x6.2.2.2.2.2.2.2.2.2.2.1 x6.2.2.2.2.2.2.2.2.2.2.2.1 x6.2.2.2.2.2.2.2.2.2.2.2.2) fun x8 =>
  ob (Mo_laysProduct x3.2.2.1 x3.2.2.2.2.1 x3.2.2.2.2.2.1 x3.2.2.2.2.2.2.1 x3.2.2.2.2.2.2.2.1 x3.2.2.2.2.2.2.2.2.2.1 x3.2.2.2.2.2.2.2.2.2.2.1 x3.2.2.2.2.2.2.2.2.2.2.2.1 x3.2.2.2.2.2.2.2.2.2.2.2.2) fun x9 =>
  gd (ix 0 4) (ob (Mo_becomes_nextAt x7.1 x7.2 x9.2.2.1 (x9.2.1 (0 : Int32).toNatClampNeg)) fun x11 =>
  ob (Mo_numberOfLand x11.1 x11.2 x8.2.1 x8.2.2.1 x8.2.2.2.1 x8.2.2.2.2.1 x8.2.2.2.2.2.1 x8.2.2.2.2.2.2.1 x8.2.2.2.2.2.2.2.1 x8.2.2.2.2.2.2.2.2.1 x8.2.2.2.2.2.2.2.2.2.1 x8.2.2.2.2.2.2.2.2.2.2.1 x8.2.2.2.2.2.2.2.2.2.2.2.1 x8.2.2.2.2.2.2.2.2.2.2.2.2) fun x12 =>
  ob (Mo_becomes_wasNext x11.1 x4 x11.2 wells_m) fun x13 =>
  if x6.1 < 0 then (Mo_product_J163 x13.1 x4 x13.2 wells_m x12.2.1 x12.2.2.1 tape_m 0 x3.2.1 x2.2.1 x9.1 x3.2.2.2.1 x2.2.2.1 x2.2.2.2 x9.2.1 x9.2.2.1 x3.2.2.2.2.2.2.1 x9.2.2.2 x3.2.2.2.2.2.2.2.2.1 x12.2.2.2.1 x12.2.2.2.2.1 x12.2.2.2.2.2.1 x12.2.2.2.2.2.2.1 x12.2.2.2.2.2.2.2.1 x12.2.2.2.2.2.2.2.2.1 x12.2.2.2.2.2.2.2.2.2.1 x12.2.2.2.2.2.2.2.2.2.2.1 x12.2.2.2.2.2.2.2.2.2.2.2.1 x12.2.2.2.2.2.2.2.2.2.2.2.2 x3.2.2.2.2.2.2.2.2.2.1 x3.2.2.2.2.2.2.2.2.2.2.1 x3.2.2.2.2.2.2.2.2.2.2.2.1 x3.2.2.2.2.2.2.2.2.2.2.2.2) else (if x8.1 < 0 then (Mo_product_J163 x13.1 x4 x13.2 wells_m x12.2.1 x12.2.2.1 tape_m 0 x3.2.1 x2.2.1 x9.1 x3.2.2.2.1 x2.2.2.1 x2.2.2.2 x9.2.1 x9.2.2.1 x3.2.2.2.2.2.2.1 x9.2.2.2 x3.2.2.2.2.2.2.2.2.1 x12.2.2.2.1 x12.2.2.2.2.1 x12.2.2.2.2.2.1 x12.2.2.2.2.2.2.1 x12.2.2.2.2.2.2.2.1 x12.2.2.2.2.2.2.2.2.1 x12.2.2.2.2.2.2.2.2.2.1 x12.2.2.2.2.2.2.2.2.2.2.1 x12.2.2.2.2.2.2.2.2.2.2.2.1 x12.2.2.2.2.2.2.2.2.2.2.2.2 x3.2.2.2.2.2.2.2.2.2.1 x3.2.2.2.2.2.2.2.2.2.2.1 x3.2.2.2.2.2.2.2.2.2.2.2.1 x3.2.2.2.2.2.2.2.2.2.2.2.2) else (if x12.1 < 0 then (Mo_product_J163 x13.1 x4 x13.2 wells_m x12.2.1 x12.2.2.1 tape_m 0 x3.2.1 x2.2.1 x9.1 x3.2.2.2.1 x2.2.2.1 x2.2.2.2 x9.2.1 x9.2.2.1 x3.2.2.2.2.2.2.1 x9.2.2.2 x3.2.2.2.2.2.2.2.2.1 x12.2.2.2.1 x12.2.2.2.2.1 x12.2.2.2.2.2.1 x12.2.2.2.2.2.2.1 x12.2.2.2.2.2.2.2.1 x12.2.2.2.2.2.2.2.2.1 x12.2.2.2.2.2.2.2.2.2.1 x12.2.2.2.2.2.2.2.2.2.2.1 x12.2.2.2.2.2.2.2.2.2.2.2.1 x12.2.2.2.2.2.2.2.2.2.2.2.2 x3.2.2.2.2.2.2.2.2.2.1 x3.2.2.2.2.2.2.2.2.2.2.1 x3.2.2.2.2.2.2.2.2.2.2.2.1 x3.2.2.2.2.2.2.2.2.2.2.2.2) else (some ((x6.1 * x8.1) - x12.1, x13.1, x4, x13.2, wells_m, x12.2.1, x12.2.2.1, 0, x3.2.1, x2.2.1, x9.1, x3.2.2.2.1, x2.2.2.1, x2.2.2.2, x9.2.1, x9.2.2.1, x3.2.2.2.2.2.2.1, x9.2.2.2, x3.2.2.2.2.2.2.2.2.1, x12.2.2.2.1, x12.2.2.2.2.1, x12.2.2.2.2.2.1, x12.2.2.2.2.2.2.1, x12.2.2.2.2.2.2.2.1, x12.2.2.2.2.2.2.2.2.1, x12.2.2.2.2.2.2.2.2.2.1, x12.2.2.2.2.2.2.2.2.2.2.1, x12.2.2.2.2.2.2.2.2.2.2.2.1, x12.2.2.2.2.2.2.2.2.2.2.2.2, x3.2.2.2.2.2.2.2.2.2.1, x3.2.2.2.2.2.2.2.2.2.2.1, x3.2.2.2.2.2.2.2.2.2.2.2.1, x3.2.2.2.2.2.2.2.2.2.2.2.2))))))) else (some ((-1), nextTo_m, wasNext_m, wells_m, wasWells_m, farOf_m, line_m, taped_m, place0_m, length0_m, fault_m, number0_m, codeMany_m, saidMany_m, manyAt_m, nextAt_m, partAt_m, newNext_m, depth_m, shiftOf_m, widthOf_m, nextIn_m, headOf_m, isVain_m, bitsInAll_m, vainMost_m, vainMany_m, vainGreatest_m, lowestBest_m, firstNext_m, secondNext_m, firstMany_m, secondMany_m)))
/-! the reference, 5 -/
noncomputable def Mo_totalIn_L4 (v0 : Int32) : (Int32 × Int32) → Option ((Int32 × Int32) ⊕ (Int32)) := fun s4 =>
  if s4.2 < 8 then (some (.inl (s4.1 + ((v0 >>> ((4 * s4.2) &&& 31)) &&& 15), s4.2 + 1))) else (some (.inr s4.1))
noncomputable def Mo_totalIn (a0 : Int32) : Option (Int32) :=
  ob (lp (Mo_totalIn_L4 a0) (0, 0)) fun x1 =>
  some x1
noncomputable def Mo_comes (slotFor_m : Nat → Int32) (stateAt_m : Nat → Int32) (slotOf_m : Nat → Int32) (states_m : Int32) (chainOf_m : Nat → Int32) (chainAt_m : Nat → Int32) (canWin_m : Nat → Int32) (a1 : Int32) : Option ((Nat → Int32) × (Nat → Int32) × (Nat → Int32) × Int32 × (Nat → Int32) × (Nat → Int32) × (Nat → Int32)) :=
  ob (Mo_placeOf slotFor_m stateAt_m slotOf_m states_m a1) fun x1 =>
  if x1.2.2.2.2 = states_m then (some (x1.2.1, x1.2.2.1, x1.2.2.2.1, x1.2.2.2.2, chainOf_m, chainAt_m, canWin_m)) else (gd (ix x1.1 131072) (ob (Mo_totalIn a1) fun x3 =>
  gd (ix x3 13) (gd (ix x1.1 131072) (ob (Mo_totalIn a1) fun x6 =>
  gd (ix x6 13) (some (x1.2.1, x1.2.2.1, x1.2.2.2.1, x1.2.2.2.2, upd chainOf_m (x1.1 : Int32).toNatClampNeg (chainAt_m (x3 : Int32).toNatClampNeg), upd chainAt_m (x6 : Int32).toNatClampNeg x1.1, upd canWin_m (x1.1 : Int32).toNatClampNeg (vp_nar .boolean 0)))))))
noncomputable def Mo_robberLeaves_L2_J28 (v1 : Int32) (v2 : Int32) (wells_m : Int32) (slotFor_m : Nat → Int32) (stateAt_m : Nat → Int32) (slotOf_m : Nat → Int32) (states_m : Int32) (chainOf_m : Nat → Int32) (chainAt_m : Nat → Int32) (canWin_m : Nat → Int32) : Option ((Int32 × (Nat → Int32) × (Nat → Int32) × (Nat → Int32) × Int32 × (Nat → Int32) × (Nat → Int32) × (Nat → Int32)) ⊕ ((Nat → Int32) × (Nat → Int32) × (Nat → Int32) × Int32 × (Nat → Int32) × (Nat → Int32) × (Nat → Int32))) :=
  some (.inl (v2 + 1, slotFor_m, stateAt_m, slotOf_m, states_m, chainOf_m, chainAt_m, canWin_m))
noncomputable def Mo_robberLeaves_L2 (v1 : Int32) (wells_m : Int32) : (Int32 × (Nat → Int32) × (Nat → Int32) × (Nat → Int32) × Int32 × (Nat → Int32) × (Nat → Int32) × (Nat → Int32)) → Option ((Int32 × (Nat → Int32) × (Nat → Int32) × (Nat → Int32) × Int32 × (Nat → Int32) × (Nat → Int32) × (Nat → Int32)) ⊕ ((Nat → Int32) × (Nat → Int32) × (Nat → Int32) × Int32 × (Nat → Int32) × (Nat → Int32) × (Nat → Int32))) := fun s2 =>
  if s2.1 < wells_m then (ob (Mo_jarsIn v1 s2.1) fun x1 =>
  if x1 ≤ 0 then (Mo_robberLeaves_L2_J28 v1 s2.1 wells_m s2.2.1 s2.2.2.1 s2.2.2.2.1 s2.2.2.2.2.1 s2.2.2.2.2.2.1 s2.2.2.2.2.2.2.1 s2.2.2.2.2.2.2.2) else (ob (Mo_one s2.1) fun x2 =>
  ob (Mo_comes s2.2.1 s2.2.2.1 s2.2.2.2.1 s2.2.2.2.2.1 s2.2.2.2.2.2.1 s2.2.2.2.2.2.2.1 s2.2.2.2.2.2.2.2 (v1 - x2)) fun x3 =>
  Mo_robberLeaves_L2_J28 v1 s2.1 wells_m x3.1 x3.2.1 x3.2.2.1 x3.2.2.2.1 x3.2.2.2.2.1 x3.2.2.2.2.2.1 x3.2.2.2.2.2.2)) else (some (.inr (s2.2.1, s2.2.2.1, s2.2.2.2.1, s2.2.2.2.2.1, s2.2.2.2.2.2.1, s2.2.2.2.2.2.2.1, s2.2.2.2.2.2.2.2)))
noncomputable def Mo_robberLeaves (wells_m : Int32) (slotFor_m : Nat → Int32) (stateAt_m : Nat → Int32) (slotOf_m : Nat → Int32) (states_m : Int32) (chainOf_m : Nat → Int32) (chainAt_m : Nat → Int32) (canWin_m : Nat → Int32) (a1 : Int32) : Option ((Nat → Int32) × (Nat → Int32) × (Nat → Int32) × Int32 × (Nat → Int32) × (Nat → Int32) × (Nat → Int32)) :=
  ob (lp (Mo_robberLeaves_L2 a1 wells_m) (0, slotFor_m, stateAt_m, slotOf_m, states_m, chainOf_m, chainAt_m, canWin_m)) fun x1 =>
  some (x1.1, x1.2.1, x1.2.2.1, x1.2.2.2.1, x1.2.2.2.2.1, x1.2.2.2.2.2.1, x1.2.2.2.2.2.2)
noncomputable def Mo_isAtOnce_L12_J44 (v1 : Int32) (v2 : Int32) (v3 : Int32) (nextTo_m : Nat → Int32) (wells_m : Int32) : Option ((Int32) ⊕ (Unit) ⊕ (Unit)) :=
  some (.inl (v3 + 1))
noncomputable def Mo_isAtOnce_L12 (v1 : Int32) (v2 : Int32) (nextTo_m : Nat → Int32) (wells_m : Int32) : Int32 → Option ((Int32) ⊕ (Unit) ⊕ (Unit)) := fun s12 =>
  if s12 < wells_m then (gd (ix s12 12) (ob (Mo_has (nextTo_m (s12 : Int32).toNatClampNeg) v2) fun x2 =>
  if x2 = 0 then (Mo_isAtOnce_L12_J44 v1 v2 s12 nextTo_m wells_m) else (ob (Mo_jarsIn v1 s12) fun x3 =>
  if x3 ≤ 1 then (Mo_isAtOnce_L12_J44 v1 v2 s12 nextTo_m wells_m) else (some (.inr (.inl ())))))) else (some (.inr (.inr ())))
noncomputable def Mo_isAtOnce (nextTo_m : Nat → Int32) (wells_m : Int32) (a1 : Int32) (a2 : Int32) : Option (Int32) :=
  ob (Mo_jarsIn a1 a2) fun x1 =>
  if x1 ≤ 0 then (ob (lp (Mo_isAtOnce_L12 a1 a2 nextTo_m wells_m) 0) fun x2 =>
  sm x2 (fun x2 => some 1) (fun x2 => some 0)) else (some 1)
noncomputable def Mo_goesOn_L28_J78 (v1 : Int32) (v3 : Int32) (v4 : Int32) (nextTo_m : Nat → Int32) (wells_m : Int32) (slotFor_m : Nat → Int32) (stateAt_m : Nat → Int32) (slotOf_m : Nat → Int32) (states_m : Int32) (chainOf_m : Nat → Int32) (chainAt_m : Nat → Int32) (canWin_m : Nat → Int32) : Option ((Int32 × (Nat → Int32) × (Nat → Int32) × (Nat → Int32) × Int32 × (Nat → Int32) × (Nat → Int32) × (Nat → Int32)) ⊕ ((Nat → Int32) × (Nat → Int32) × (Nat → Int32) × Int32 × (Nat → Int32) × (Nat → Int32) × (Nat → Int32))) :=
  some (.inl (v4 + 1, slotFor_m, stateAt_m, slotOf_m, states_m, chainOf_m, chainAt_m, canWin_m))
noncomputable def Mo_goesOn_L28 (v1 : Int32) (v3 : Int32) (nextTo_m : Nat → Int32) (wells_m : Int32) : (Int32 × (Nat → Int32) × (Nat → Int32) × (Nat → Int32) × Int32 × (Nat → Int32) × (Nat → Int32) × (Nat → Int32)) → Option ((Int32 × (Nat → Int32) × (Nat → Int32) × (Nat → Int32) × Int32 × (Nat → Int32) × (Nat → Int32) × (Nat → Int32)) ⊕ ((Nat → Int32) × (Nat → Int32) × (Nat → Int32) × Int32 × (Nat → Int32) × (Nat → Int32) × (Nat → Int32))) := fun s28 =>
  if s28.1 < wells_m then (ob (Mo_jarsIn v1 v3) fun x1 =>
  if x1 ≤ 1 then (some (.inr (s28.2.1, s28.2.2.1, s28.2.2.2.1, s28.2.2.2.2.1, s28.2.2.2.2.2.1, s28.2.2.2.2.2.2.1, s28.2.2.2.2.2.2.2))) else (gd (ix v3 12) (ob (Mo_has (nextTo_m (v3 : Int32).toNatClampNeg) s28.1) fun x3 =>
  if x3 = 0 then (Mo_goesOn_L28_J78 v1 v3 s28.1 nextTo_m wells_m s28.2.1 s28.2.2.1 s28.2.2.2.1 s28.2.2.2.2.1 s28.2.2.2.2.2.1 s28.2.2.2.2.2.2.1 s28.2.2.2.2.2.2.2) else (ob (Mo_one v3) fun x4 =>
  ob (Mo_one s28.1) fun x5 =>
  ob (Mo_robberLeaves wells_m s28.2.1 s28.2.2.1 s28.2.2.2.1 s28.2.2.2.2.1 s28.2.2.2.2.2.1 s28.2.2.2.2.2.2.1 s28.2.2.2.2.2.2.2 ((v1 - (2 * x4)) + x5)) fun x6 =>
  Mo_goesOn_L28_J78 v1 v3 s28.1 nextTo_m wells_m x6.1 x6.2.1 x6.2.2.1 x6.2.2.2.1 x6.2.2.2.2.1 x6.2.2.2.2.2.1 x6.2.2.2.2.2.2)))) else (some (.inr (s28.2.1, s28.2.2.1, s28.2.2.2.1, s28.2.2.2.2.1, s28.2.2.2.2.2.1, s28.2.2.2.2.2.2.1, s28.2.2.2.2.2.2.2)))
noncomputable def Mo_goesOn_L17_J84 (v1 : Int32) (v3 : Int32) (nextTo_m : Nat → Int32) (wells_m : Int32) (slotFor_m : Nat → Int32) (stateAt_m : Nat → Int32) (slotOf_m : Nat → Int32) (states_m : Int32) (chainOf_m : Nat → Int32) (chainAt_m : Nat → Int32) (canWin_m : Nat → Int32) : Option ((Int32 × (Nat → Int32) × (Nat → Int32) × (Nat → Int32) × Int32 × (Nat → Int32) × (Nat → Int32) × (Nat → Int32)) ⊕ ((Nat → Int32) × (Nat → Int32) × (Nat → Int32) × Int32 × (Nat → Int32) × (Nat → Int32) × (Nat → Int32))) :=
  some (.inl (v3 + 1, slotFor_m, stateAt_m, slotOf_m, states_m, chainOf_m, chainAt_m, canWin_m))
noncomputable def Mo_goesOn_L17 (v1 : Int32) (nextTo_m : Nat → Int32) (wells_m : Int32) : (Int32 × (Nat → Int32) × (Nat → Int32) × (Nat → Int32) × Int32 × (Nat → Int32) × (Nat → Int32) × (Nat → Int32)) → Option ((Int32 × (Nat → Int32) × (Nat → Int32) × (Nat → Int32) × Int32 × (Nat → Int32) × (Nat → Int32) × (Nat → Int32)) ⊕ ((Nat → Int32) × (Nat → Int32) × (Nat → Int32) × Int32 × (Nat → Int32) × (Nat → Int32) × (Nat → Int32))) := fun s17 =>
  if s17.1 < wells_m then (ob (lp (Mo_goesOn_L28 v1 s17.1 nextTo_m wells_m) (0, s17.2.1, s17.2.2.1, s17.2.2.2.1, s17.2.2.2.2.1, s17.2.2.2.2.2.1, s17.2.2.2.2.2.2.1, s17.2.2.2.2.2.2.2)) fun x1 =>
  Mo_goesOn_L17_J84 v1 s17.1 nextTo_m wells_m x1.1 x1.2.1 x1.2.2.1 x1.2.2.2.1 x1.2.2.2.2.1 x1.2.2.2.2.2.1 x1.2.2.2.2.2.2) else (some (.inr (s17.2.1, s17.2.2.1, s17.2.2.2.1, s17.2.2.2.2.1, s17.2.2.2.2.2.1, s17.2.2.2.2.2.2.1, s17.2.2.2.2.2.2.2)))
noncomputable def Mo_goesOn (nextTo_m : Nat → Int32) (wells_m : Int32) (slotFor_m : Nat → Int32) (stateAt_m : Nat → Int32) (slotOf_m : Nat → Int32) (states_m : Int32) (chainOf_m : Nat → Int32) (chainAt_m : Nat → Int32) (canWin_m : Nat → Int32) (a1 : Int32) (a2 : Int32) : Option ((Nat → Int32) × (Nat → Int32) × (Nat → Int32) × Int32 × (Nat → Int32) × (Nat → Int32) × (Nat → Int32)) :=
  ob (Mo_isAtOnce nextTo_m wells_m a1 a2) fun x1 =>
  if x1 = 0 then (ob (Mo_robberLeaves wells_m slotFor_m stateAt_m slotOf_m states_m chainOf_m chainAt_m canWin_m a1) fun x2 =>
  ob (lp (Mo_goesOn_L17 a1 nextTo_m wells_m) (0, x2.1, x2.2.1, x2.2.2.1, x2.2.2.2.1, x2.2.2.2.2.1, x2.2.2.2.2.2.1, x2.2.2.2.2.2.2)) fun x3 =>
  some (x3.1, x3.2.1, x3.2.2.1, x3.2.2.2.1, x3.2.2.2.2.1, x3.2.2.2.2.2.1, x3.2.2.2.2.2.2)) else (some (slotFor_m, stateAt_m, slotOf_m, states_m, chainOf_m, chainAt_m, canWin_m))
noncomputable def Mo_winsAll_L4_J45 (v1 : Int32) (v2 : Int32) (v3 : Int32) (wells_m : Int32) (slotFor_m : Nat → Int32) (stateAt_m : Nat → Int32) (slotOf_m : Nat → Int32) (states_m : Int32) (canWin_m : Nat → Int32) : Option ((Int32 × Int32 × (Nat → Int32) × (Nat → Int32) × (Nat → Int32) × Int32) ⊕ ((Nat → Int32) × (Nat → Int32) × (Nat → Int32) × Int32) ⊕ (Int32 × (Nat → Int32) × (Nat → Int32) × (Nat → Int32) × Int32)) :=
  some (.inl (v2, v3 + 1, slotFor_m, stateAt_m, slotOf_m, states_m))
noncomputable def Mo_winsAll_L4 (v1 : Int32) (wells_m : Int32) (canWin_m : Nat → Int32) : (Int32 × Int32 × (Nat → Int32) × (Nat → Int32) × (Nat → Int32) × Int32) → Option ((Int32 × Int32 × (Nat → Int32) × (Nat → Int32) × (Nat → Int32) × Int32) ⊕ ((Nat → Int32) × (Nat → Int32) × (Nat → Int32) × Int32) ⊕ (Int32 × (Nat → Int32) × (Nat → Int32) × (Nat → Int32) × Int32)) := fun s4 =>
  if s4.2.1 < wells_m then (ob (Mo_jarsIn v1 s4.2.1) fun x1 =>
  if x1 = 0 then (Mo_winsAll_L4_J45 v1 s4.1 s4.2.1 wells_m s4.2.2.1 s4.2.2.2.1 s4.2.2.2.2.1 s4.2.2.2.2.2 canWin_m) else (ob (Mo_one s4.2.1) fun x2 =>
  ob (Mo_placeOf s4.2.2.1 s4.2.2.2.1 s4.2.2.2.2.1 s4.2.2.2.2.2 (v1 - x2)) fun x3 =>
  gd (ix x3.1 131072) (if (canWin_m (x3.1 : Int32).toNatClampNeg) = 0 then (some (.inr (.inl (x3.2.1, x3.2.2.1, x3.2.2.2.1, x3.2.2.2.2)))) else (Mo_winsAll_L4_J45 v1 1 s4.2.1 wells_m x3.2.1 x3.2.2.1 x3.2.2.2.1 x3.2.2.2.2 canWin_m)))) else (some (.inr (.inr (s4.1, s4.2.2.1, s4.2.2.2.1, s4.2.2.2.2.1, s4.2.2.2.2.2))))
noncomputable def Mo_winsAll (wells_m : Int32) (slotFor_m : Nat → Int32) (stateAt_m : Nat → Int32) (slotOf_m : Nat → Int32) (states_m : Int32) (canWin_m : Nat → Int32) (a1 : Int32) : Option (Int32 × (Nat → Int32) × (Nat → Int32) × (Nat → Int32) × Int32) :=
  ob (lp (Mo_winsAll_L4 a1 wells_m canWin_m) (0, 0, slotFor_m, stateAt_m, slotOf_m, states_m)) fun x1 =>
  sm x1 (fun x1 => some (0, x1.1, x1.2.1, x1.2.2.1, x1.2.2.2)) (fun x1 => gd (isB x1.1) (some (x1.1, x1.2.1, x1.2.2.1, x1.2.2.2.1, x1.2.2.2.2)))
noncomputable def Mo_wins_L32_J87 (v1 : Int32) (v3 : Int32) (v4 : Int32) (nextTo_m : Nat → Int32) (wells_m : Int32) (slotFor_m : Nat → Int32) (stateAt_m : Nat → Int32) (slotOf_m : Nat → Int32) (states_m : Int32) (canWin_m : Nat → Int32) : Option ((Int32 × (Nat → Int32) × (Nat → Int32) × (Nat → Int32) × Int32) ⊕ ((Nat → Int32) × (Nat → Int32) × (Nat → Int32) × Int32) ⊕ ((Nat → Int32) × (Nat → Int32) × (Nat → Int32) × Int32)) :=
  some (.inl (v4 + 1, slotFor_m, stateAt_m, slotOf_m, states_m))
noncomputable def Mo_wins_L32 (v1 : Int32) (v3 : Int32) (nextTo_m : Nat → Int32) (wells_m : Int32) (canWin_m : Nat → Int32) : (Int32 × (Nat → Int32) × (Nat → Int32) × (Nat → Int32) × Int32) → Option ((Int32 × (Nat → Int32) × (Nat → Int32) × (Nat → Int32) × Int32) ⊕ ((Nat → Int32) × (Nat → Int32) × (Nat → Int32) × Int32) ⊕ ((Nat → Int32) × (Nat → Int32) × (Nat → Int32) × Int32)) := fun s32 =>
  if s32.1 < wells_m then (ob (Mo_jarsIn v1 v3) fun x1 =>
  if x1 ≤ 1 then (some (.inr (.inr (s32.2.1, s32.2.2.1, s32.2.2.2.1, s32.2.2.2.2)))) else (gd (ix v3 12) (ob (Mo_has (nextTo_m (v3 : Int32).toNatClampNeg) s32.1) fun x3 =>
  if x3 = 0 then (Mo_wins_L32_J87 v1 v3 s32.1 nextTo_m wells_m s32.2.1 s32.2.2.1 s32.2.2.2.1 s32.2.2.2.2 canWin_m) else (ob (Mo_one v3) fun x4 =>
  ob (Mo_one s32.1) fun x5 =>
  ob (Mo_winsAll wells_m s32.2.1 s32.2.2.1 s32.2.2.2.1 s32.2.2.2.2 canWin_m ((v1 - (2 * x4)) + x5)) fun x6 =>
  if x6.1 = 0 then (Mo_wins_L32_J87 v1 v3 s32.1 nextTo_m wells_m x6.2.1 x6.2.2.1 x6.2.2.2.1 x6.2.2.2.2 canWin_m) else (some (.inr (.inl (x6.2.1, x6.2.2.1, x6.2.2.2.1, x6.2.2.2.2)))))))) else (some (.inr (.inr (s32.2.1, s32.2.2.1, s32.2.2.2.1, s32.2.2.2.2))))
noncomputable def Mo_wins_L21_J93 (v1 : Int32) (v3 : Int32) (nextTo_m : Nat → Int32) (wells_m : Int32) (slotFor_m : Nat → Int32) (stateAt_m : Nat → Int32) (slotOf_m : Nat → Int32) (states_m : Int32) (canWin_m : Nat → Int32) : Option ((Int32 × (Nat → Int32) × (Nat → Int32) × (Nat → Int32) × Int32) ⊕ ((Nat → Int32) × (Nat → Int32) × (Nat → Int32) × Int32) ⊕ ((Nat → Int32) × (Nat → Int32) × (Nat → Int32) × Int32)) :=
  some (.inl (v3 + 1, slotFor_m, stateAt_m, slotOf_m, states_m))
noncomputable def Mo_wins_L21 (v1 : Int32) (nextTo_m : Nat → Int32) (wells_m : Int32) (canWin_m : Nat → Int32) : (Int32 × (Nat → Int32) × (Nat → Int32) × (Nat → Int32) × Int32) → Option ((Int32 × (Nat → Int32) × (Nat → Int32) × (Nat → Int32) × Int32) ⊕ ((Nat → Int32) × (Nat → Int32) × (Nat → Int32) × Int32) ⊕ ((Nat → Int32) × (Nat → Int32) × (Nat → Int32) × Int32)) := fun s21 =>
  if s21.1 < wells_m then (ob (lp (Mo_wins_L32 v1 s21.1 nextTo_m wells_m canWin_m) (0, s21.2.1, s21.2.2.1, s21.2.2.2.1, s21.2.2.2.2)) fun x1 =>
  sm x1 (fun x1 => some (.inr (.inl (x1.1, x1.2.1, x1.2.2.1, x1.2.2.2)))) (fun x1 => Mo_wins_L21_J93 v1 s21.1 nextTo_m wells_m x1.1 x1.2.1 x1.2.2.1 x1.2.2.2 canWin_m)) else (some (.inr (.inr (s21.2.1, s21.2.2.1, s21.2.2.2.1, s21.2.2.2.2))))
noncomputable def Mo_wins (nextTo_m : Nat → Int32) (wells_m : Int32) (slotFor_m : Nat → Int32) (stateAt_m : Nat → Int32) (slotOf_m : Nat → Int32) (states_m : Int32) (canWin_m : Nat → Int32) (a1 : Int32) (a2 : Int32) : Option (Int32 × (Nat → Int32) × (Nat → Int32) × (Nat → Int32) × Int32) :=
  ob (Mo_isAtOnce nextTo_m wells_m a1 a2) fun x1 =>
  if x1 = 0 then (ob (Mo_winsAll wells_m slotFor_m stateAt_m slotOf_m states_m canWin_m a1) fun x2 =>
  if x2.1 = 0 then (ob (lp (Mo_wins_L21 a1 nextTo_m wells_m canWin_m) (0, x2.2.1, x2.2.2.1, x2.2.2.2.1, x2.2.2.2.2)) fun x3 =>
  sm x3 (fun x3 => some (1, x3.1, x3.2.1, x3.2.2.1, x3.2.2.2)) (fun x3 => some (0, x3.1, x3.2.1, x3.2.2.1, x3.2.2.2))) else (some (1, x2.2.1, x2.2.2.1, x2.2.2.2.1, x2.2.2.2.2))) else (some (1, slotFor_m, stateAt_m, slotOf_m, states_m))
noncomputable def Mo_robbers_L37 (v1 : Int32) : (Int32 × (Nat → Int32)) → Option ((Int32 × (Nat → Int32)) ⊕ (Nat → Int32)) := fun s37 =>
  if s37.1 < 13 then (gd (ix s37.1 13) (some (.inl (s37.1 + 1, upd s37.2 (s37.1 : Int32).toNatClampNeg (-1))))) else (some (.inr s37.2))
noncomputable def Mo_robbers_L78 (v1 : Int32) (v2 : Int32) (nextTo_m : Nat → Int32) (wells_m : Int32) : (Int32 × (Nat → Int32) × (Nat → Int32) × (Nat → Int32) × Int32 × (Nat → Int32) × (Nat → Int32) × (Nat → Int32)) → Option ((Int32 × (Nat → Int32) × (Nat → Int32) × (Nat → Int32) × Int32 × (Nat → Int32) × (Nat → Int32) × (Nat → Int32)) ⊕ ((Nat → Int32) × (Nat → Int32) × (Nat → Int32) × Int32 × (Nat → Int32) × (Nat → Int32) × (Nat → Int32))) := fun s78 =>
  if s78.1 = (-1) then (some (.inr (s78.2.1, s78.2.2.1, s78.2.2.2.1, s78.2.2.2.2.1, s78.2.2.2.2.2.1, s78.2.2.2.2.2.2.1, s78.2.2.2.2.2.2.2))) else (gd (ix s78.1 131072) (ob (Mo_goesOn nextTo_m wells_m s78.2.1 s78.2.2.1 s78.2.2.2.1 s78.2.2.2.2.1 s78.2.2.2.2.2.1 s78.2.2.2.2.2.2.1 s78.2.2.2.2.2.2.2 (s78.2.2.1 (s78.1 : Int32).toNatClampNeg) v1) fun x2 =>
  gd (ix s78.1 131072) (some (.inl (x2.2.2.2.2.1 (s78.1 : Int32).toNatClampNeg, x2.1, x2.2.1, x2.2.2.1, x2.2.2.2.1, x2.2.2.2.2.1, x2.2.2.2.2.2.1, x2.2.2.2.2.2.2)))))
noncomputable def Mo_robbers_L125 (v1 : Int32) (v2 : Int32) (nextTo_m : Nat → Int32) (wells_m : Int32) (chainOf_m : Nat → Int32) : (Int32 × (Nat → Int32) × (Nat → Int32) × (Nat → Int32) × Int32 × (Nat → Int32)) → Option ((Int32 × (Nat → Int32) × (Nat → Int32) × (Nat → Int32) × Int32 × (Nat → Int32)) ⊕ ((Nat → Int32) × (Nat → Int32) × (Nat → Int32) × Int32 × (Nat → Int32))) := fun s125 =>
  if s125.1 = (-1) then (some (.inr (s125.2.1, s125.2.2.1, s125.2.2.2.1, s125.2.2.2.2.1, s125.2.2.2.2.2))) else (gd (ix s125.1 131072) (ob (Mo_wins nextTo_m wells_m s125.2.1 s125.2.2.1 s125.2.2.2.1 s125.2.2.2.2.1 s125.2.2.2.2.2 (s125.2.2.1 (s125.1 : Int32).toNatClampNeg) v1) fun x2 =>
  gd (ix s125.1 131072) (gd (ix s125.1 131072) (some (.inl (chainOf_m (s125.1 : Int32).toNatClampNeg, x2.2.1, x2.2.2.1, x2.2.2.2.1, x2.2.2.2.2, upd s125.2.2.2.2.2 (s125.1 : Int32).toNatClampNeg (vp_nar .boolean x2.1)))))))
noncomputable def Mo_robbers_L67 (v1 : Int32) (nextTo_m : Nat → Int32) (wells_m : Int32) : (Int32 × (Nat → Int32) × (Nat → Int32) × (Nat → Int32) × Int32 × (Nat → Int32) × (Nat → Int32) × (Nat → Int32)) → Option ((Int32 × (Nat → Int32) × (Nat → Int32) × (Nat → Int32) × Int32 × (Nat → Int32) × (Nat → Int32) × (Nat → Int32)) ⊕ ((Nat → Int32) × (Nat → Int32) × (Nat → Int32) × Int32 × (Nat → Int32) × (Nat → Int32) × (Nat → Int32))) := fun s67 =>
  if s67.1 < 0 then (some (.inr (s67.2.1, s67.2.2.1, s67.2.2.2.1, s67.2.2.2.2.1, s67.2.2.2.2.2.1, s67.2.2.2.2.2.2.1, s67.2.2.2.2.2.2.2))) else (gd (ix s67.1 13) (ob (lp (Mo_robbers_L78 v1 s67.1 nextTo_m wells_m) (s67.2.2.2.2.2.2.1 (s67.1 : Int32).toNatClampNeg, s67.2.1, s67.2.2.1, s67.2.2.2.1, s67.2.2.2.2.1, s67.2.2.2.2.2.1, s67.2.2.2.2.2.2.1, s67.2.2.2.2.2.2.2)) fun x2 =>
  some (.inl (s67.1 + (-1), x2.1, x2.2.1, x2.2.2.1, x2.2.2.2.1, x2.2.2.2.2.1, x2.2.2.2.2.2.1, x2.2.2.2.2.2.2))))
noncomputable def Mo_robbers_L112 (v1 : Int32) (nextTo_m : Nat → Int32) (wells_m : Int32) (chainOf_m : Nat → Int32) (chainAt_m : Nat → Int32) : (Int32 × (Nat → Int32) × (Nat → Int32) × (Nat → Int32) × Int32 × (Nat → Int32)) → Option ((Int32 × (Nat → Int32) × (Nat → Int32) × (Nat → Int32) × Int32 × (Nat → Int32)) ⊕ ((Nat → Int32) × (Nat → Int32) × (Nat → Int32) × Int32 × (Nat → Int32))) := fun s112 =>
  if s112.1 < 13 then (gd (ix s112.1 13) (ob (lp (Mo_robbers_L125 v1 s112.1 nextTo_m wells_m chainOf_m) (chainAt_m (s112.1 : Int32).toNatClampNeg, s112.2.1, s112.2.2.1, s112.2.2.2.1, s112.2.2.2.2.1, s112.2.2.2.2.2)) fun x2 =>
  some (.inl (s112.1 + 1, x2.1, x2.2.1, x2.2.2.1, x2.2.2.2.1, x2.2.2.2.2)))) else (some (.inr (s112.2.1, s112.2.2.1, s112.2.2.2.1, s112.2.2.2.2.1, s112.2.2.2.2.2)))
noncomputable def Mo_robbers_J28 (now_m : Nat → Int32) (nextTo_m : Nat → Int32) (wells_m : Int32) (slotFor_m : Nat → Int32) (stateAt_m : Nat → Int32) (slotOf_m : Nat → Int32) (states_m : Int32) (chainOf_m : Nat → Int32) (chainAt_m : Nat → Int32) (canWin_m : Nat → Int32) : Option (Int32 × (Nat → Int32) × (Nat → Int32) × (Nat → Int32) × Int32 × (Nat → Int32) × (Nat → Int32) × (Nat → Int32)) :=
  some ((-4), slotFor_m, stateAt_m, slotOf_m, states_m, chainOf_m, chainAt_m, canWin_m)
noncomputable def Mo_robbers (now_m : Nat → Int32) (nextTo_m : Nat → Int32) (wells_m : Int32) (slotFor_m : Nat → Int32) (stateAt_m : Nat → Int32) (slotOf_m : Nat → Int32) (states_m : Int32) (chainOf_m : Nat → Int32) (chainAt_m : Nat → Int32) (canWin_m : Nat → Int32) (a1 : Int32) : Option (Int32 × (Nat → Int32) × (Nat → Int32) × (Nat → Int32) × Int32 × (Nat → Int32) × (Nat → Int32) × (Nat → Int32)) :=
  ob (Mo_isWell wells_m a1) fun x1 =>
  if x1 = 0 then (some ((-1), slotFor_m, stateAt_m, slotOf_m, states_m, chainOf_m, chainAt_m, canWin_m)) else (if wells_m ≤ 8 then (ob (Mo_jarsOfAll now_m wells_m) fun x2 =>
  if x2 ≤ 12 then (ob (Mo_clearsStates slotFor_m slotOf_m states_m) fun x3 =>
  ob (lp (Mo_robbers_L37 a1) (0, chainAt_m)) fun x4 =>
  ob (Mo_stateNow now_m wells_m) fun x5 =>
  ob (Mo_comes x3.1 stateAt_m slotOf_m x3.2 chainOf_m x4 canWin_m x5) fun x6 =>
  ob (lp (Mo_robbers_L67 a1 nextTo_m wells_m) (12, x6.1, x6.2.1, x6.2.2.1, x6.2.2.2.1, x6.2.2.2.2.1, x6.2.2.2.2.2.1, x6.2.2.2.2.2.2)) fun x7 =>
  ob (lp (Mo_robbers_L112 a1 nextTo_m wells_m x7.2.2.2.2.1 x7.2.2.2.2.2.1) (0, x7.1, x7.2.1, x7.2.2.1, x7.2.2.2.1, x7.2.2.2.2.2.2)) fun x8 =>
  gd (ix 0 131072) (ob (Mo_clearsStates x8.1 x8.2.2.1 x8.2.2.2.1) fun x10 =>
  if (x8.2.2.2.2 (0 : Int32).toNatClampNeg) = 0 then (some (0, x10.1, x8.2.1, x8.2.2.1, x10.2, x7.2.2.2.2.1, x7.2.2.2.2.2.1, x8.2.2.2.2)) else (some (1, x10.1, x8.2.1, x8.2.2.1, x10.2, x7.2.2.2.2.1, x7.2.2.2.2.2.1, x8.2.2.2.2)))) else (Mo_robbers_J28 now_m nextTo_m wells_m slotFor_m stateAt_m slotOf_m states_m chainOf_m chainAt_m canWin_m)) else (Mo_robbers_J28 now_m nextTo_m wells_m slotFor_m stateAt_m slotOf_m states_m chainOf_m chainAt_m canWin_m))
noncomputable def Mo_readsMove_J28 (v1 : Int32) (nextTo_m : Nat → Int32) (wells_m : Int32) (tape_m : Nat → Int32) (place0_m : Int32) (length0_m : Int32) (fault_m : Int32) (goneFrom_m : Nat → Int32) (goneTo_m : Nat → Int32) (goneMany_m : Int32) (lostMany_m : Int32) : Option (Int32 × Int32 × Int32 × (Nat → Int32) × (Nat → Int32) × Int32 × Int32) :=
  if goneMany_m = 10 then (ob (Mo_wrongAt fault_m 4 place0_m) fun x1 =>
  gd (isB x1.1) (some (x1.1, place0_m, x1.2, goneFrom_m, goneTo_m, goneMany_m, lostMany_m))) else (gd (ix ((goneMany_m + 1) - 1) 10) (if v1 = 63 then (if lostMany_m = 3 then (ob (Mo_wrongAt fault_m 5 place0_m) fun x4 =>
  gd (isB x4.1) (some (x4.1, place0_m, x4.2, upd goneFrom_m ((goneMany_m + 1) - 1 : Int32).toNatClampNeg (-1), goneTo_m, goneMany_m + 1, lostMany_m))) else (some (1, place0_m + 1, fault_m, upd goneFrom_m ((goneMany_m + 1) - 1 : Int32).toNatClampNeg (-1), goneTo_m, goneMany_m + 1, lostMany_m + 1))) else (if (v1 - 97) < wells_m then (ob (Mo_takes tape_m (place0_m + 1) length0_m fault_m 62) fun x7 =>
  if x7.1 = 0 then (some (0, x7.2.1, x7.2.2, upd goneFrom_m ((goneMany_m + 1) - 1 : Int32).toNatClampNeg (-1), goneTo_m, goneMany_m + 1, lostMany_m)) else (ob (Mo_isLetter tape_m x7.2.1 length0_m) fun x8 =>
  if x8 = 0 then (ob (Mo_wrongAt x7.2.2 1 x7.2.1) fun x9 =>
  gd (isB x9.1) (some (x9.1, x7.2.1, x9.2, upd goneFrom_m ((goneMany_m + 1) - 1 : Int32).toNatClampNeg (-1), goneTo_m, goneMany_m + 1, lostMany_m))) else (ob (Mo_here tape_m x7.2.1 length0_m) fun x11 =>
  if (x11 - 97) < wells_m then (gd (ix (v1 - 97) 12) (ob (Mo_has (nextTo_m (v1 - 97 : Int32).toNatClampNeg) (x11 - 97)) fun x13 =>
  if x13 = 0 then (ob (Mo_wrongAt x7.2.2 8 x7.2.1) fun x14 =>
  gd (isB x14.1) (some (x14.1, x7.2.1, x14.2, upd goneFrom_m ((goneMany_m + 1) - 1 : Int32).toNatClampNeg (-1), goneTo_m, goneMany_m + 1, lostMany_m))) else (gd (ix ((goneMany_m + 1) - 1) 10) (gd (ix ((goneMany_m + 1) - 1) 10) (some (1, x7.2.1 + 1, x7.2.2, upd (upd goneFrom_m ((goneMany_m + 1) - 1 : Int32).toNatClampNeg (-1)) ((goneMany_m + 1) - 1 : Int32).toNatClampNeg (v1 - 97), upd goneTo_m ((goneMany_m + 1) - 1 : Int32).toNatClampNeg (x11 - 97), goneMany_m + 1, lostMany_m)))))) else (ob (Mo_wrongAt x7.2.2 7 x7.2.1) fun x19 =>
  gd (isB x19.1) (some (x19.1, x7.2.1, x19.2, upd goneFrom_m ((goneMany_m + 1) - 1 : Int32).toNatClampNeg (-1), goneTo_m, goneMany_m + 1, lostMany_m)))))) else (ob (Mo_wrongAt fault_m 7 place0_m) fun x24 =>
  gd (isB x24.1) (some (x24.1, place0_m, x24.2, upd goneFrom_m ((goneMany_m + 1) - 1 : Int32).toNatClampNeg (-1), goneTo_m, goneMany_m + 1, lostMany_m))))))
noncomputable def Mo_readsMove (nextTo_m : Nat → Int32) (wells_m : Int32) (tape_m : Nat → Int32) (place0_m : Int32) (length0_m : Int32) (fault_m : Int32) (goneFrom_m : Nat → Int32) (goneTo_m : Nat → Int32) (goneMany_m : Int32) (lostMany_m : Int32) : Option (Int32 × Int32 × Int32 × (Nat → Int32) × (Nat → Int32) × Int32 × Int32) :=
  ob (Mo_here tape_m place0_m length0_m) fun x1 =>
  if x1 = 63 then (Mo_readsMove_J28 x1 nextTo_m wells_m tape_m place0_m length0_m fault_m goneFrom_m goneTo_m goneMany_m lostMany_m) else (ob (Mo_isLetter tape_m place0_m length0_m) fun x2 =>
  if x2 = 0 then (ob (Mo_wrongAt fault_m 1 place0_m) fun x3 =>
  gd (isB x3.1) (some (x3.1, place0_m, x3.2, goneFrom_m, goneTo_m, goneMany_m, lostMany_m))) else (Mo_readsMove_J28 x1 nextTo_m wells_m tape_m place0_m length0_m fault_m goneFrom_m goneTo_m goneMany_m lostMany_m))
noncomputable def Mo_listsMoves_L17_J71 (v1 : Int32) (v2 : Int32) (nextTo_m : Nat → Int32) (wells_m : Int32) (moveFrom_m : Nat → Int32) (moveTo_m : Nat → Int32) (moveMany_m : Int32) : Option ((Int32 × (Nat → Int32) × (Nat → Int32) × Int32) ⊕ ((Nat → Int32) × (Nat → Int32) × Int32)) :=
  some (.inl (v2 + 1, moveFrom_m, moveTo_m, moveMany_m))
noncomputable def Mo_listsMoves_L17 (v1 : Int32) (nextTo_m : Nat → Int32) (wells_m : Int32) : (Int32 × (Nat → Int32) × (Nat → Int32) × Int32) → Option ((Int32 × (Nat → Int32) × (Nat → Int32) × Int32) ⊕ ((Nat → Int32) × (Nat → Int32) × Int32)) := fun s17 =>
  if s17.1 < wells_m then (gd (ix v1 12) (ob (Mo_has (nextTo_m (v1 : Int32).toNatClampNeg) s17.1) fun x2 =>
  if x2 = 0 then (Mo_listsMoves_L17_J71 v1 s17.1 nextTo_m wells_m s17.2.1 s17.2.2.1 s17.2.2.2) else (gd (ix s17.2.2.2 132) (gd (ix s17.2.2.2 132) (Mo_listsMoves_L17_J71 v1 s17.1 nextTo_m wells_m (upd s17.2.1 (s17.2.2.2 : Int32).toNatClampNeg v1) (upd s17.2.2.1 (s17.2.2.2 : Int32).toNatClampNeg s17.1) (s17.2.2.2 + 1)))))) else (some (.inr (s17.2.1, s17.2.2.1, s17.2.2.2)))
noncomputable def Mo_listsMoves_L7 (nextTo_m : Nat → Int32) (wells_m : Int32) : (Int32 × (Nat → Int32) × (Nat → Int32) × Int32) → Option ((Int32 × (Nat → Int32) × (Nat → Int32) × Int32) ⊕ ((Nat → Int32) × (Nat → Int32) × Int32)) := fun s7 =>
  if s7.1 < wells_m then (ob (lp (Mo_listsMoves_L17 s7.1 nextTo_m wells_m) (0, s7.2.1, s7.2.2.1, s7.2.2.2)) fun x1 =>
  some (.inl (s7.1 + 1, x1.1, x1.2.1, x1.2.2))) else (some (.inr (s7.2.1, s7.2.2.1, s7.2.2.2)))
noncomputable def Mo_listsMoves (nextTo_m : Nat → Int32) (wells_m : Int32) (moveFrom_m : Nat → Int32) (moveTo_m : Nat → Int32) (moveMany_m : Int32) : Option ((Nat → Int32) × (Nat → Int32) × Int32) :=
  ob (lp (Mo_listsMoves_L7 nextTo_m wells_m) (0, moveFrom_m, moveTo_m, 0)) fun x1 =>
  some (x1.1, x1.2.1, x1.2.2)
noncomputable def Mo_goesLine_L19_J90 (v1 : Int32) (v2 : Int32) (v3 : Int32) (k0 : Int32) (goneFrom_m : Nat → Int32) (goneTo_m : Nat → Int32) (triedAt_m : Nat → Int32) (leftNow_m : Nat → Int32) (moveFrom_m : Nat → Int32) (moveTo_m : Nat → Int32) : Option ((Nat → Int32) ⊕ (Int32 × Int32 × (Nat → Int32)) ⊕ (Nat → Int32)) :=
  gd (ix v1 10) (gd (ix v1 10) (gd (ix v3 12) (if (leftNow_m (v3 : Int32).toNatClampNeg) < 2 then (some (.inl (upd triedAt_m (v1 : Int32).toNatClampNeg ((triedAt_m (v1 : Int32).toNatClampNeg) + 1)))) else (some (.inr (.inl (v3, k0, upd triedAt_m (v1 : Int32).toNatClampNeg ((triedAt_m (v1 : Int32).toNatClampNeg) + 1))))))))
noncomputable def Mo_goesLine_L19_J59 (v1 : Int32) (v2 : Int32) (k0 : Int32) (goneFrom_m : Nat → Int32) (goneTo_m : Nat → Int32) (triedAt_m : Nat → Int32) (leftNow_m : Nat → Int32) (moveFrom_m : Nat → Int32) (moveTo_m : Nat → Int32) : Option ((Nat → Int32) ⊕ (Int32 × Int32 × (Nat → Int32)) ⊕ (Nat → Int32)) :=
  gd (ix v1 10) (if (goneFrom_m (v1 : Int32).toNatClampNeg) = (-1) then (gd (ix v1 10) (gd (ix (triedAt_m (v1 : Int32).toNatClampNeg) 132) (Mo_goesLine_L19_J90 v1 v2 k0 (moveTo_m (triedAt_m (v1 : Int32).toNatClampNeg : Int32).toNatClampNeg) goneFrom_m goneTo_m triedAt_m leftNow_m moveFrom_m moveTo_m))) else (gd (ix v1 10) (Mo_goesLine_L19_J90 v1 v2 k0 (goneTo_m (v1 : Int32).toNatClampNeg) goneFrom_m goneTo_m triedAt_m leftNow_m moveFrom_m moveTo_m)))
noncomputable def Mo_goesLine_L19 (v1 : Int32) (v2 : Int32) (goneFrom_m : Nat → Int32) (goneTo_m : Nat → Int32) (leftNow_m : Nat → Int32) (moveFrom_m : Nat → Int32) (moveTo_m : Nat → Int32) : (Nat → Int32) → Option ((Nat → Int32) ⊕ (Int32 × Int32 × (Nat → Int32)) ⊕ (Nat → Int32)) := fun s19 =>
  gd (ix v1 10) (if (s19 (v1 : Int32).toNatClampNeg) < v2 then (gd (ix v1 10) (if (goneFrom_m (v1 : Int32).toNatClampNeg) = (-1) then (gd (ix v1 10) (gd (ix (s19 (v1 : Int32).toNatClampNeg) 132) (Mo_goesLine_L19_J59 v1 v2 (moveFrom_m (s19 (v1 : Int32).toNatClampNeg : Int32).toNatClampNeg) goneFrom_m goneTo_m s19 leftNow_m moveFrom_m moveTo_m))) else (gd (ix v1 10) (Mo_goesLine_L19_J59 v1 v2 (goneFrom_m (v1 : Int32).toNatClampNeg) goneFrom_m goneTo_m s19 leftNow_m moveFrom_m moveTo_m)))) else (some (.inr (.inr (s19)))))
noncomputable def Mo_goesLine_J18 (v1 : Int32) (k0 : Int32) (goneFrom_m : Nat → Int32) (goneTo_m : Nat → Int32) (triedAt_m : Nat → Int32) (leftNow_m : Nat → Int32) (moveFrom_m : Nat → Int32) (moveTo_m : Nat → Int32) (takenFrom_m : Nat → Int32) (takenTo_m : Nat → Int32) (moveMany_m : Int32) : Option (Int32 × (Nat → Int32) × (Nat → Int32) × (Nat → Int32) × (Nat → Int32)) :=
  ob (lp (Mo_goesLine_L19 v1 k0 goneFrom_m goneTo_m leftNow_m moveFrom_m moveTo_m) triedAt_m) fun x1 =>
  sm x1 (fun x1 => gd (ix x1.1 12) (gd (ix x1.1 12) (gd (ix x1.2.1 12) (gd (ix x1.2.1 12) (gd (ix v1 10) (gd (ix v1 10) (some (1, x1.2.2, upd (upd leftNow_m (x1.1 : Int32).toNatClampNeg ((leftNow_m (x1.1 : Int32).toNatClampNeg) - 2)) (x1.2.1 : Int32).toNatClampNeg (((upd leftNow_m (x1.1 : Int32).toNatClampNeg ((leftNow_m (x1.1 : Int32).toNatClampNeg) - 2)) (x1.2.1 : Int32).toNatClampNeg) + 1), upd takenFrom_m (v1 : Int32).toNatClampNeg x1.1, upd takenTo_m (v1 : Int32).toNatClampNeg x1.2.1)))))))) (fun x1 => some (0, x1, leftNow_m, takenFrom_m, takenTo_m))
noncomputable def Mo_goesLine (goneFrom_m : Nat → Int32) (goneTo_m : Nat → Int32) (triedAt_m : Nat → Int32) (leftNow_m : Nat → Int32) (moveFrom_m : Nat → Int32) (moveTo_m : Nat → Int32) (takenFrom_m : Nat → Int32) (takenTo_m : Nat → Int32) (moveMany_m : Int32) (a1 : Int32) : Option (Int32 × (Nat → Int32) × (Nat → Int32) × (Nat → Int32) × (Nat → Int32)) :=
  gd (ix a1 10) (if (goneFrom_m (a1 : Int32).toNatClampNeg) = (-1) then (Mo_goesLine_J18 a1 moveMany_m goneFrom_m goneTo_m triedAt_m leftNow_m moveFrom_m moveTo_m takenFrom_m takenTo_m moveMany_m) else (Mo_goesLine_J18 a1 1 goneFrom_m goneTo_m triedAt_m leftNow_m moveFrom_m moveTo_m takenFrom_m takenTo_m moveMany_m))
noncomputable def Mo_fillsLedger_L19 (now_m : Nat → Int32) : (Int32 × (Nat → Int32)) → Option ((Int32 × (Nat → Int32)) ⊕ (Nat → Int32)) := fun s19 =>
  if s19.1 < 12 then (gd (ix (0 + s19.1) 27) (gd (ix s19.1 12) (some (.inl (s19.1 + 1, upd s19.2 (s19.1 : Int32).toNatClampNeg (now_m (0 + s19.1 : Int32).toNatClampNeg)))))) else (some (.inr s19.2))
noncomputable def Mo_fillsLedger_L54_J164 (v1 : Int32) (now_m : Nat → Int32) (goneFrom_m : Nat → Int32) (goneTo_m : Nat → Int32) (triedAt_m : Nat → Int32) (leftNow_m : Nat → Int32) (moveFrom_m : Nat → Int32) (moveTo_m : Nat → Int32) (takenFrom_m : Nat → Int32) (takenTo_m : Nat → Int32) (goneMany_m : Int32) (moveMany_m : Int32) (waysNow_m : Int32) (leastNow_m : Int32) (mostNow_m : Int32) : Option ((Int32 × (Nat → Int32) × (Nat → Int32) × (Nat → Int32) × (Nat → Int32) × Int32 × Int32 × Int32) ⊕ ((Nat → Int32) × (Nat → Int32) × (Nat → Int32) × (Nat → Int32) × Int32 × Int32 × Int32) ⊕ ((Nat → Int32) × (Nat → Int32) × (Nat → Int32) × (Nat → Int32) × Int32 × Int32 × Int32)) :=
  if (v1 - 1) < 0 then (some (.inr (.inl (triedAt_m, leftNow_m, takenFrom_m, takenTo_m, waysNow_m, leastNow_m, mostNow_m)))) else (gd (ix (v1 - 1) 10) (gd (ix (v1 - 1) 10) (gd (ix (takenFrom_m (v1 - 1 : Int32).toNatClampNeg) 12) (gd (ix (takenFrom_m (v1 - 1 : Int32).toNatClampNeg) 12) (gd (ix (v1 - 1) 10) (gd (ix (v1 - 1) 10) (gd (ix (takenTo_m (v1 - 1 : Int32).toNatClampNeg) 12) (gd (ix (takenTo_m (v1 - 1 : Int32).toNatClampNeg) 12) (some (.inl (v1 - 1, triedAt_m, upd (upd leftNow_m (takenFrom_m (v1 - 1 : Int32).toNatClampNeg : Int32).toNatClampNeg ((leftNow_m (takenFrom_m (v1 - 1 : Int32).toNatClampNeg : Int32).toNatClampNeg) + 2)) (takenTo_m (v1 - 1 : Int32).toNatClampNeg : Int32).toNatClampNeg (((upd leftNow_m (takenFrom_m (v1 - 1 : Int32).toNatClampNeg : Int32).toNatClampNeg ((leftNow_m (takenFrom_m (v1 - 1 : Int32).toNatClampNeg : Int32).toNatClampNeg) + 2)) (takenTo_m (v1 - 1 : Int32).toNatClampNeg : Int32).toNatClampNeg) - 1), takenFrom_m, takenTo_m, waysNow_m, leastNow_m, mostNow_m)))))))))))
noncomputable def Mo_fillsLedger_L54_J149 (v1 : Int32) (v2 : Int32) (k0 : Int32) (now_m : Nat → Int32) (goneFrom_m : Nat → Int32) (goneTo_m : Nat → Int32) (triedAt_m : Nat → Int32) (leftNow_m : Nat → Int32) (moveFrom_m : Nat → Int32) (moveTo_m : Nat → Int32) (takenFrom_m : Nat → Int32) (takenTo_m : Nat → Int32) (goneMany_m : Int32) (moveMany_m : Int32) (waysNow_m : Int32) (leastNow_m : Int32) (mostNow_m : Int32) : Option ((Int32 × (Nat → Int32) × (Nat → Int32) × (Nat → Int32) × (Nat → Int32) × Int32 × Int32 × Int32) ⊕ ((Nat → Int32) × (Nat → Int32) × (Nat → Int32) × (Nat → Int32) × Int32 × Int32 × Int32) ⊕ ((Nat → Int32) × (Nat → Int32) × (Nat → Int32) × (Nat → Int32) × Int32 × Int32 × Int32)) :=
  ob (Mo_max mostNow_m v2) fun x1 =>
  Mo_fillsLedger_L54_J164 v1 now_m goneFrom_m goneTo_m triedAt_m leftNow_m moveFrom_m moveTo_m takenFrom_m takenTo_m goneMany_m moveMany_m waysNow_m k0 x1
noncomputable def Mo_fillsLedger_L54_J96 (v1 : Int32) (now_m : Nat → Int32) (goneFrom_m : Nat → Int32) (goneTo_m : Nat → Int32) (triedAt_m : Nat → Int32) (leftNow_m : Nat → Int32) (moveFrom_m : Nat → Int32) (moveTo_m : Nat → Int32) (takenFrom_m : Nat → Int32) (takenTo_m : Nat → Int32) (goneMany_m : Int32) (moveMany_m : Int32) (waysNow_m : Int32) (leastNow_m : Int32) (mostNow_m : Int32) : Option ((Int32 × (Nat → Int32) × (Nat → Int32) × (Nat → Int32) × (Nat → Int32) × Int32 × Int32 × Int32) ⊕ ((Nat → Int32) × (Nat → Int32) × (Nat → Int32) × (Nat → Int32) × Int32 × Int32 × Int32) ⊕ ((Nat → Int32) × (Nat → Int32) × (Nat → Int32) × (Nat → Int32) × Int32 × Int32 × Int32)) :=
  if v1 = goneMany_m then (gd (ix 24 27) (gd (ix (now_m (24 : Int32).toNatClampNeg) 12) (if leastNow_m = (-2) then (Mo_fillsLedger_L54_J149 v1 (leftNow_m (now_m (24 : Int32).toNatClampNeg : Int32).toNatClampNeg) (leftNow_m (now_m (24 : Int32).toNatClampNeg : Int32).toNatClampNeg) now_m goneFrom_m goneTo_m triedAt_m leftNow_m moveFrom_m moveTo_m takenFrom_m takenTo_m goneMany_m moveMany_m (waysNow_m + 1) leastNow_m mostNow_m) else (ob (Mo_min leastNow_m (leftNow_m (now_m (24 : Int32).toNatClampNeg : Int32).toNatClampNeg)) fun x3 =>
  Mo_fillsLedger_L54_J149 v1 (leftNow_m (now_m (24 : Int32).toNatClampNeg : Int32).toNatClampNeg) x3 now_m goneFrom_m goneTo_m triedAt_m leftNow_m moveFrom_m moveTo_m takenFrom_m takenTo_m goneMany_m moveMany_m (waysNow_m + 1) leastNow_m mostNow_m)))) else (Mo_fillsLedger_L54_J164 v1 now_m goneFrom_m goneTo_m triedAt_m leftNow_m moveFrom_m moveTo_m takenFrom_m takenTo_m goneMany_m moveMany_m waysNow_m leastNow_m mostNow_m)
noncomputable def Mo_fillsLedger_L54 (now_m : Nat → Int32) (goneFrom_m : Nat → Int32) (goneTo_m : Nat → Int32) (moveFrom_m : Nat → Int32) (moveTo_m : Nat → Int32) (goneMany_m : Int32) (moveMany_m : Int32) : (Int32 × (Nat → Int32) × (Nat → Int32) × (Nat → Int32) × (Nat → Int32) × Int32 × Int32 × Int32) → Option ((Int32 × (Nat → Int32) × (Nat → Int32) × (Nat → Int32) × (Nat → Int32) × Int32 × Int32 × Int32) ⊕ ((Nat → Int32) × (Nat → Int32) × (Nat → Int32) × (Nat → Int32) × Int32 × Int32 × Int32) ⊕ ((Nat → Int32) × (Nat → Int32) × (Nat → Int32) × (Nat → Int32) × Int32 × Int32 × Int32)) := fun s54 =>
  if s54.1 < 0 then (some (.inr (.inr (s54.2.1, s54.2.2.1, s54.2.2.2.1, s54.2.2.2.2.1, s54.2.2.2.2.2.1, s54.2.2.2.2.2.2.1, s54.2.2.2.2.2.2.2)))) else (if s54.1 < goneMany_m then (ob (Mo_goesLine goneFrom_m goneTo_m s54.2.1 s54.2.2.1 moveFrom_m moveTo_m s54.2.2.2.1 s54.2.2.2.2.1 moveMany_m s54.1) fun x1 =>
  if x1.1 = 0 then (Mo_fillsLedger_L54_J96 s54.1 now_m goneFrom_m goneTo_m x1.2.1 x1.2.2.1 moveFrom_m moveTo_m x1.2.2.2.1 x1.2.2.2.2 goneMany_m moveMany_m s54.2.2.2.2.2.1 s54.2.2.2.2.2.2.1 s54.2.2.2.2.2.2.2) else (if (s54.1 + 1) < goneMany_m then (gd (ix (s54.1 + 1) 10) (some (.inl (s54.1 + 1, upd x1.2.1 (s54.1 + 1 : Int32).toNatClampNeg 0, x1.2.2.1, x1.2.2.2.1, x1.2.2.2.2, s54.2.2.2.2.2.1, s54.2.2.2.2.2.2.1, s54.2.2.2.2.2.2.2)))) else (some (.inl (s54.1 + 1, x1.2.1, x1.2.2.1, x1.2.2.2.1, x1.2.2.2.2, s54.2.2.2.2.2.1, s54.2.2.2.2.2.2.1, s54.2.2.2.2.2.2.2))))) else (Mo_fillsLedger_L54_J96 s54.1 now_m goneFrom_m goneTo_m s54.2.1 s54.2.2.1 moveFrom_m moveTo_m s54.2.2.2.1 s54.2.2.2.2.1 goneMany_m moveMany_m s54.2.2.2.2.2.1 s54.2.2.2.2.2.2.1 s54.2.2.2.2.2.2.2))
noncomputable def Mo_fillsLedger (now_m : Nat → Int32) (goneFrom_m : Nat → Int32) (goneTo_m : Nat → Int32) (triedAt_m : Nat → Int32) (leftNow_m : Nat → Int32) (moveFrom_m : Nat → Int32) (moveTo_m : Nat → Int32) (takenFrom_m : Nat → Int32) (takenTo_m : Nat → Int32) (goneMany_m : Int32) (moveMany_m : Int32) (waysNow_m : Int32) (leastNow_m : Int32) (mostNow_m : Int32) : Option ((Nat → Int32) × (Nat → Int32) × (Nat → Int32) × (Nat → Int32) × Int32 × Int32 × Int32) :=
  ob (lp (Mo_fillsLedger_L19 now_m) (0, leftNow_m)) fun x1 =>
  gd (ix 0 10) (ob (lp (Mo_fillsLedger_L54 now_m goneFrom_m goneTo_m moveFrom_m moveTo_m goneMany_m moveMany_m) (0, upd triedAt_m (0 : Int32).toNatClampNeg 0, x1, takenFrom_m, takenTo_m, 0, (-2), (-2))) fun x3 =>
  sm x3 (fun x3 => some (x3.1, x3.2.1, x3.2.2.1, x3.2.2.2.1, x3.2.2.2.2.1, x3.2.2.2.2.2.1, x3.2.2.2.2.2.2)) (fun x3 => some (x3.1, x3.2.1, x3.2.2.1, x3.2.2.2.1, x3.2.2.2.2.1, x3.2.2.2.2.2.1, x3.2.2.2.2.2.2)))
noncomputable def Mo_ledger_L49_J85 (v2 : Int32) (k0 : Int32) (nextTo_m : Nat → Int32) (wells_m : Int32) (tape_m : Nat → Int32) (place0_m : Int32) (length0_m : Int32) (fault_m : Int32) (goneFrom_m : Nat → Int32) (goneTo_m : Nat → Int32) (goneMany_m : Int32) (lostMany_m : Int32) : Option ((Int32 × Int32 × Int32 × (Nat → Int32) × (Nat → Int32) × Int32 × Int32) ⊕ (Int32 × Int32 × Int32 × (Nat → Int32) × (Nat → Int32) × Int32 × Int32)) :=
  some (.inl (k0, place0_m, fault_m, goneFrom_m, goneTo_m, goneMany_m, lostMany_m))
noncomputable def Mo_ledger_L49_J84 (v2 : Int32) (nextTo_m : Nat → Int32) (wells_m : Int32) (tape_m : Nat → Int32) (place0_m : Int32) (length0_m : Int32) (fault_m : Int32) (goneFrom_m : Nat → Int32) (goneTo_m : Nat → Int32) (goneMany_m : Int32) (lostMany_m : Int32) : Option ((Int32 × Int32 × Int32 × (Nat → Int32) × (Nat → Int32) × Int32 × Int32) ⊕ (Int32 × Int32 × Int32 × (Nat → Int32) × (Nat → Int32) × Int32 × Int32)) :=
  Mo_ledger_L49_J85 v2 0 nextTo_m wells_m tape_m place0_m length0_m fault_m goneFrom_m goneTo_m goneMany_m lostMany_m
noncomputable def Mo_ledger_L49 (v2 : Int32) (nextTo_m : Nat → Int32) (wells_m : Int32) (tape_m : Nat → Int32) (length0_m : Int32) : (Int32 × Int32 × Int32 × (Nat → Int32) × (Nat → Int32) × Int32 × Int32) → Option ((Int32 × Int32 × Int32 × (Nat → Int32) × (Nat → Int32) × Int32 × Int32) ⊕ (Int32 × Int32 × Int32 × (Nat → Int32) × (Nat → Int32) × Int32 × Int32)) := fun s49 =>
  if s49.1 = 0 then (some (.inr (s49.1, s49.2.1, s49.2.2.1, s49.2.2.2.1, s49.2.2.2.2.1, s49.2.2.2.2.2.1, s49.2.2.2.2.2.2))) else (if s49.2.1 < length0_m then (ob (Mo_takes tape_m s49.2.1 length0_m s49.2.2.1 59) fun x1 =>
  if x1.1 = 0 then (Mo_ledger_L49_J84 v2 nextTo_m wells_m tape_m x1.2.1 length0_m x1.2.2 s49.2.2.2.1 s49.2.2.2.2.1 s49.2.2.2.2.2.1 s49.2.2.2.2.2.2) else (ob (Mo_readsMove nextTo_m wells_m tape_m x1.2.1 length0_m x1.2.2 s49.2.2.2.1 s49.2.2.2.2.1 s49.2.2.2.2.2.1 s49.2.2.2.2.2.2) fun x2 =>
  if x2.1 = 0 then (Mo_ledger_L49_J84 v2 nextTo_m wells_m tape_m x2.2.1 length0_m x2.2.2.1 x2.2.2.2.1 x2.2.2.2.2.1 x2.2.2.2.2.2.1 x2.2.2.2.2.2.2) else (Mo_ledger_L49_J85 v2 1 nextTo_m wells_m tape_m x2.2.1 length0_m x2.2.2.1 x2.2.2.2.1 x2.2.2.2.2.1 x2.2.2.2.2.2.1 x2.2.2.2.2.2.2))) else (some (.inr (s49.1, s49.2.1, s49.2.2.1, s49.2.2.2.1, s49.2.2.2.2.1, s49.2.2.2.2.2.1, s49.2.2.2.2.2.2))))
noncomputable def Mo_ledger_J89 (v2 : Int32) (v3 : Int32) (now_m : Nat → Int32) (nextTo_m : Nat → Int32) (wells_m : Int32) (tape_m : Nat → Int32) (taped_m : Int32) (place0_m : Int32) (length0_m : Int32) (fault_m : Int32) (codeMany_m : Int32) (saidMany_m : Int32) (goneFrom_m : Nat → Int32) (goneTo_m : Nat → Int32) (triedAt_m : Nat → Int32) (leftNow_m : Nat → Int32) (moveFrom_m : Nat → Int32) (moveTo_m : Nat → Int32) (takenFrom_m : Nat → Int32) (takenTo_m : Nat → Int32) (goneMany_m : Int32) (lostMany_m : Int32) (moveMany_m : Int32) (waysNow_m : Int32) (leastNow_m : Int32) (mostNow_m : Int32) : Option (Int32 × Int32 × Int32 × Int32 × Int32 × Int32 × Int32 × (Nat → Int32) × (Nat → Int32) × (Nat → Int32) × (Nat → Int32) × (Nat → Int32) × (Nat → Int32) × (Nat → Int32) × (Nat → Int32) × Int32 × Int32 × Int32 × Int32 × Int32 × Int32) :=
  if v3 = 0 then (some (fault_m, 0, place0_m, length0_m, fault_m, codeMany_m, saidMany_m, goneFrom_m, goneTo_m, triedAt_m, leftNow_m, moveFrom_m, moveTo_m, takenFrom_m, takenTo_m, goneMany_m, lostMany_m, moveMany_m, waysNow_m, leastNow_m, mostNow_m)) else (ob (Mo_listsMoves nextTo_m wells_m moveFrom_m moveTo_m moveMany_m) fun x1 =>
  ob (Mo_fillsLedger now_m goneFrom_m goneTo_m triedAt_m leftNow_m x1.1 x1.2.1 takenFrom_m takenTo_m goneMany_m x1.2.2 waysNow_m leastNow_m mostNow_m) fun x2 =>
  if v2 = 0 then (some (x2.2.2.2.2.1, 0, place0_m, length0_m, fault_m, codeMany_m, saidMany_m, goneFrom_m, goneTo_m, x2.1, x2.2.1, x1.1, x1.2.1, x2.2.2.1, x2.2.2.2.1, goneMany_m, lostMany_m, x1.2.2, x2.2.2.2.2.1, x2.2.2.2.2.2.1, x2.2.2.2.2.2.2)) else (if v2 = 1 then (some (x2.2.2.2.2.2.1, 0, place0_m, length0_m, fault_m, codeMany_m, saidMany_m, goneFrom_m, goneTo_m, x2.1, x2.2.1, x1.1, x1.2.1, x2.2.2.1, x2.2.2.2.1, goneMany_m, lostMany_m, x1.2.2, x2.2.2.2.2.1, x2.2.2.2.2.2.1, x2.2.2.2.2.2.2)) else (some (x2.2.2.2.2.2.2, 0, place0_m, length0_m, fault_m, codeMany_m, saidMany_m, goneFrom_m, goneTo_m, x2.1, x2.2.1, x1.1, x1.2.1, x2.2.2.1, x2.2.2.2.1, goneMany_m, lostMany_m, x1.2.2, x2.2.2.2.2.1, x2.2.2.2.2.2.1, x2.2.2.2.2.2.2))))
noncomputable def Mo_ledger (now_m : Nat → Int32) (nextTo_m : Nat → Int32) (wells_m : Int32) (tape_m : Nat → Int32) (taped_m : Int32) (place0_m : Int32) (length0_m : Int32) (fault_m : Int32) (codeMany_m : Int32) (saidMany_m : Int32) (goneFrom_m : Nat → Int32) (goneTo_m : Nat → Int32) (triedAt_m : Nat → Int32) (leftNow_m : Nat → Int32) (moveFrom_m : Nat → Int32) (moveTo_m : Nat → Int32) (takenFrom_m : Nat → Int32) (takenTo_m : Nat → Int32) (goneMany_m : Int32) (lostMany_m : Int32) (moveMany_m : Int32) (waysNow_m : Int32) (leastNow_m : Int32) (mostNow_m : Int32) (a1 : Int32) (a2 : Int32) : Option (Int32 × Int32 × Int32 × Int32 × Int32 × Int32 × Int32 × (Nat → Int32) × (Nat → Int32) × (Nat → Int32) × (Nat → Int32) × (Nat → Int32) × (Nat → Int32) × (Nat → Int32) × (Nat → Int32) × Int32 × Int32 × Int32 × Int32 × Int32 × Int32) :=
  ob (Mo_in a1 1 60) fun x1 =>
  if x1 = 0 then (some ((-1), taped_m, place0_m, length0_m, fault_m, codeMany_m, saidMany_m, goneFrom_m, goneTo_m, triedAt_m, leftNow_m, moveFrom_m, moveTo_m, takenFrom_m, takenTo_m, goneMany_m, lostMany_m, moveMany_m, waysNow_m, leastNow_m, mostNow_m)) else (ob (Mo_in a2 0 2) fun x2 =>
  if x2 = 0 then (some ((-1), taped_m, place0_m, length0_m, fault_m, codeMany_m, saidMany_m, goneFrom_m, goneTo_m, triedAt_m, leftNow_m, moveFrom_m, moveTo_m, takenFrom_m, takenTo_m, goneMany_m, lostMany_m, moveMany_m, waysNow_m, leastNow_m, mostNow_m)) else (if a1 ≤ taped_m then (ob (Mo_beginsText place0_m length0_m codeMany_m saidMany_m a1) fun x3 =>
  ob (Mo_readsMove nextTo_m wells_m tape_m x3.1 x3.2.1 fault_m goneFrom_m goneTo_m 0 0) fun x4 =>
  ob (lp (Mo_ledger_L49 a2 nextTo_m wells_m tape_m x3.2.1) (x4.1, x4.2.1, x4.2.2.1, x4.2.2.2.1, x4.2.2.2.2.1, x4.2.2.2.2.2.1, x4.2.2.2.2.2.2)) fun x5 =>
  Mo_ledger_J89 a2 x5.1 now_m nextTo_m wells_m tape_m taped_m x5.2.1 x3.2.1 x5.2.2.1 x3.2.2.1 x3.2.2.2 x5.2.2.2.1 x5.2.2.2.2.1 triedAt_m leftNow_m moveFrom_m moveTo_m takenFrom_m takenTo_m x5.2.2.2.2.2.1 x5.2.2.2.2.2.2 moveMany_m waysNow_m leastNow_m mostNow_m) else (some ((-1), taped_m, place0_m, length0_m, fault_m, codeMany_m, saidMany_m, goneFrom_m, goneTo_m, triedAt_m, leftNow_m, moveFrom_m, moveTo_m, takenFrom_m, takenTo_m, goneMany_m, lostMany_m, moveMany_m, waysNow_m, leastNow_m, mostNow_m))))
noncomputable def Mo_canLie_L2 (v1 : Int32) (v2 : Int32) (nextTo_m : Nat → Int32) (imageOf_m : Nat → Int32) : Int32 → Option ((Int32) ⊕ (Unit) ⊕ (Unit)) := fun s2 =>
  if s2 < v1 then (gd (ix s2 12) (if (imageOf_m (s2 : Int32).toNatClampNeg) = v2 then (some (.inr (.inl ()))) else (gd (ix s2 12) (ob (Mo_has (nextTo_m (s2 : Int32).toNatClampNeg) v1) fun x3 =>
  gd (ix s2 12) (gd (ix (imageOf_m (s2 : Int32).toNatClampNeg) 12) (ob (Mo_has (nextTo_m (imageOf_m (s2 : Int32).toNatClampNeg : Int32).toNatClampNeg) v2) fun x6 =>
  if x3 = x6 then (some (.inl (s2 + 1))) else (some (.inr (.inl ()))))))))) else (some (.inr (.inr ())))
noncomputable def Mo_canLie (nextTo_m : Nat → Int32) (imageOf_m : Nat → Int32) (a1 : Int32) (a2 : Int32) : Option (Int32) :=
  ob (lp (Mo_canLie_L2 a1 a2 nextTo_m imageOf_m) 0) fun x1 =>
  sm x1 (fun x1 => some 0) (fun x1 => some 1)
noncomputable def Mo_canBeLaid_L64 (v1 : Int32) (v2 : Int32) (v3 : Int32) (v4 : Int32) (nextTo_m : Nat → Int32) (wells_m : Int32) (imageOf_m : Nat → Int32) : Int32 → Option ((Int32) ⊕ (Int32)) := fun s64 =>
  if s64 < wells_m then (ob (Mo_canLie nextTo_m imageOf_m v4 s64) fun x1 =>
  if x1 = 0 then (some (.inl (s64 + 1))) else (some (.inr s64))) else (some (.inr s64))
noncomputable def Mo_canBeLaid_L10_J180 (v1 : Int32) (v2 : Int32) (v3 : Int32) (v4 : Int32) (nextTo_m : Nat → Int32) (wells_m : Int32) (imageOf_m : Nat → Int32) : Option ((Int32 × (Nat → Int32)) ⊕ (Int32 × (Nat → Int32))) :=
  some (.inl (v4, imageOf_m))
noncomputable def Mo_canBeLaid_L10_J132 (v1 : Int32) (v2 : Int32) (v3 : Int32) (v4 : Int32) (v5 : Int32) (k0 : Int32) (nextTo_m : Nat → Int32) (wells_m : Int32) (imageOf_m : Nat → Int32) : Option ((Int32 × (Nat → Int32)) ⊕ (Int32 × (Nat → Int32))) :=
  if k0 = 0 then (gd (ix v4 12) (if (v4 + 1) < wells_m then (gd (ix (v4 + 1) 12) (Mo_canBeLaid_L10_J180 v1 v2 v3 (v4 + 1) nextTo_m wells_m (upd (upd imageOf_m (v4 : Int32).toNatClampNeg v5) (v4 + 1 : Int32).toNatClampNeg (-1)))) else (Mo_canBeLaid_L10_J180 v1 v2 v3 (v4 + 1) nextTo_m wells_m (upd imageOf_m (v4 : Int32).toNatClampNeg v5)))) else (Mo_canBeLaid_L10_J180 v1 v2 v3 (v4 - 1) nextTo_m wells_m imageOf_m)
noncomputable def Mo_canBeLaid_L10_J127 (v1 : Int32) (v2 : Int32) (v3 : Int32) (v4 : Int32) (v5 : Int32) (nextTo_m : Nat → Int32) (wells_m : Int32) (imageOf_m : Nat → Int32) : Option ((Int32 × (Nat → Int32)) ⊕ (Int32 × (Nat → Int32))) :=
  Mo_canBeLaid_L10_J132 v1 v2 v3 v4 v5 1 nextTo_m wells_m imageOf_m
noncomputable def Mo_canBeLaid_L10_J131 (v1 : Int32) (v2 : Int32) (v3 : Int32) (v4 : Int32) (v5 : Int32) (nextTo_m : Nat → Int32) (wells_m : Int32) (imageOf_m : Nat → Int32) : Option ((Int32 × (Nat → Int32)) ⊕ (Int32 × (Nat → Int32))) :=
  Mo_canBeLaid_L10_J132 v1 v2 v3 v4 v5 0 nextTo_m wells_m imageOf_m
noncomputable def Mo_canBeLaid_L10_J115 (v1 : Int32) (v2 : Int32) (v3 : Int32) (v4 : Int32) (v5 : Int32) (nextTo_m : Nat → Int32) (wells_m : Int32) (imageOf_m : Nat → Int32) : Option ((Int32 × (Nat → Int32)) ⊕ (Int32 × (Nat → Int32))) :=
  if v4 = v2 then (if v5 ≤ v3 then (Mo_canBeLaid_L10_J131 v1 v2 v3 v4 v5 nextTo_m wells_m imageOf_m) else (Mo_canBeLaid_L10_J127 v1 v2 v3 v4 v5 nextTo_m wells_m imageOf_m)) else (Mo_canBeLaid_L10_J131 v1 v2 v3 v4 v5 nextTo_m wells_m imageOf_m)
noncomputable def Mo_canBeLaid_L10_J93 (v1 : Int32) (v2 : Int32) (v3 : Int32) (v4 : Int32) (v5 : Int32) (nextTo_m : Nat → Int32) (wells_m : Int32) (imageOf_m : Nat → Int32) : Option ((Int32 × (Nat → Int32)) ⊕ (Int32 × (Nat → Int32))) :=
  if v5 < wells_m then (if v4 < v1 then (if v5 ≤ v4 then (Mo_canBeLaid_L10_J115 v1 v2 v3 v4 v5 nextTo_m wells_m imageOf_m) else (Mo_canBeLaid_L10_J127 v1 v2 v3 v4 v5 nextTo_m wells_m imageOf_m)) else (Mo_canBeLaid_L10_J115 v1 v2 v3 v4 v5 nextTo_m wells_m imageOf_m)) else (Mo_canBeLaid_L10_J127 v1 v2 v3 v4 v5 nextTo_m wells_m imageOf_m)
noncomputable def Mo_canBeLaid_L10_J64 (v1 : Int32) (v2 : Int32) (v3 : Int32) (v4 : Int32) (v5 : Int32) (nextTo_m : Nat → Int32) (wells_m : Int32) (imageOf_m : Nat → Int32) : Option ((Int32 × (Nat → Int32)) ⊕ (Int32 × (Nat → Int32))) :=
  ob (lp (Mo_canBeLaid_L64 v1 v2 v3 v4 nextTo_m wells_m imageOf_m) v5) fun x1 =>
  Mo_canBeLaid_L10_J93 v1 v2 v3 v4 x1 nextTo_m wells_m imageOf_m
noncomputable def Mo_canBeLaid_L10_J50 (v1 : Int32) (v2 : Int32) (v3 : Int32) (v4 : Int32) (v5 : Int32) (nextTo_m : Nat → Int32) (wells_m : Int32) (imageOf_m : Nat → Int32) : Option ((Int32 × (Nat → Int32)) ⊕ (Int32 × (Nat → Int32))) :=
  if v4 = v2 then (ob (Mo_max v5 v3) fun x1 =>
  Mo_canBeLaid_L10_J64 v1 v2 v3 v4 x1 nextTo_m wells_m imageOf_m) else (Mo_canBeLaid_L10_J64 v1 v2 v3 v4 v5 nextTo_m wells_m imageOf_m)
noncomputable def Mo_canBeLaid_L10 (v1 : Int32) (v2 : Int32) (v3 : Int32) (nextTo_m : Nat → Int32) (wells_m : Int32) : (Int32 × (Nat → Int32)) → Option ((Int32 × (Nat → Int32)) ⊕ (Int32 × (Nat → Int32))) := fun s10 =>
  if s10.1 < 0 then (some (.inr (s10.1, s10.2))) else (if s10.1 < wells_m then (gd (ix s10.1 12) (if s10.1 < v1 then (ob (Mo_max ((s10.2 (s10.1 : Int32).toNatClampNeg) + 1) s10.1) fun x2 =>
  Mo_canBeLaid_L10_J50 v1 v2 v3 s10.1 x2 nextTo_m wells_m s10.2) else (Mo_canBeLaid_L10_J50 v1 v2 v3 s10.1 ((s10.2 (s10.1 : Int32).toNatClampNeg) + 1) nextTo_m wells_m s10.2))) else (some (.inr (s10.1, s10.2))))
noncomputable def Mo_canBeLaid_J183 (v4 : Int32) (nextTo_m : Nat → Int32) (wells_m : Int32) (imageOf_m : Nat → Int32) : Option (Int32 × (Nat → Int32)) :=
  if v4 = wells_m then (some (1, imageOf_m)) else (some (0, imageOf_m))
noncomputable def Mo_canBeLaid (nextTo_m : Nat → Int32) (wells_m : Int32) (imageOf_m : Nat → Int32) (a1 : Int32) (a2 : Int32) (a3 : Int32) : Option (Int32 × (Nat → Int32)) :=
  gd (ix 0 12) (ob (lp (Mo_canBeLaid_L10 a1 a2 a3 nextTo_m wells_m) (0, upd imageOf_m (0 : Int32).toNatClampNeg (-1))) fun x2 =>
  Mo_canBeLaid_J183 x2.1 nextTo_m wells_m x2.2)
noncomputable def Mo_symmetries_L26_J50 (v1 : Int32) (v2 : Int32) (v3 : Int32) (nextTo_m : Nat → Int32) (wells_m : Int32) (imageOf_m : Nat → Int32) : Option ((Int32 × Int32 × (Nat → Int32)) ⊕ (Int32 × (Nat → Int32))) :=
  some (.inl (v2, v3 + 1, imageOf_m))
noncomputable def Mo_symmetries_L26 (v1 : Int32) (nextTo_m : Nat → Int32) (wells_m : Int32) : (Int32 × Int32 × (Nat → Int32)) → Option ((Int32 × Int32 × (Nat → Int32)) ⊕ (Int32 × (Nat → Int32))) := fun s26 =>
  if s26.2.1 < wells_m then (ob (Mo_canBeLaid nextTo_m wells_m s26.2.2 0 v1 s26.2.1) fun x1 =>
  if x1.1 = 0 then (Mo_symmetries_L26_J50 v1 s26.1 s26.2.1 nextTo_m wells_m x1.2) else (Mo_symmetries_L26_J50 v1 (s26.1 ||| ((1 : Int32) <<< (s26.2.1 &&& 31))) s26.2.1 nextTo_m wells_m x1.2)) else (some (.inr (s26.1, s26.2.2)))
noncomputable def Mo_symmetries_L76_J102 (v2 : Int32) (v3 : Int32) (v4 : Int32) (v5 : Int32) (nextTo_m : Nat → Int32) (wells_m : Int32) (imageOf_m : Nat → Int32) : Option ((Int32 × Int32 × (Nat → Int32)) ⊕ (Int32 × (Nat → Int32))) :=
  some (.inl (v4, v5 + 1, imageOf_m))
noncomputable def Mo_symmetries_L76 (v2 : Int32) (v3 : Int32) (nextTo_m : Nat → Int32) (wells_m : Int32) : (Int32 × Int32 × (Nat → Int32)) → Option ((Int32 × Int32 × (Nat → Int32)) ⊕ (Int32 × (Nat → Int32))) := fun s76 =>
  if s76.2.1 < wells_m then (ob (Mo_canBeLaid nextTo_m wells_m s76.2.2 v3 v3 s76.2.1) fun x1 =>
  if x1.1 = 0 then (Mo_symmetries_L76_J102 v2 v3 s76.1 s76.2.1 nextTo_m wells_m x1.2) else (Mo_symmetries_L76_J102 v2 v3 (s76.1 + 1) s76.2.1 nextTo_m wells_m x1.2)) else (some (.inr (s76.1, s76.2.2)))
noncomputable def Mo_symmetries_L62 (nextTo_m : Nat → Int32) (wells_m : Int32) : (Int32 × Int32 × (Nat → Int32)) → Option ((Int32 × Int32 × (Nat → Int32)) ⊕ (Int32 × (Nat → Int32))) := fun s62 =>
  if s62.2.1 < wells_m then (ob (lp (Mo_symmetries_L76 s62.1 s62.2.1 nextTo_m wells_m) (0, s62.2.1, s62.2.2)) fun x1 =>
  some (.inl (s62.1 * x1.1, s62.2.1 + 1, x1.2))) else (some (.inr (s62.1, s62.2.2)))
noncomputable def Mo_symmetries_J16 (v1 : Int32) (nextTo_m : Nat → Int32) (wells_m : Int32) (imageOf_m : Nat → Int32) : Option (Int32 × (Nat → Int32)) :=
  if v1 = 100 then (ob (lp (Mo_symmetries_L62 nextTo_m wells_m) (1, 0, imageOf_m)) fun x1 =>
  some (x1.1, x1.2)) else (ob (lp (Mo_symmetries_L26 v1 nextTo_m wells_m) (0, 0, imageOf_m)) fun x2 =>
  some (x2.1, x2.2))
noncomputable def Mo_symmetries (nextTo_m : Nat → Int32) (wells_m : Int32) (imageOf_m : Nat → Int32) (a1 : Int32) : Option (Int32 × (Nat → Int32)) :=
  if a1 = 100 then (Mo_symmetries_J16 a1 nextTo_m wells_m imageOf_m) else (ob (Mo_isWell wells_m a1) fun x1 =>
  if x1 = 0 then (some ((-1), imageOf_m)) else (Mo_symmetries_J16 a1 nextTo_m wells_m imageOf_m))
noncomputable def Mo_seed (now_m : Nat → Int32) (a1 : Int32) : Option (Int32 × (Nat → Int32)) :=
  ob (Mo_in a1 0 65535) fun x1 =>
  if x1 = 0 then (some (0, now_m)) else (gd (ix 26 27) (some (1, upd now_m (26 : Int32).toNatClampNeg a1)))
noncomputable def Mo_keep (now_m : Nat → Int32) (kept_m : Nat → Int32) (isKept_m : Int32) : Option (Int32 × (Nat → Int32) × Int32) :=
  ob (Mo_copies now_m kept_m) fun x1 =>
  gd (ix 25 27) (some (now_m (25 : Int32).toNatClampNeg, x1, 1))
noncomputable def Mo_undo_L25  : (Int32 × (Nat → Int32)) → Option ((Int32 × (Nat → Int32)) ⊕ (Nat → Int32)) := fun s25 =>
  if s25.1 < 12 then (gd (ix (0 + s25.1) 27) (some (.inl (s25.1 + 1, upd s25.2 (0 + s25.1 : Int32).toNatClampNeg 0)))) else (some (.inr s25.2))
noncomputable def Mo_undo (now_m : Nat → Int32) (kept_m : Nat → Int32) (wells_m : Int32) (isKept_m : Int32) : Option (Int32 × (Nat → Int32)) :=
  if isKept_m = 0 then (some (0, now_m)) else (ob (Mo_copies kept_m now_m) fun x1 =>
  ob (lp (Mo_undo_L25 ) (wells_m, x1)) fun x2 =>
  gd (ix 24 27) (ob (Mo_isWell wells_m (x2 (24 : Int32).toNatClampNeg)) fun x4 =>
  if x4 = 0 then (gd (ix 24 27) (some (1, upd x2 (24 : Int32).toNatClampNeg 0))) else (some (1, x2))))
noncomputable def Mo_check_L28_J60 (v1 : Int32) (v2 : Int32) (k0 : Int32) (k1 : Int32) (now_m : Nat → Int32) (wells_m : Int32) (tape_m : Nat → Int32) : Option ((Int32) ⊕ (Int32) ⊕ (Unit)) :=
  if k1 = k0 then (some (.inl (v2 + 1))) else (some (.inr (.inl v2)))
noncomputable def Mo_check_L28 (v1 : Int32) (now_m : Nat → Int32) (wells_m : Int32) (tape_m : Nat → Int32) : Int32 → Option ((Int32) ⊕ (Int32) ⊕ (Unit)) := fun s28 =>
  if s28 < v1 then (ob (Mo_octet tape_m s28) fun x1 =>
  ob (Mo_isWell wells_m s28) fun x2 =>
  if x2 = 0 then (Mo_check_L28_J60 v1 s28 255 x1 now_m wells_m tape_m) else (gd (ix (0 + s28) 27) (Mo_check_L28_J60 v1 s28 (now_m (0 + s28 : Int32).toNatClampNeg) x1 now_m wells_m tape_m))) else (some (.inr (.inr ())))
noncomputable def Mo_check_J18 (now_m : Nat → Int32) (wells_m : Int32) (tape_m : Nat → Int32) (taped_m : Int32) : Option (Int32 × Int32) :=
  some ((-2), taped_m)
noncomputable def Mo_check (now_m : Nat → Int32) (wells_m : Int32) (tape_m : Nat → Int32) (taped_m : Int32) (a1 : Int32) : Option (Int32 × Int32) :=
  ob (Mo_in a1 0 12) fun x1 =>
  if x1 = 0 then (Mo_check_J18 now_m wells_m tape_m taped_m) else (if a1 ≤ taped_m then (ob (lp (Mo_check_L28 a1 now_m wells_m tape_m) 0) fun x2 =>
  sm x2 (fun x2 => some (x2, 0)) (fun x2 => some ((-1), 0))) else (Mo_check_J18 now_m wells_m tape_m taped_m))
/-! the reference, 6 -/
noncomputable def Mo_stages_L4 (nextTo_m : Nat → Int32) (wells_m : Int32) : (Int32 × Int32) → Option ((Int32 × Int32) ⊕ (Int32)) := fun s4 =>
  if s4.2 < wells_m then (gd (ix s4.2 12) (ob (Mo_bits (nextTo_m (s4.2 : Int32).toNatClampNeg)) fun x2 =>
  some (.inl (s4.1 + x2, s4.2 + 1)))) else (some (.inr s4.1))
noncomputable def Mo_stages (nextTo_m : Nat → Int32) (wells_m : Int32) : Option (Int32) :=
  ob (lp (Mo_stages_L4 nextTo_m wells_m) (0, 0)) fun x1 =>
  some (x1 / 2)
noncomputable def Mo_count (now_m : Nat → Int32) (nextTo_m : Nat → Int32) (wells_m : Int32) (farOf_m : Nat → Int32) (line_m : Nat → Int32) (taped_m : Int32) (clauses_m : Int32) (a1 : Int32) : Option (Int32 × (Nat → Int32) × (Nat → Int32)) :=
  if a1 = 0 then (gd (ix 25 27) (some (now_m (25 : Int32).toNatClampNeg, farOf_m, line_m))) else (if a1 = 1 then (some (wells_m, farOf_m, line_m)) else (if a1 = 2 then (ob (Mo_stages nextTo_m wells_m) fun x5 =>
  some (x5, farOf_m, line_m)) else (if a1 = 3 then (ob (Mo_jarsOfAll now_m wells_m) fun x7 =>
  some (x7, farOf_m, line_m)) else (if a1 = 4 then (gd (ix 24 27) (some (now_m (24 : Int32).toNatClampNeg, farOf_m, line_m))) else (if a1 = 5 then (some (clauses_m, farOf_m, line_m)) else (if a1 = 6 then (some (taped_m, farOf_m, line_m)) else (if a1 = 7 then (gd (ix 26 27) (some (now_m (26 : Int32).toNatClampNeg, farOf_m, line_m))) else (if a1 = 8 then (ob (Mo_mostSteps nextTo_m wells_m farOf_m line_m) fun x15 =>
  some (x15.1, x15.2.1, x15.2.2)) else (some ((-1), farOf_m, line_m))))))))))
