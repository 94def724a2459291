/-! THE METHODS AS PARTIAL FUNCTIONS (printed by wip/gen, out of the bytecode) -/
/-! Tape -/
noncomputable def Tape_append_L3_J45 (v1 : Int32) (v2 : Int32) (bytes_t : Nat → Int32) (length_t : Int32) : Option ((Int32 × (Nat → Int32) × Int32) ⊕ ((Nat → Int32) × Int32)) :=
  some (.inl (v2 + (-8), bytes_t, length_t))
noncomputable def Tape_append_L3 (v1 : Int32) : (Int32 × (Nat → Int32) × Int32) → Option ((Int32 × (Nat → Int32) × Int32) ⊕ ((Nat → Int32) × Int32)) := fun s3 =>
  if s3.1 < 0 then (some (.inr (s3.2.1, s3.2.2))) else (if s3.2.2 < 260 then (gd (ix s3.2.2 260) (Tape_append_L3_J45 v1 s3.1 (upd s3.2.1 (s3.2.2 : Int32).toNatClampNeg ((juS v1 s3.1) &&& 255)) (s3.2.2 + 1))) else (Tape_append_L3_J45 v1 s3.1 s3.2.1 s3.2.2))
noncomputable def Tape_append (bytes_t : Nat → Int32) (length_t : Int32) (a1 : Int32) : Option ((Nat → Int32) × Int32) :=
  ob (lp (Tape_append_L3 a1) (24, bytes_t, length_t)) fun x1 =>
  some (x1.1, x1.2)
noncomputable def Tape_holds_J22 (length_t : Int32) : Option (Int32) :=
  some 0
noncomputable def Tape_holds (length_t : Int32) (a1 : Int32) (a2 : Int32) (a3 : Int32) : Option (Int32) :=
  if a1 < a2 then (Tape_holds_J22 length_t) else (if a1 ≤ a3 then (if a1 ≤ length_t then (some 1) else (Tape_holds_J22 length_t)) else (Tape_holds_J22 length_t))
noncomputable def Tape_begin (length_t : Int32) (end_t : Int32) (at_t : Int32) (fault_t : Int32) (a1 : Int32) : Option (Int32 × Int32 × Int32 × Int32) :=
  some (0, a1, 0, 0)
noncomputable def Tape_byteAt_J30 (bytes_t : Nat → Int32) (end_t : Int32) : Option (Int32) :=
  some (-1)
noncomputable def Tape_byteAt (bytes_t : Nat → Int32) (end_t : Int32) (a1 : Int32) : Option (Int32) :=
  if a1 < 0 then (Tape_byteAt_J30 bytes_t end_t) else (if a1 < end_t then (if a1 < 260 then (gd (ix a1 260) (some (bytes_t (a1 : Int32).toNatClampNeg))) else (Tape_byteAt_J30 bytes_t end_t)) else (Tape_byteAt_J30 bytes_t end_t))
noncomputable def Tape_peek_J35 (bytes_t : Nat → Int32) (end_t : Int32) (at_t : Int32) : Option (Int32) :=
  some (-1)
noncomputable def Tape_peek (bytes_t : Nat → Int32) (end_t : Int32) (at_t : Int32) : Option (Int32) :=
  if at_t < end_t then (if at_t < 260 then (gd (ix at_t 260) (some (bytes_t (at_t : Int32).toNatClampNeg))) else (Tape_peek_J35 bytes_t end_t at_t)) else (Tape_peek_J35 bytes_t end_t at_t)
noncomputable def Tape_atEnd (end_t : Int32) (at_t : Int32) : Option (Int32) :=
  if at_t < end_t then (some 0) else (some 1)
noncomputable def Tape_skip (at_t : Int32) : Option (Int32) :=
  some (at_t + 1)
noncomputable def Tape_fail (end_t : Int32) (fault_t : Int32) (a1 : Int32) (a2 : Int32) : Option (Int32 × Int32) :=
  if fault_t = 0 then (some (0, ((-1000) * a1) - a2)) else (some (end_t, fault_t))
noncomputable def Tape_take (bytes_t : Nat → Int32) (end_t : Int32) (at_t : Int32) (fault_t : Int32) (a1 : Int32) : Option (Int32 × Int32 × Int32 × Int32) :=
  ob (Tape_peek bytes_t end_t at_t) fun x1 =>
  if x1 = a1 then (some (1, end_t, at_t + 1, fault_t)) else (ob (Tape_fail end_t fault_t 1 at_t) fun x2 =>
  some (0, x2.1, at_t, x2.2))
noncomputable def Tape_letter_J18 (bytes_t : Nat → Int32) (end_t : Int32) (at_t : Int32) (fault_t : Int32) : Option (Int32 × Int32 × Int32 × Int32) :=
  ob (Tape_fail end_t fault_t 1 at_t) fun x1 =>
  some ((-1), x1.1, at_t, x1.2)
noncomputable def Tape_letter (bytes_t : Nat → Int32) (end_t : Int32) (at_t : Int32) (fault_t : Int32) : Option (Int32 × Int32 × Int32 × Int32) :=
  ob (Tape_peek bytes_t end_t at_t) fun x1 =>
  if (x1 - 97) < 0 then (Tape_letter_J18 bytes_t end_t at_t fault_t) else (if (x1 - 97) < 12 then (some (x1 - 97, end_t, at_t + 1, fault_t)) else (Tape_letter_J18 bytes_t end_t at_t fault_t))
noncomputable def Tape_isDigit_J16  : Option (Int32) :=
  some 0
noncomputable def Tape_isDigit (a0 : Int32) : Option (Int32) :=
  if a0 < 48 then (Tape_isDigit_J16 ) else (if a0 ≤ 57 then (some 1) else (Tape_isDigit_J16 ))
noncomputable def Tape_digits_L10 (v1 : Int32) (v3 : Int32) (bytes_t : Nat → Int32) (end_t : Int32) : (Int32 × Int32 × Int32) → Option ((Int32 × Int32 × Int32) ⊕ (Int32 × Int32)) := fun s10 =>
  if s10.2.1 < v1 then (ob (Tape_peek bytes_t end_t s10.2.2) fun x1 =>
  ob (Tape_isDigit x1) fun x2 =>
  if x2 = 0 then (some (.inr (s10.1, s10.2.2))) else (ob (Tape_peek bytes_t end_t s10.2.2) fun x3 =>
  some (.inl (((s10.1 * 10) + x3) - 48, s10.2.1 + 1, s10.2.2 + 1)))) else (some (.inr (s10.1, s10.2.2)))
noncomputable def Tape_digits_J55 (v2 : Int32) (v3 : Int32) (bytes_t : Nat → Int32) (end_t : Int32) (at_t : Int32) (fault_t : Int32) : Option (Int32 × Int32 × Int32 × Int32) :=
  if at_t = v3 then (ob (Tape_fail end_t fault_t 1 at_t) fun x1 =>
  some (v2, x1.1, at_t, x1.2)) else (ob (Tape_peek bytes_t end_t at_t) fun x2 =>
  ob (Tape_isDigit x2) fun x3 =>
  if x3 = 0 then (some (v2, end_t, at_t, fault_t)) else (ob (Tape_fail end_t fault_t 2 at_t) fun x4 =>
  some (v2, x4.1, at_t, x4.2)))
noncomputable def Tape_digits (bytes_t : Nat → Int32) (end_t : Int32) (at_t : Int32) (fault_t : Int32) (a1 : Int32) : Option (Int32 × Int32 × Int32 × Int32) :=
  ob (lp (Tape_digits_L10 a1 at_t bytes_t end_t) (0, 0, at_t)) fun x1 =>
  Tape_digits_J55 x1.1 at_t bytes_t end_t x1.2 fault_t
/-! what the JDK does -/
noncomputable def Arrays_fill_L5 (v1 : Int32) (v3 : Int32) (n_a : Nat) : (Int32 × (Nat → Int32)) → Option ((Int32 × (Nat → Int32)) ⊕ (Nat → Int32)) := fun s5 =>
  if s5.1 < v3 then (gd (ix s5.1 n_a) (some (.inl (s5.1 + 1, upd s5.2 (s5.1 : Int32).toNatClampNeg v1)))) else (some (.inr s5.2))
noncomputable def Arrays_fill (n_a : Nat) (f_a : Nat → Int32) (a1 : Int32) : Option (Nat → Int32) :=
  ob (lp (Arrays_fill_L5 a1 (Int32.ofNat n_a) n_a) (0, f_a)) fun x1 =>
  some x1
noncomputable def Arrays_rangeCheck (a0 : Int32) (a1 : Int32) (a2 : Int32) : Option (Unit) :=
  if a1 ≤ a2 then (if a1 < 0 then (none) else (if a2 ≤ a0 then (some ()) else (none))) else (none)
noncomputable def Arrays_fill3_L10 (v2 : Int32) (v3 : Int32) (n_a : Nat) : (Int32 × (Nat → Int32)) → Option ((Int32 × (Nat → Int32)) ⊕ (Nat → Int32)) := fun s10 =>
  if s10.1 < v2 then (gd (ix s10.1 n_a) (some (.inl (s10.1 + 1, upd s10.2 (s10.1 : Int32).toNatClampNeg v3)))) else (some (.inr s10.2))
noncomputable def Arrays_fill3 (n_a : Nat) (f_a : Nat → Int32) (a1 : Int32) (a2 : Int32) (a3 : Int32) : Option (Nat → Int32) :=
  ob (Arrays_rangeCheck (Int32.ofNat n_a) a1 a2) fun x1 =>
  ob (lp (Arrays_fill3_L10 a2 a3 n_a) (a1, f_a)) fun x2 =>
  some x2
noncomputable def Integer_bitCount (a0 : Int32) : Option (Int32) :=
  some ((((((((a0 - ((juS a0 1) &&& 1431655765)) &&& 858993459) + ((juS (a0 - ((juS a0 1) &&& 1431655765)) 2) &&& 858993459)) + (juS (((a0 - ((juS a0 1) &&& 1431655765)) &&& 858993459) + ((juS (a0 - ((juS a0 1) &&& 1431655765)) 2) &&& 858993459)) 4)) &&& 252645135) + (juS (((((a0 - ((juS a0 1) &&& 1431655765)) &&& 858993459) + ((juS (a0 - ((juS a0 1) &&& 1431655765)) 2) &&& 858993459)) + (juS (((a0 - ((juS a0 1) &&& 1431655765)) &&& 858993459) + ((juS (a0 - ((juS a0 1) &&& 1431655765)) 2) &&& 858993459)) 4)) &&& 252645135) 8)) + (juS ((((((a0 - ((juS a0 1) &&& 1431655765)) &&& 858993459) + ((juS (a0 - ((juS a0 1) &&& 1431655765)) 2) &&& 858993459)) + (juS (((a0 - ((juS a0 1) &&& 1431655765)) &&& 858993459) + ((juS (a0 - ((juS a0 1) &&& 1431655765)) 2) &&& 858993459)) 4)) &&& 252645135) + (juS (((((a0 - ((juS a0 1) &&& 1431655765)) &&& 858993459) + ((juS (a0 - ((juS a0 1) &&& 1431655765)) 2) &&& 858993459)) + (juS (((a0 - ((juS a0 1) &&& 1431655765)) &&& 858993459) + ((juS (a0 - ((juS a0 1) &&& 1431655765)) 2) &&& 858993459)) 4)) &&& 252645135) 8)) 16)) &&& 63)
/-! Land -/
noncomputable def Land_has_J16 (wells_l : Int32) : Option (Int32) :=
  some 0
noncomputable def Land_has (wells_l : Int32) (a1 : Int32) : Option (Int32) :=
  if a1 < 0 then (Land_has_J16 wells_l) else (if a1 < wells_l then (some 1) else (Land_has_J16 wells_l))
noncomputable def Land_areNext_J33 (wells_l : Int32) (next_l : Nat → Int32) : Option (Int32) :=
  some 0
noncomputable def Land_areNext (wells_l : Int32) (next_l : Nat → Int32) (a1 : Int32) (a2 : Int32) : Option (Int32) :=
  ob (Land_has wells_l a1) fun x1 =>
  if x1 = 0 then (Land_areNext_J33 wells_l next_l) else (ob (Land_has wells_l a2) fun x2 =>
  if x2 = 0 then (Land_areNext_J33 wells_l next_l) else (gd (ix a1 12) (if (((next_l (a1 : Int32).toNatClampNeg) >>> (a2 &&& 31)) &&& 1) = 0 then (Land_areNext_J33 wells_l next_l) else (some 1))))
noncomputable def Land_way_J30 (wells_l : Int32) (ways_l : Nat → Int32) : Option (Int32) :=
  some (-2)
noncomputable def Land_way (wells_l : Int32) (ways_l : Nat → Int32) (a1 : Int32) (a2 : Int32) : Option (Int32) :=
  ob (Land_has wells_l a1) fun x1 =>
  if x1 = 0 then (Land_way_J30 wells_l ways_l) else (ob (Land_has wells_l a2) fun x2 =>
  if x2 = 0 then (Land_way_J30 wells_l ways_l) else (gd (ix ((a1 * 12) + a2) 144) (some (ways_l ((a1 * 12) + a2 : Int32).toNatClampNeg))))
noncomputable def Land_bare (wells_l : Int32) (next_l : Nat → Int32) (a1 : Int32) : Option (Int32 × (Nat → Int32)) :=
  ob (Arrays_fill 12 next_l 0) fun x1 =>
  some (jmax 0 (jmin a1 12), x1)
noncomputable def Land_become (wells_l : Int32) (next_l : Nat → Int32) (wells_o : Int32) (next_o : Nat → Int32) : Option (Int32 × (Nat → Int32)) :=
  gd (cpOk 0 0 12 12 12) (some (wells_o, va_cpy next_o next_l (0 : Int32).toNatClampNeg (0 : Int32).toNatClampNeg (12 : Int32).toNatClampNeg))
noncomputable def Land_join (wells_l : Int32) (next_l : Nat → Int32) (a1 : Int32) (a2 : Int32) : Option (Nat → Int32) :=
  ob (Land_has wells_l a1) fun x1 =>
  if x1 = 0 then (some next_l) else (ob (Land_has wells_l a2) fun x2 =>
  if x2 = 0 then (some next_l) else (if a1 = a2 then (some next_l) else (gd (ix a1 12) (gd (ix a1 12) (gd (ix a2 12) (gd (ix a2 12) (some (upd (upd next_l (a1 : Int32).toNatClampNeg ((next_l (a1 : Int32).toNatClampNeg) ||| ((1 : Int32) <<< (a2 &&& 31)))) (a2 : Int32).toNatClampNeg (((upd next_l (a1 : Int32).toNatClampNeg ((next_l (a1 : Int32).toNatClampNeg) ||| ((1 : Int32) <<< (a2 &&& 31)))) (a2 : Int32).toNatClampNeg) ||| ((1 : Int32) <<< (a1 &&& 31)))))))))))
noncomputable def Land_part (wells_l : Int32) (next_l : Nat → Int32) (a1 : Int32) (a2 : Int32) : Option (Nat → Int32) :=
  ob (Land_has wells_l a1) fun x1 =>
  if x1 = 0 then (some next_l) else (ob (Land_has wells_l a2) fun x2 =>
  if x2 = 0 then (some next_l) else (gd (ix a1 12) (gd (ix a1 12) (gd (ix a2 12) (gd (ix a2 12) (some (upd (upd next_l (a1 : Int32).toNatClampNeg ((next_l (a1 : Int32).toNatClampNeg) &&& (((1 : Int32) <<< (a2 &&& 31)) ^^^ (-1)))) (a2 : Int32).toNatClampNeg (((upd next_l (a1 : Int32).toNatClampNeg ((next_l (a1 : Int32).toNatClampNeg) &&& (((1 : Int32) <<< (a2 &&& 31)) ^^^ (-1)))) (a2 : Int32).toNatClampNeg) &&& (((1 : Int32) <<< (a1 &&& 31)) ^^^ (-1))))))))))
noncomputable def Land_becomeShape_L41 (v1 : Int32) (v3 : Int32) (wells_l : Int32) : (Int32 × (Nat → Int32)) → Option ((Int32 × (Nat → Int32)) ⊕ (Nat → Int32)) := fun s41 =>
  if v1 = 75 then (if s41.1 < v3 then (ob (Land_join wells_l s41.2 s41.1 v3) fun x1 =>
  some (.inl (s41.1 + 1, x1))) else (some (.inr s41.2))) else (some (.inr s41.2))
noncomputable def Land_becomeShape_L7_J66 (v1 : Int32) (v3 : Int32) (wells_l : Int32) (next_l : Nat → Int32) : Option ((Int32 × (Nat → Int32)) ⊕ (Nat → Int32)) :=
  some (.inl (v3 + 1, next_l))
noncomputable def Land_becomeShape_L7_J38 (v1 : Int32) (v3 : Int32) (wells_l : Int32) (next_l : Nat → Int32) : Option ((Int32 × (Nat → Int32)) ⊕ (Nat → Int32)) :=
  ob (lp (Land_becomeShape_L41 v1 v3 wells_l) (0, next_l)) fun x1 =>
  Land_becomeShape_L7_J66 v1 v3 wells_l x1
noncomputable def Land_becomeShape_L7 (v1 : Int32) (wells_l : Int32) : (Int32 × (Nat → Int32)) → Option ((Int32 × (Nat → Int32)) ⊕ (Nat → Int32)) := fun s7 =>
  if s7.1 < wells_l then (if v1 = 83 then (ob (Land_join wells_l s7.2 0 s7.1) fun x1 =>
  Land_becomeShape_L7_J38 v1 s7.1 wells_l x1) else (ob (Land_join wells_l s7.2 (s7.1 - 1) s7.1) fun x2 =>
  Land_becomeShape_L7_J38 v1 s7.1 wells_l x2)) else (some (.inr s7.2))
noncomputable def Land_becomeShape (wells_l : Int32) (next_l : Nat → Int32) (a1 : Int32) (a2 : Int32) : Option (Int32 × (Nat → Int32)) :=
  ob (Land_bare wells_l next_l a2) fun x1 =>
  ob (lp (Land_becomeShape_L7 a1 x1.1) (1, x1.2)) fun x2 =>
  if a1 = 82 then (ob (Land_join x1.1 x2 (x1.1 - 1) 0) fun x3 =>
  some (x1.1, x3)) else (some (x1.1, x2))
noncomputable def Land_joinInProduct_L14_J46 (v3 : Int32) (v4 : Int32) (v5 : Int32) (v6 : Int32) (wells_l : Int32) (next_l : Nat → Int32) (wells_a : Int32) (next_a : Nat → Int32) (wells_b : Int32) : Option ((Int32 × (Nat → Int32)) ⊕ (Nat → Int32)) :=
  some (.inl (v6 + 1, next_l))
noncomputable def Land_joinInProduct_L14 (v3 : Int32) (v4 : Int32) (v5 : Int32) (wells_l : Int32) (wells_a : Int32) (next_a : Nat → Int32) (wells_b : Int32) : (Int32 × (Nat → Int32)) → Option ((Int32 × (Nat → Int32)) ⊕ (Nat → Int32)) := fun s14 =>
  if s14.1 < v3 then (ob (Land_areNext wells_a next_a v3 s14.1) fun x1 =>
  if x1 = 0 then (Land_joinInProduct_L14_J46 v3 v4 v5 s14.1 wells_l s14.2 wells_a next_a wells_b) else (ob (Land_join wells_l s14.2 v5 ((s14.1 * wells_b) + v4)) fun x2 =>
  Land_joinInProduct_L14_J46 v3 v4 v5 s14.1 wells_l x2 wells_a next_a wells_b)) else (some (.inr s14.2))
noncomputable def Land_joinInProduct_L55_J88 (v3 : Int32) (v4 : Int32) (v5 : Int32) (v6 : Int32) (wells_l : Int32) (next_l : Nat → Int32) (wells_b : Int32) (next_b : Nat → Int32) : Option ((Int32 × (Nat → Int32)) ⊕ (Nat → Int32)) :=
  some (.inl (v6 + 1, next_l))
noncomputable def Land_joinInProduct_L55 (v3 : Int32) (v4 : Int32) (v5 : Int32) (wells_l : Int32) (wells_b : Int32) (next_b : Nat → Int32) : (Int32 × (Nat → Int32)) → Option ((Int32 × (Nat → Int32)) ⊕ (Nat → Int32)) := fun s55 =>
  if s55.1 < v4 then (ob (Land_areNext wells_b next_b v4 s55.1) fun x1 =>
  if x1 = 0 then (Land_joinInProduct_L55_J88 v3 v4 v5 s55.1 wells_l s55.2 wells_b next_b) else (ob (Land_join wells_l s55.2 v5 ((v3 * wells_b) + s55.1)) fun x2 =>
  Land_joinInProduct_L55_J88 v3 v4 v5 s55.1 wells_l x2 wells_b next_b)) else (some (.inr s55.2))
noncomputable def Land_joinInProduct (wells_l : Int32) (next_l : Nat → Int32) (wells_a : Int32) (next_a : Nat → Int32) (wells_b : Int32) (next_b : Nat → Int32) (a3 : Int32) (a4 : Int32) : Option (Nat → Int32) :=
  ob (lp (Land_joinInProduct_L14 a3 a4 ((a3 * wells_b) + a4) wells_l wells_a next_a wells_b) (0, next_l)) fun x1 =>
  ob (lp (Land_joinInProduct_L55 a3 a4 ((a3 * wells_b) + a4) wells_l wells_b next_b) (0, x1)) fun x2 =>
  some x2
noncomputable def Land_becomeProduct_L26 (v3 : Int32) (wells_l : Int32) (wells_a : Int32) (next_a : Nat → Int32) (wells_b : Int32) (next_b : Nat → Int32) : (Int32 × (Nat → Int32)) → Option ((Int32 × (Nat → Int32)) ⊕ (Nat → Int32)) := fun s26 =>
  if s26.1 < wells_b then (ob (Land_joinInProduct wells_l s26.2 wells_a next_a wells_b next_b v3 s26.1) fun x1 =>
  some (.inl (s26.1 + 1, x1))) else (some (.inr s26.2))
noncomputable def Land_becomeProduct_L15 (wells_l : Int32) (wells_a : Int32) (next_a : Nat → Int32) (wells_b : Int32) (next_b : Nat → Int32) : (Int32 × (Nat → Int32)) → Option ((Int32 × (Nat → Int32)) ⊕ (Nat → Int32)) := fun s15 =>
  if s15.1 < wells_a then (ob (lp (Land_becomeProduct_L26 s15.1 wells_l wells_a next_a wells_b next_b) (0, s15.2)) fun x1 =>
  some (.inl (s15.1 + 1, x1))) else (some (.inr s15.2))
noncomputable def Land_becomeProduct (wells_l : Int32) (next_l : Nat → Int32) (wells_a : Int32) (next_a : Nat → Int32) (wells_b : Int32) (next_b : Nat → Int32) : Option (Int32 × (Nat → Int32)) :=
  ob (Land_bare wells_l next_l (wells_a * wells_b)) fun x1 =>
  ob (lp (Land_becomeProduct_L15 x1.1 wells_a next_a wells_b next_b) (0, x1.2)) fun x2 =>
  some (x1.1, x2)
noncomputable def Land_measureFrom_L28_J72 (v1 : Int32) (v2 : Int32) (v3 : Int32) (v4 : Int32) (v5 : Int32) (v6 : Int32) (wells_l : Int32) (next_l : Nat → Int32) (ways_l : Nat → Int32) : Option ((Int32 × Int32 × (Nat → Int32)) ⊕ (Int32 × (Nat → Int32))) :=
  some (.inl (v5, v6 + 1, ways_l))
noncomputable def Land_measureFrom_L28 (v1 : Int32) (v2 : Int32) (v3 : Int32) (v4 : Int32) (wells_l : Int32) (next_l : Nat → Int32) : (Int32 × Int32 × (Nat → Int32)) → Option ((Int32 × Int32 × (Nat → Int32)) ⊕ (Int32 × (Nat → Int32))) := fun s28 =>
  if s28.2.1 < wells_l then (if ((v3 >>> (s28.2.1 &&& 31)) &&& 1) = 0 then (Land_measureFrom_L28_J72 v1 v2 v3 v4 s28.1 s28.2.1 wells_l next_l s28.2.2) else (gd (ix ((v1 * 12) + s28.2.1) 144) (gd (ix s28.2.1 12) (Land_measureFrom_L28_J72 v1 v2 v3 v4 (s28.1 ||| (next_l (s28.2.1 : Int32).toNatClampNeg)) s28.2.1 wells_l next_l (upd s28.2.2 ((v1 * 12) + s28.2.1 : Int32).toNatClampNeg v4))))) else (some (.inr (s28.1, s28.2.2)))
noncomputable def Land_measureFrom_L9 (v1 : Int32) (wells_l : Int32) (next_l : Nat → Int32) : (Int32 × Int32 × Int32 × (Nat → Int32)) → Option ((Int32 × Int32 × Int32 × (Nat → Int32)) ⊕ (Nat → Int32)) := fun s9 =>
  if s9.2.2.1 < wells_l then (if s9.2.1 = 0 then (some (.inr s9.2.2.2)) else (ob (lp (Land_measureFrom_L28 v1 s9.1 s9.2.1 s9.2.2.1 wells_l next_l) (0, 0, s9.2.2.2)) fun x1 =>
  some (.inl (s9.1 ||| (x1.1 &&& (s9.1 ^^^ (-1))), x1.1 &&& (s9.1 ^^^ (-1)), s9.2.2.1 + 1, x1.2)))) else (some (.inr s9.2.2.2))
noncomputable def Land_measureFrom (wells_l : Int32) (next_l : Nat → Int32) (ways_l : Nat → Int32) (a1 : Int32) : Option (Nat → Int32) :=
  ob (lp (Land_measureFrom_L9 a1 wells_l next_l) ((1 : Int32) <<< (a1 &&& 31), (1 : Int32) <<< (a1 &&& 31), 0, ways_l)) fun x1 =>
  some x1
noncomputable def Land_measure_L11 (wells_l : Int32) (next_l : Nat → Int32) : (Int32 × (Nat → Int32)) → Option ((Int32 × (Nat → Int32)) ⊕ (Nat → Int32)) := fun s11 =>
  if s11.1 < wells_l then (ob (Land_measureFrom wells_l next_l s11.2 s11.1) fun x1 =>
  some (.inl (s11.1 + 1, x1))) else (some (.inr s11.2))
noncomputable def Land_measure (wells_l : Int32) (next_l : Nat → Int32) (ways_l : Nat → Int32) : Option (Nat → Int32) :=
  ob (Arrays_fill 144 ways_l (-2)) fun x1 =>
  ob (lp (Land_measure_L11 wells_l next_l) (0, x1)) fun x2 =>
  some x2
noncomputable def Land_stages_L4 (wells_l : Int32) (next_l : Nat → Int32) : (Int32 × Int32) → Option ((Int32 × Int32) ⊕ (Int32)) := fun s4 =>
  if s4.2 < wells_l then (gd (ix s4.2 12) (ob (Integer_bitCount (next_l (s4.2 : Int32).toNatClampNeg)) fun x2 =>
  some (.inl (s4.1 + x2, s4.2 + 1)))) else (some (.inr s4.1))
noncomputable def Land_stages (wells_l : Int32) (next_l : Nat → Int32) : Option (Int32) :=
  ob (lp (Land_stages_L4 wells_l next_l) (0, 0)) fun x1 =>
  some (x1 / 2)
noncomputable def Land_widest_L14 (v2 : Int32) (wells_l : Int32) (ways_l : Nat → Int32) : (Int32 × Int32) → Option ((Int32 × Int32) ⊕ (Unit) ⊕ (Int32)) := fun s14 =>
  if s14.2 < v2 then (ob (Land_way wells_l ways_l v2 s14.2) fun x1 =>
  if x1 < 0 then (some (.inr (.inl ()))) else (ob (Land_way wells_l ways_l v2 s14.2) fun x2 =>
  some (.inl (jmax s14.1 x2, s14.2 + 1)))) else (some (.inr (.inr (s14.1))))
noncomputable def Land_widest_L4 (wells_l : Int32) (ways_l : Nat → Int32) : (Int32 × Int32) → Option ((Int32 × Int32) ⊕ (Unit) ⊕ (Int32)) := fun s4 =>
  if s4.2 < wells_l then (ob (lp (Land_widest_L14 s4.2 wells_l ways_l) (s4.1, 0)) fun x1 =>
  sm x1 (fun x1 => some (.inr (.inl ()))) (fun x1 => some (.inl (x1, s4.2 + 1)))) else (some (.inr (.inr (s4.1))))
noncomputable def Land_widest (wells_l : Int32) (ways_l : Nat → Int32) : Option (Int32) :=
  ob (lp (Land_widest_L4 wells_l ways_l) (0, 0)) fun x1 =>
  sm x1 (fun x1 => some (-2)) (fun x1 => some x1)
