/-! worlds -/
abbrev wTape (bytes_t : Nat → Int32) (length_t : Int32) (end_t : Int32) (at_t : Int32) (fault_t : Int32) : List ce := [.inr (10, [.ref 1, .int length_t, .int end_t, .int at_t, .int fault_t]),
  .inl (0, 260, .inl bytes_t)]
abbrev wNone  : List ce := []
abbrev wArr (n_a : Nat) (f_a : Nat → Int32) : List ce := [.inl (0, n_a, .inl f_a)]
abbrev wLand (wells_l : Int32) (next_l : Nat → Int32) (ways_l : Nat → Int32) : List ce := [.inr (2, [.int wells_l, .ref 1, .ref 2]),
  .inl (0, 12, .inl next_l),
  .inl (0, 144, .inl ways_l)]
abbrev wLand2 (wells_l : Int32) (next_l : Nat → Int32) (ways_l : Nat → Int32) (wells_o : Int32) (next_o : Nat → Int32) (ways_o : Nat → Int32) : List ce := [.inr (2, [.int wells_l, .ref 1, .ref 2]),
  .inl (0, 12, .inl next_l),
  .inl (0, 144, .inl ways_l),
  .inr (2, [.int wells_o, .ref 4, .ref 5]),
  .inl (0, 12, .inl next_o),
  .inl (0, 144, .inl ways_o)]
abbrev wLand3 (wells_l : Int32) (next_l : Nat → Int32) (ways_l : Nat → Int32) (wells_a : Int32) (next_a : Nat → Int32) (ways_a : Nat → Int32) (wells_b : Int32) (next_b : Nat → Int32) (ways_b : Nat → Int32) : List ce := [.inr (2, [.int wells_l, .ref 1, .ref 2]),
  .inl (0, 12, .inl next_l),
  .inl (0, 144, .inl ways_l),
  .inr (2, [.int wells_a, .ref 4, .ref 5]),
  .inl (0, 12, .inl next_a),
  .inl (0, 144, .inl ways_a),
  .inr (2, [.int wells_b, .ref 7, .ref 8]),
  .inl (0, 12, .inl next_b),
  .inl (0, 144, .inl ways_b)]
