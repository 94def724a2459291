/-! worlds -/
abbrev wRd (bytes_rt : Nat → Int32) (length_rt : Int32) (end_rt : Int32) (at_rt : Int32) (fault_rt : Int32) (wells_r0 : Int32) (next_r0 : Nat → Int32) (ways_r0 : Nat → Int32) (wells_r1 : Int32) (next_r1 : Nat → Int32) (ways_r1 : Nat → Int32) (wells_r2 : Int32) (next_r2 : Nat → Int32) (ways_r2 : Nat → Int32) (wells_rp : Int32) (next_rp : Nat → Int32) (ways_rp : Nat → Int32) (wells_rx : Int32) (next_rx : Nat → Int32) (ways_rx : Nat → Int32) : List ce := [.inr (3, [.ref 1, .ref 3, .ref 13, .ref 16]),
  .inr (10, [.ref 2, .int length_rt, .int end_rt, .int at_rt, .int fault_rt]),
  .inl (0, 260, .inl bytes_rt),
  .inl (4, 3, .inr (.inr (.inr (.inr (fun j => match j with
    | 0 => some 4
    | 1 => some 7
    | 2 => some 10
    | _ => none))))),
  .inr (2, [.int wells_r0, .ref 5, .ref 6]),
  .inl (0, 12, .inl next_r0),
  .inl (0, 144, .inl ways_r0),
  .inr (2, [.int wells_r1, .ref 8, .ref 9]),
  .inl (0, 12, .inl next_r1),
  .inl (0, 144, .inl ways_r1),
  .inr (2, [.int wells_r2, .ref 11, .ref 12]),
  .inl (0, 12, .inl next_r2),
  .inl (0, 144, .inl ways_r2),
  .inr (2, [.int wells_rp, .ref 14, .ref 15]),
  .inl (0, 12, .inl next_rp),
  .inl (0, 144, .inl ways_rp),
  .inr (2, [.int wells_rx, .ref 17, .ref 18]),
  .inl (0, 12, .inl next_rx),
  .inl (0, 144, .inl ways_rx)]
