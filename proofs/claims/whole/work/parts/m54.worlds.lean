/-! worlds -/
abbrev wLedLC (needs_o : Nat → Int32) (changes_o : Nat → Int32) (row_o : Nat → Int32) (lost_o : Int32) (throne_o : Int32) (ways_o : Int32) (least_o : Int32) (most_o : Int32) (wells_l : Int32) (next_l : Nat → Int32) (ways_l : Nat → Int32) (jars_c : Nat → Int32) (space_c : Nat → Int32) (throne_c : Int32) (day_c : Int32) (draw_c : Int32) (gone_c : Int32) (robbed_c : Int32) : List ce := [.inr (5, [.ref 1, .ref 2, .ref 3, .int lost_o, .int throne_o, .int ways_o, .int least_o, .int most_o]),
  .inl (0, 48, .inl needs_o),
  .inl (0, 48, .inl changes_o),
  .inl (0, 12, .inl row_o),
  .inr (2, [.int wells_l, .ref 5, .ref 6]),
  .inl (0, 12, .inl next_l),
  .inl (0, 144, .inl ways_l),
  .inr (0, [.ref 8, .ref 9, .int throne_c, .int day_c, .int draw_c, .int gone_c, .int robbed_c]),
  .inl (0, 12, .inl jars_c),
  .inl (0, 12, .inl space_c)]
abbrev wSym (order_g : Nat → Int32) (images_g : Nat → Int32) (looks_g : Nat → Int64) (twins_g : Nat → Int32) (land_g : Value) (wells_l : Int32) (next_l : Nat → Int32) (ways_l : Nat → Int32) : List ce := [.inr (9, [.ref 1, .ref 2, .ref 3, .ref 4, land_g]),
  .inl (0, 12, .inl order_g),
  .inl (0, 12, .inl images_g),
  .inl (3, 12, .inr (.inl looks_g)),
  .inl (0, 12, .inl twins_g),
  .inr (2, [.int wells_l, .ref 6, .ref 7]),
  .inl (0, 12, .inl next_l),
  .inl (0, 144, .inl ways_l)]
