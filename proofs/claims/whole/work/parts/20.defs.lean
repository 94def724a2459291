/-! one of two; the place of a letter in the String constant -/
def s2 {α β γ : Type} (x : α ⊕ β) (f : α → γ) (g : β → γ) : γ := match x with
  | .inl a => f a
  | .inr b => g b
def jIdx (c : Int32) : Int32 := if c = 102 then 0 else if c = 103 then 1 else if c = 110 then 2 else if c = 109 then 3 else if c = 115 then 4 else if c = 113 then 5 else if c = 106 then 6 else if c = 100 then 7 else if c = 119 then 8 else -1
