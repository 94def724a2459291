/-! one of two; the place of a letter in the String constant -/
def s2 {α β γ : Type} (x : α ⊕ β) (f : α → γ) (g : β → γ) : γ := match x with
  | .inl a => f a
  | .inr b => g b
def jIdx (c : Int32) : Int32 := if c = 102 then 0 else if c = 103 then 1 else if c = 110 then 2 else if c = 109 then 3 else if c = 115 then 4 else if c = 113 then 5 else if c = 106 then 6 else if c = 100 then 7 else if c = 119 then 8 else -1
/-- OPEN: to be walked through the JDK's String.indexOf -/
theorem V.indexOf {M : MD} {Z : VZ} {cells slots pc : Nat} {l : List (Option Value)} {st : List Value} {hs : List ce} {x : Int32} (hl : l[2]? = some (some (.int x))) (hdp : 7 ≤ Z.1) (hC : cells ≤ Z.2.1) (hL : slots ≤ Z.2.2.1) (ho : M.1 = 4) (hrest : (st.map fun v => v.category).sum ≤ 8)
    (h1 : decode M.2.2.1 pc = .ok (.ldc 103, 2)) (h2 : decode M.2.2.1 (pc + 2) = .ok (.iload_n 2, 1)) (h3 : decode M.2.2.1 (pc + 3) = .ok (.i2c, 1)) (h4 : decode M.2.2.1 (pc + 4) = .ok (.invokevirtual 105, 3))
    (k : V M Z cells slots (pc + 7) l (.int (jIdx (jC x)) :: st) hs) : V M Z cells slots pc l st hs := sorry
