/-- OPEN: to be walked through the JDK's String.indexOf -/
theorem V.indexOf {M : MD} {Z : VZ} {cells slots pc : Nat} {l : List (Option Value)} {st : List Value} {hs : List ce} {x : Int32} (hl : l[2]? = some (some (.int x))) (hdp : 7 ≤ Z.1) (hC : cells ≤ Z.2.1) (hL : slots ≤ Z.2.2.1) (ho : M.1 = 4) (hrest : (st.map fun v => v.category).sum ≤ 8)
    (h1 : decode M.2.2.1 pc = .ok (.ldc 103, 2)) (h2 : decode M.2.2.1 (pc + 2) = .ok (.iload_n 2, 1)) (h3 : decode M.2.2.1 (pc + 3) = .ok (.i2c, 1)) (h4 : decode M.2.2.1 (pc + 4) = .ok (.invokevirtual 105, 3))
    (k : V M Z cells slots (pc + 7) l (.int (jIdx (jC x)) :: st) hs) : V M Z cells slots pc l st hs := sorry
