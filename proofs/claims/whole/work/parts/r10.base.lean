/-! THE LAW: its own rules, and a theorem for each case -/
def pL (b L : Nat) (xs : Nat → Int32) : GX → State → (Nat → Nat) → (Nat → Prop) → Prop := fun _ s ad0 A => ad0 1000 = b ∧ va_X b L xs s s.heap ∧ b < s.heap.size ∧ ¬ A b
def mLaw (b L : Nat) (xs : Nat → Int32) : MD := (13, x, code, 4, ret, pL b L xs)
def kpS : Nat → Bool := fun k => Nat.beq k 1000
theorem kpS_is {k : Nat} (h : kpS k = true) : k = 1000 := Nat.eq_of_beq_eq_true h
def ZL : VZ := (2048, 522958, 7533376, kpS, some (.int 1), [], 522958, 7533376)
section LAW
variable {b L : Nat} {xs : Nat → Int32} {cells slots pc : Nat} {l : List (Option Value)} {st : List Value} {hs : List ce}
theorem V.sld {i : Int32} (hin : ix i L = true) (hd : decode code pc = .ok (.iaload, 1)) (k : V (mLaw b L xs) ZL cells slots (pc + 1) l (.int (xs i.toNatClampNeg) :: st) hs) : V (mLaw b L xs) ZL cells slots pc l (.int i :: .ref 1000 :: st) hs := by
  intro G p la e s m args below meth c ad0 A hA cx ad ls H locs hkp hl hP hD hS
  obtain ⟨hx, hb, hml, hown, hts, hr, hlk, hnm, hK, hX⟩ := id cx
  obtain ⟨q1, q2, q3, q4⟩ := hnm.2
  have e0 : ad 1000 = b := (hkp 1000 rfl).trans q1
  show W p la e _ s m args below meth c H locs cells slots _ (F0 m pc ls (.int i :: .ref (ad 1000) :: st.map (cv ad)))
  rw [e0]
  exact va_sld hx hb q2 q3 q4 hS (ix_in hin) hd (k G p la e s m args below meth c ad0 A hA cx ad ls H locs hkp hl hP hD hS)
theorem V.slen (hd : decode code pc = .ok (.arraylength, 1)) (k : V (mLaw b L xs) ZL cells slots (pc + 1) l (.int (Int32.ofNat L) :: st) hs) : V (mLaw b L xs) ZL cells slots pc l (.ref 1000 :: st) hs := by
  intro G p la e s m args below meth c ad0 A hA cx ad ls H locs hkp hl hP hD hS
  obtain ⟨hx, hb, hml, hown, hts, hr, hlk, hnm, hK, hX⟩ := id cx
  obtain ⟨q1, q2, q3, q4⟩ := hnm.2
  have e0 : ad 1000 = b := (hkp 1000 rfl).trans q1
  show W p la e _ s m args below meth c H locs cells slots _ (F0 m pc ls (.ref (ad 1000) :: st.map (cv ad)))
  rw [e0]
  exact va_slen hx hb q2 q3 q4 hS hd (k G p la e s m args below meth c ad0 A hA cx ad ls H locs hkp hl hP hD hS)
theorem V.sarg {i : Int32} {k : Int32} {kn : Int} {r1 r2 : Value} (hin : ix (i + k) L = true) (hk : Int32.ofInt kn = k) (d0 : decode code pc = .ok (.aload_n 0, 1)) (d1 : decode code (pc + 1) = .ok (.iload_n 3, 1)) (d2 : decode code (pc + 2) = .ok (.iconst kn, 1)) (d3 : decode code (pc + 3) = .ok (.iadd, 1)) (d4 : decode code (pc + 4) = .ok (.iaload, 1))
    (kk : V (mLaw b L xs) ZL cells slots (pc + 5) [some (.ref 1000), some r1, some r2, some (.int i)] (.int (xs (i + k).toNatClampNeg) :: st) hs) : V (mLaw b L xs) ZL cells slots pc [some (.ref 1000), some r1, some r2, some (.int i)] st hs := by
  refine V.s_aload_n (M := mLaw b L xs) d0 (l' := [some (.ref 1000), some r1, some r2, some (.int i)]) (st' := .ref 1000 :: st) (hs' := hs) rfl ?_
  refine V.s_iload_n (M := mLaw b L xs) d1 (l' := [some (.ref 1000), some r1, some r2, some (.int i)]) (st' := .int i :: .ref 1000 :: st) (hs' := hs) rfl ?_
  refine V.s_iconst (M := mLaw b L xs) d2 hk (l' := [some (.ref 1000), some r1, some r2, some (.int i)]) (st' := .int k :: .int i :: .ref 1000 :: st) (hs' := hs) rfl ?_
  refine V.s_iadd (M := mLaw b L xs) (f := fun x y => x + y) rfl d3 (l' := [some (.ref 1000), some r1, some r2, some (.int i)]) (st' := .int (i + k) :: .ref 1000 :: st) (hs' := hs) rfl ?_
  exact V.sld hin d4 kk
theorem V.bzR {M : MD} {Z : VZ} {v : Int32} (d0 : decode M.2.2.1 pc = .ok (.ifCond .eq 7, 3)) (d1 : decode M.2.2.1 (pc + 3) = .ok (.iconst 1, 1)) (d2 : decode M.2.2.1 (pc + 4) = .ok (.goto 4, 3)) (d3 : decode M.2.2.1 (pc + 7) = .ok (.iconst 0, 1)) (k : V M Z cells slots (pc + 8) l (.int (bz v) :: st) hs) : V M Z cells slots pc l (.int v :: st) hs := by
  refine V.if_eq (tgt := pc + 7) 7 d0 (decide_eq_true (by omega)) (fun h => ?_) (fun h => ?_)
  · rw [show bz v = 0 from if_pos h] at k
    exact V.s_iconst d3 rfl rfl k
  · rw [show bz v = 1 from if_neg h] at k
    exact V.s_iconst d1 rfl rfl (V.s_goto (tgt := pc + 8) d2 (by omega) k)
end LAW

theorem lk13_13 : Cond.methodLink "DesertJarsLaw" 13 ⟨"DesertJars", "room", "(II)Z"⟩ ∈ tbl := in_tbl (List.mem_of_getElem? (i := 462) (by decide +kernel)) rfl
theorem lk13_17 : Cond.methodLink "DesertJarsLaw" 17 ⟨"DesertJarsModel", "room", "(II)Z"⟩ ∈ tbl := in_tbl (List.mem_of_getElem? (i := 1455) (by decide +kernel)) rfl
theorem lk13_18 : Cond.methodLink "DesertJarsLaw" 18 ⟨"DesertJars", "queen", "(I)Z"⟩ ∈ tbl := in_tbl (List.mem_of_getElem? (i := 470) (by decide +kernel)) rfl
theorem lk13_22 : Cond.methodLink "DesertJarsLaw" 22 ⟨"DesertJarsModel", "queen", "(I)Z"⟩ ∈ tbl := in_tbl (List.mem_of_getElem? (i := 1466) (by decide +kernel)) rfl
theorem lk13_23 : Cond.methodLink "DesertJarsLaw" 23 ⟨"DesertJars", "feed", "(IIIII)I"⟩ ∈ tbl := in_tbl (List.mem_of_getElem? (i := 474) (by decide +kernel)) rfl
theorem lk13_27 : Cond.methodLink "DesertJarsLaw" 27 ⟨"DesertJarsModel", "feed", "(IIIII)I"⟩ ∈ tbl := in_tbl (List.mem_of_getElem? (i := 1485) (by decide +kernel)) rfl
theorem lk13_28 : Cond.methodLink "DesertJarsLaw" 28 ⟨"DesertJars", "law", "(I)I"⟩ ∈ tbl := in_tbl (List.mem_of_getElem? (i := 482) (by decide +kernel)) rfl
theorem lk13_32 : Cond.methodLink "DesertJarsLaw" 32 ⟨"DesertJarsModel", "law", "(I)I"⟩ ∈ tbl := in_tbl (List.mem_of_getElem? (i := 1493) (by decide +kernel)) rfl
theorem lk13_33 : Cond.methodLink "DesertJarsLaw" 33 ⟨"DesertJars", "land", "(I)I"⟩ ∈ tbl := in_tbl (List.mem_of_getElem? (i := 651) (by decide +kernel)) rfl
theorem lk13_36 : Cond.methodLink "DesertJarsLaw" 36 ⟨"DesertJarsModel", "land", "(I)I"⟩ ∈ tbl := in_tbl (List.mem_of_getElem? (i := 1580) (by decide +kernel)) rfl
theorem lk13_37 : Cond.methodLink "DesertJarsLaw" 37 ⟨"DesertJars", "laying", "(I)I"⟩ ∈ tbl := in_tbl (List.mem_of_getElem? (i := 747) (by decide +kernel)) rfl
theorem lk13_40 : Cond.methodLink "DesertJarsLaw" 40 ⟨"DesertJarsModel", "laying", "(I)I"⟩ ∈ tbl := in_tbl (List.mem_of_getElem? (i := 1612) (by decide +kernel)) rfl
theorem lk13_41 : Cond.methodLink "DesertJarsLaw" 41 ⟨"DesertJars", "days", "(I)I"⟩ ∈ tbl := in_tbl (List.mem_of_getElem? (i := 765) (by decide +kernel)) rfl
theorem lk13_44 : Cond.methodLink "DesertJarsLaw" 44 ⟨"DesertJarsModel", "days", "(I)I"⟩ ∈ tbl := in_tbl (List.mem_of_getElem? (i := 1627) (by decide +kernel)) rfl
theorem lk13_45 : Cond.methodLink "DesertJarsLaw" 45 ⟨"DesertJars", "tried", "(II)I"⟩ ∈ tbl := in_tbl (List.mem_of_getElem? (i := 823) (by decide +kernel)) rfl
theorem lk13_49 : Cond.methodLink "DesertJarsLaw" 49 ⟨"DesertJarsModel", "tried", "(II)I"⟩ ∈ tbl := in_tbl (List.mem_of_getElem? (i := 1686) (by decide +kernel)) rfl
theorem lk13_50 : Cond.methodLink "DesertJarsLaw" 50 ⟨"DesertJars", "wellIs", "(II)I"⟩ ∈ tbl := in_tbl (List.mem_of_getElem? (i := 832) (by decide +kernel)) rfl
theorem lk13_53 : Cond.methodLink "DesertJarsLaw" 53 ⟨"DesertJarsModel", "wellIs", "(II)I"⟩ ∈ tbl := in_tbl (List.mem_of_getElem? (i := 1693) (by decide +kernel)) rfl
theorem lk13_54 : Cond.methodLink "DesertJarsLaw" 54 ⟨"DesertJars", "steps", "(II)I"⟩ ∈ tbl := in_tbl (List.mem_of_getElem? (i := 837) (by decide +kernel)) rfl
theorem lk13_57 : Cond.methodLink "DesertJarsLaw" 57 ⟨"DesertJarsModel", "steps", "(II)I"⟩ ∈ tbl := in_tbl (List.mem_of_getElem? (i := 1470) (by decide +kernel)) rfl
theorem lk13_58 : Cond.methodLink "DesertJarsLaw" 58 ⟨"DesertJars", "reach", "(IIZI)I"⟩ ∈ tbl := in_tbl (List.mem_of_getElem? (i := 841) (by decide +kernel)) rfl
theorem lk13_62 : Cond.methodLink "DesertJarsLaw" 62 ⟨"DesertJarsModel", "reach", "(IIZI)I"⟩ ∈ tbl := in_tbl (List.mem_of_getElem? (i := 1698) (by decide +kernel)) rfl
theorem lk13_63 : Cond.methodLink "DesertJarsLaw" 63 ⟨"DesertJars", "number", "(II)I"⟩ ∈ tbl := in_tbl (List.mem_of_getElem? (i := 912) (by decide +kernel)) rfl
theorem lk13_66 : Cond.methodLink "DesertJarsLaw" 66 ⟨"DesertJarsModel", "number", "(II)I"⟩ ∈ tbl := in_tbl (List.mem_of_getElem? (i := 1729) (by decide +kernel)) rfl
theorem lk13_67 : Cond.methodLink "DesertJarsLaw" 67 ⟨"DesertJars", "landNumber", "(I)I"⟩ ∈ tbl := in_tbl (List.mem_of_getElem? (i := 963) (by decide +kernel)) rfl
theorem lk13_70 : Cond.methodLink "DesertJarsLaw" 70 ⟨"DesertJarsModel", "landNumber", "(I)I"⟩ ∈ tbl := in_tbl (List.mem_of_getElem? (i := 1761) (by decide +kernel)) rfl
theorem lk13_71 : Cond.methodLink "DesertJarsLaw" 71 ⟨"DesertJars", "fewest", "(I)I"⟩ ∈ tbl := in_tbl (List.mem_of_getElem? (i := 976) (by decide +kernel)) rfl
theorem lk13_74 : Cond.methodLink "DesertJarsLaw" 74 ⟨"DesertJarsModel", "fewest", "(I)I"⟩ ∈ tbl := in_tbl (List.mem_of_getElem? (i := 1769) (by decide +kernel)) rfl
theorem lk13_75 : Cond.methodLink "DesertJarsLaw" 75 ⟨"DesertJars", "atOnce", "()I"⟩ ∈ tbl := in_tbl (List.mem_of_getElem? (i := 1002) (by decide +kernel)) rfl
theorem lk13_79 : Cond.methodLink "DesertJarsLaw" 79 ⟨"DesertJarsModel", "atOnce", "()I"⟩ ∈ tbl := in_tbl (List.mem_of_getElem? (i := 1785) (by decide +kernel)) rfl
theorem lk13_80 : Cond.methodLink "DesertJarsLaw" 80 ⟨"DesertJars", "paper", "(I)I"⟩ ∈ tbl := in_tbl (List.mem_of_getElem? (i := 1012) (by decide +kernel)) rfl
theorem lk13_83 : Cond.methodLink "DesertJarsLaw" 83 ⟨"DesertJarsModel", "paper", "(I)I"⟩ ∈ tbl := in_tbl (List.mem_of_getElem? (i := 1793) (by decide +kernel)) rfl
theorem lk13_84 : Cond.methodLink "DesertJarsLaw" 84 ⟨"DesertJars", "joined", "(II)I"⟩ ∈ tbl := in_tbl (List.mem_of_getElem? (i := 1033) (by decide +kernel)) rfl
theorem lk13_87 : Cond.methodLink "DesertJarsLaw" 87 ⟨"DesertJarsModel", "joined", "(II)I"⟩ ∈ tbl := in_tbl (List.mem_of_getElem? (i := 1809) (by decide +kernel)) rfl
theorem lk13_88 : Cond.methodLink "DesertJarsLaw" 88 ⟨"DesertJars", "product", "(I)I"⟩ ∈ tbl := in_tbl (List.mem_of_getElem? (i := 1043) (by decide +kernel)) rfl
theorem lk13_91 : Cond.methodLink "DesertJarsLaw" 91 ⟨"DesertJarsModel", "product", "(I)I"⟩ ∈ tbl := in_tbl (List.mem_of_getElem? (i := 1817) (by decide +kernel)) rfl
theorem lk13_92 : Cond.methodLink "DesertJarsLaw" 92 ⟨"DesertJars", "robbers", "(I)I"⟩ ∈ tbl := in_tbl (List.mem_of_getElem? (i := 1057) (by decide +kernel)) rfl
theorem lk13_95 : Cond.methodLink "DesertJarsLaw" 95 ⟨"DesertJarsModel", "robbers", "(I)I"⟩ ∈ tbl := in_tbl (List.mem_of_getElem? (i := 1833) (by decide +kernel)) rfl
theorem lk13_96 : Cond.methodLink "DesertJarsLaw" 96 ⟨"DesertJars", "ledger", "(II)I"⟩ ∈ tbl := in_tbl (List.mem_of_getElem? (i := 1061) (by decide +kernel)) rfl
theorem lk13_99 : Cond.methodLink "DesertJarsLaw" 99 ⟨"DesertJarsModel", "ledger", "(II)I"⟩ ∈ tbl := in_tbl (List.mem_of_getElem? (i := 1864) (by decide +kernel)) rfl
theorem lk13_100 : Cond.methodLink "DesertJarsLaw" 100 ⟨"DesertJars", "symmetries", "(I)I"⟩ ∈ tbl := in_tbl (List.mem_of_getElem? (i := 1127) (by decide +kernel)) rfl
theorem lk13_103 : Cond.methodLink "DesertJarsLaw" 103 ⟨"DesertJarsModel", "symmetries", "(I)I"⟩ ∈ tbl := in_tbl (List.mem_of_getElem? (i := 1884) (by decide +kernel)) rfl
theorem lk13_104 : Cond.methodLink "DesertJarsLaw" 104 ⟨"DesertJars", "seed", "(I)Z"⟩ ∈ tbl := in_tbl (List.mem_of_getElem? (i := 1169) (by decide +kernel)) rfl
theorem lk13_107 : Cond.methodLink "DesertJarsLaw" 107 ⟨"DesertJarsModel", "seed", "(I)Z"⟩ ∈ tbl := in_tbl (List.mem_of_getElem? (i := 1896) (by decide +kernel)) rfl
theorem lk13_108 : Cond.methodLink "DesertJarsLaw" 108 ⟨"DesertJars", "keep", "()I"⟩ ∈ tbl := in_tbl (List.mem_of_getElem? (i := 1174) (by decide +kernel)) rfl
theorem lk13_111 : Cond.methodLink "DesertJarsLaw" 111 ⟨"DesertJarsModel", "keep", "()I"⟩ ∈ tbl := in_tbl (List.mem_of_getElem? (i := 1901) (by decide +kernel)) rfl
theorem lk13_112 : Cond.methodLink "DesertJarsLaw" 112 ⟨"DesertJars", "undo", "()Z"⟩ ∈ tbl := in_tbl (List.mem_of_getElem? (i := 1178) (by decide +kernel)) rfl
theorem lk13_116 : Cond.methodLink "DesertJarsLaw" 116 ⟨"DesertJarsModel", "undo", "()Z"⟩ ∈ tbl := in_tbl (List.mem_of_getElem? (i := 1905) (by decide +kernel)) rfl
theorem lk13_117 : Cond.methodLink "DesertJarsLaw" 117 ⟨"DesertJars", "check", "(I)I"⟩ ∈ tbl := in_tbl (List.mem_of_getElem? (i := 1182) (by decide +kernel)) rfl
theorem lk13_120 : Cond.methodLink "DesertJarsLaw" 120 ⟨"DesertJarsModel", "check", "(I)I"⟩ ∈ tbl := in_tbl (List.mem_of_getElem? (i := 1909) (by decide +kernel)) rfl
theorem lk13_121 : Cond.methodLink "DesertJarsLaw" 121 ⟨"DesertJars", "count", "(I)I"⟩ ∈ tbl := in_tbl (List.mem_of_getElem? (i := 1186) (by decide +kernel)) rfl
theorem lk13_124 : Cond.methodLink "DesertJarsLaw" 124 ⟨"DesertJarsModel", "count", "(I)I"⟩ ∈ tbl := in_tbl (List.mem_of_getElem? (i := 1913) (by decide +kernel)) rfl
def mL0 : MD := mLaw 0 0 (fun _ => 0)
theorem okI_law {b L : Nat} {xs : Nat → Int32} {pc : Nat} {q : RI} : okI (mLaw b L xs) pc q = okI mL0 pc q := rfl
theorem okB_eq {b L : Nat} {xs : Nat → Int32} : ∀ (qs : List RI) (pc : Nat), okB (mLaw b L xs) pc qs = okB mL0 pc qs := by
  intro qs
  induction qs with
  | nil => intro pc; rfl
  | cons q qs ih =>
    intro pc
    show (okI (mLaw b L xs) pc q && okB (mLaw b L xs) (nxI pc q) qs) = (okI mL0 pc q && okB mL0 (nxI pc q) qs)
    rw [okI_law, ih]
theorem okB_law {b L : Nat} {xs : Nat → Int32} {qs : List RI} {pc : Nat} (h : okB mL0 pc qs = true) : okB (mLaw b L xs) pc qs = true := (okB_eq qs pc).trans h
theorem dec_law {b L : Nat} {xs : Nat → Int32} {pc : Nat} {r : Except DecodeError (Instr × Nat)} (h : decode code pc = r) : decode (mLaw b L xs).2.2.1 pc = r := h
abbrev wMoR (hs : List ce) : List ce := hs.map (rE (fun j => 93 + j))
