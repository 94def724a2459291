/-! BRANCHES, ARRAYS, DIVISION, RETURNS -/
theorem V.if_eq {M : MD} {Z : VZ} {cells slots pc : Nat} {l : List (Option Value)} {st : List Value} {hs : List ce} {x : Int32} {tgt : Nat} (off : Int) (hd : decode M.2.2.1 pc = .ok (.ifCond .eq off, 3)) (ht : decide ((pc : Int) + off = (tgt : Int)) = true)
    (kt : x = 0 → V M Z cells slots tgt l st hs) (kf : ¬ x = 0 → V M Z cells slots (pc + 3) l st hs) : V M Z cells slots pc l (.int x :: st) hs := by
  intro G p la e s m args below meth c ad0 A hA cx ad ls H locs hkp hl hP hD hS
  obtain ⟨hx, hb, hml, hown, hts, hr, hlk, hnm, hK, hX⟩ := id cx
  exact lv_if_eq hx hb hd (of_decide_eq_true ht) (fun h9 => kt h9 G p la e s m args below meth c ad0 A hA cx ad ls H locs hkp hl hP hD hS) (fun h9 => kf h9 G p la e s m args below meth c ad0 A hA cx ad ls H locs hkp hl hP hD hS)

theorem V.if_ne {M : MD} {Z : VZ} {cells slots pc : Nat} {l : List (Option Value)} {st : List Value} {hs : List ce} {x : Int32} {tgt : Nat} (off : Int) (hd : decode M.2.2.1 pc = .ok (.ifCond .ne off, 3)) (ht : decide ((pc : Int) + off = (tgt : Int)) = true)
    (kt : x = 0 → V M Z cells slots (pc + 3) l st hs) (kf : ¬ x = 0 → V M Z cells slots tgt l st hs) : V M Z cells slots pc l (.int x :: st) hs := by
  intro G p la e s m args below meth c ad0 A hA cx ad ls H locs hkp hl hP hD hS
  obtain ⟨hx, hb, hml, hown, hts, hr, hlk, hnm, hK, hX⟩ := id cx
  exact lv_if_ne hx hb hd (of_decide_eq_true ht) (fun h9 => kf h9 G p la e s m args below meth c ad0 A hA cx ad ls H locs hkp hl hP hD hS) (fun h9 => kt h9 G p la e s m args below meth c ad0 A hA cx ad ls H locs hkp hl hP hD hS)

theorem V.if_lt {M : MD} {Z : VZ} {cells slots pc : Nat} {l : List (Option Value)} {st : List Value} {hs : List ce} {x : Int32} {tgt : Nat} (off : Int) (hd : decode M.2.2.1 pc = .ok (.ifCond .lt off, 3)) (ht : decide ((pc : Int) + off = (tgt : Int)) = true)
    (kt : x < 0 → V M Z cells slots tgt l st hs) (kf : ¬ x < 0 → V M Z cells slots (pc + 3) l st hs) : V M Z cells slots pc l (.int x :: st) hs := by
  intro G p la e s m args below meth c ad0 A hA cx ad ls H locs hkp hl hP hD hS
  obtain ⟨hx, hb, hml, hown, hts, hr, hlk, hnm, hK, hX⟩ := id cx
  exact lv_if_lt hx hb hd (of_decide_eq_true ht) (fun h9 => kt h9 G p la e s m args below meth c ad0 A hA cx ad ls H locs hkp hl hP hD hS) (fun h9 => kf h9 G p la e s m args below meth c ad0 A hA cx ad ls H locs hkp hl hP hD hS)

theorem V.if_ge {M : MD} {Z : VZ} {cells slots pc : Nat} {l : List (Option Value)} {st : List Value} {hs : List ce} {x : Int32} {tgt : Nat} (off : Int) (hd : decode M.2.2.1 pc = .ok (.ifCond .ge off, 3)) (ht : decide ((pc : Int) + off = (tgt : Int)) = true)
    (kt : x < 0 → V M Z cells slots (pc + 3) l st hs) (kf : ¬ x < 0 → V M Z cells slots tgt l st hs) : V M Z cells slots pc l (.int x :: st) hs := by
  intro G p la e s m args below meth c ad0 A hA cx ad ls H locs hkp hl hP hD hS
  obtain ⟨hx, hb, hml, hown, hts, hr, hlk, hnm, hK, hX⟩ := id cx
  exact lv_if_ge hx hb hd (of_decide_eq_true ht) (fun h9 => kf (Int32.not_lt.mpr h9) G p la e s m args below meth c ad0 A hA cx ad ls H locs hkp hl hP hD hS) (fun h9 => kt (Int32.not_le.mp h9) G p la e s m args below meth c ad0 A hA cx ad ls H locs hkp hl hP hD hS)

theorem V.if_le {M : MD} {Z : VZ} {cells slots pc : Nat} {l : List (Option Value)} {st : List Value} {hs : List ce} {x : Int32} {tgt : Nat} (off : Int) (hd : decode M.2.2.1 pc = .ok (.ifCond .le off, 3)) (ht : decide ((pc : Int) + off = (tgt : Int)) = true)
    (kt : x ≤ 0 → V M Z cells slots tgt l st hs) (kf : ¬ x ≤ 0 → V M Z cells slots (pc + 3) l st hs) : V M Z cells slots pc l (.int x :: st) hs := by
  intro G p la e s m args below meth c ad0 A hA cx ad ls H locs hkp hl hP hD hS
  obtain ⟨hx, hb, hml, hown, hts, hr, hlk, hnm, hK, hX⟩ := id cx
  exact lv_if_le hx hb hd (of_decide_eq_true ht) (fun h9 => kt h9 G p la e s m args below meth c ad0 A hA cx ad ls H locs hkp hl hP hD hS) (fun h9 => kf h9 G p la e s m args below meth c ad0 A hA cx ad ls H locs hkp hl hP hD hS)

theorem V.if_gt {M : MD} {Z : VZ} {cells slots pc : Nat} {l : List (Option Value)} {st : List Value} {hs : List ce} {x : Int32} {tgt : Nat} (off : Int) (hd : decode M.2.2.1 pc = .ok (.ifCond .gt off, 3)) (ht : decide ((pc : Int) + off = (tgt : Int)) = true)
    (kt : x ≤ 0 → V M Z cells slots (pc + 3) l st hs) (kf : ¬ x ≤ 0 → V M Z cells slots tgt l st hs) : V M Z cells slots pc l (.int x :: st) hs := by
  intro G p la e s m args below meth c ad0 A hA cx ad ls H locs hkp hl hP hD hS
  obtain ⟨hx, hb, hml, hown, hts, hr, hlk, hnm, hK, hX⟩ := id cx
  exact lv_if_gt hx hb hd (of_decide_eq_true ht) (fun h9 => kf (Int32.not_le.mpr h9) G p la e s m args below meth c ad0 A hA cx ad ls H locs hkp hl hP hD hS) (fun h9 => kt (Int32.not_lt.mp h9) G p la e s m args below meth c ad0 A hA cx ad ls H locs hkp hl hP hD hS)

theorem V.ic_eq {M : MD} {Z : VZ} {cells slots pc : Nat} {l : List (Option Value)} {st : List Value} {hs : List ce} {x y : Int32} {tgt : Nat} (off : Int) (hd : decode M.2.2.1 pc = .ok (.if_icmp .eq off, 3)) (ht : decide ((pc : Int) + off = (tgt : Int)) = true)
    (kt : x = y → V M Z cells slots tgt l st hs) (kf : ¬ x = y → V M Z cells slots (pc + 3) l st hs) : V M Z cells slots pc l (.int y :: .int x :: st) hs := by
  intro G p la e s m args below meth c ad0 A hA cx ad ls H locs hkp hl hP hD hS
  obtain ⟨hx, hb, hml, hown, hts, hr, hlk, hnm, hK, hX⟩ := id cx
  exact lv_icmp_eq hx hb hd (of_decide_eq_true ht) (fun h9 => kt h9 G p la e s m args below meth c ad0 A hA cx ad ls H locs hkp hl hP hD hS) (fun h9 => kf h9 G p la e s m args below meth c ad0 A hA cx ad ls H locs hkp hl hP hD hS)

theorem V.ic_ne {M : MD} {Z : VZ} {cells slots pc : Nat} {l : List (Option Value)} {st : List Value} {hs : List ce} {x y : Int32} {tgt : Nat} (off : Int) (hd : decode M.2.2.1 pc = .ok (.if_icmp .ne off, 3)) (ht : decide ((pc : Int) + off = (tgt : Int)) = true)
    (kt : x = y → V M Z cells slots (pc + 3) l st hs) (kf : ¬ x = y → V M Z cells slots tgt l st hs) : V M Z cells slots pc l (.int y :: .int x :: st) hs := by
  intro G p la e s m args below meth c ad0 A hA cx ad ls H locs hkp hl hP hD hS
  obtain ⟨hx, hb, hml, hown, hts, hr, hlk, hnm, hK, hX⟩ := id cx
  exact lv_icmp_ne hx hb hd (of_decide_eq_true ht) (fun h9 => kf h9 G p la e s m args below meth c ad0 A hA cx ad ls H locs hkp hl hP hD hS) (fun h9 => kt h9 G p la e s m args below meth c ad0 A hA cx ad ls H locs hkp hl hP hD hS)

theorem V.ic_lt {M : MD} {Z : VZ} {cells slots pc : Nat} {l : List (Option Value)} {st : List Value} {hs : List ce} {x y : Int32} {tgt : Nat} (off : Int) (hd : decode M.2.2.1 pc = .ok (.if_icmp .lt off, 3)) (ht : decide ((pc : Int) + off = (tgt : Int)) = true)
    (kt : x < y → V M Z cells slots tgt l st hs) (kf : ¬ x < y → V M Z cells slots (pc + 3) l st hs) : V M Z cells slots pc l (.int y :: .int x :: st) hs := by
  intro G p la e s m args below meth c ad0 A hA cx ad ls H locs hkp hl hP hD hS
  obtain ⟨hx, hb, hml, hown, hts, hr, hlk, hnm, hK, hX⟩ := id cx
  exact lv_icmp_lt hx hb hd (of_decide_eq_true ht) (fun h9 => kt h9 G p la e s m args below meth c ad0 A hA cx ad ls H locs hkp hl hP hD hS) (fun h9 => kf h9 G p la e s m args below meth c ad0 A hA cx ad ls H locs hkp hl hP hD hS)

theorem V.ic_ge {M : MD} {Z : VZ} {cells slots pc : Nat} {l : List (Option Value)} {st : List Value} {hs : List ce} {x y : Int32} {tgt : Nat} (off : Int) (hd : decode M.2.2.1 pc = .ok (.if_icmp .ge off, 3)) (ht : decide ((pc : Int) + off = (tgt : Int)) = true)
    (kt : x < y → V M Z cells slots (pc + 3) l st hs) (kf : ¬ x < y → V M Z cells slots tgt l st hs) : V M Z cells slots pc l (.int y :: .int x :: st) hs := by
  intro G p la e s m args below meth c ad0 A hA cx ad ls H locs hkp hl hP hD hS
  obtain ⟨hx, hb, hml, hown, hts, hr, hlk, hnm, hK, hX⟩ := id cx
  exact lv_icmp_ge hx hb hd (of_decide_eq_true ht) (fun h9 => kf (Int32.not_lt.mpr h9) G p la e s m args below meth c ad0 A hA cx ad ls H locs hkp hl hP hD hS) (fun h9 => kt (Int32.not_le.mp h9) G p la e s m args below meth c ad0 A hA cx ad ls H locs hkp hl hP hD hS)

theorem V.ic_le {M : MD} {Z : VZ} {cells slots pc : Nat} {l : List (Option Value)} {st : List Value} {hs : List ce} {x y : Int32} {tgt : Nat} (off : Int) (hd : decode M.2.2.1 pc = .ok (.if_icmp .le off, 3)) (ht : decide ((pc : Int) + off = (tgt : Int)) = true)
    (kt : x ≤ y → V M Z cells slots tgt l st hs) (kf : ¬ x ≤ y → V M Z cells slots (pc + 3) l st hs) : V M Z cells slots pc l (.int y :: .int x :: st) hs := by
  intro G p la e s m args below meth c ad0 A hA cx ad ls H locs hkp hl hP hD hS
  obtain ⟨hx, hb, hml, hown, hts, hr, hlk, hnm, hK, hX⟩ := id cx
  exact lv_icmp_le hx hb hd (of_decide_eq_true ht) (fun h9 => kt h9 G p la e s m args below meth c ad0 A hA cx ad ls H locs hkp hl hP hD hS) (fun h9 => kf h9 G p la e s m args below meth c ad0 A hA cx ad ls H locs hkp hl hP hD hS)

theorem V.ic_gt {M : MD} {Z : VZ} {cells slots pc : Nat} {l : List (Option Value)} {st : List Value} {hs : List ce} {x y : Int32} {tgt : Nat} (off : Int) (hd : decode M.2.2.1 pc = .ok (.if_icmp .gt off, 3)) (ht : decide ((pc : Int) + off = (tgt : Int)) = true)
    (kt : x ≤ y → V M Z cells slots (pc + 3) l st hs) (kf : ¬ x ≤ y → V M Z cells slots tgt l st hs) : V M Z cells slots pc l (.int y :: .int x :: st) hs := by
  intro G p la e s m args below meth c ad0 A hA cx ad ls H locs hkp hl hP hD hS
  obtain ⟨hx, hb, hml, hown, hts, hr, hlk, hnm, hK, hX⟩ := id cx
  exact lv_icmp_gt hx hb hd (of_decide_eq_true ht) (fun h9 => kf (Int32.not_le.mpr h9) G p la e s m args below meth c ad0 A hA cx ad ls H locs hkp hl hP hD hS) (fun h9 => kt (Int32.not_lt.mp h9) G p la e s m args below meth c ad0 A hA cx ad ls H locs hkp hl hP hD hS)

def ix (i : Int32) (n : Nat) : Bool := !(decide (i < 0) || Nat.ble n i.toNatClampNeg)
theorem ix_in {i : Int32} {n : Nat} (h : ix i n = true) : vp_in i n := by
  unfold ix at h
  rw [Bool.not_eq_true', Bool.or_eq_false_iff] at h
  intro hq
  rcases hq with hq | hq
  · exact absurd (of_decide_eq_false h.1) (fun z => z hq)
  · rw [Nat.ble_eq_true_of_le hq] at h
    cases h.2
theorem cE_i (G : GX) (ad : Nat → Nat) (t n : Nat) (f : Nat → Int32) : cE G ad (.inl (t, n, .inl f)) = .inl (G.2.1 t, n, .inl f) := rfl
theorem cE_l (G : GX) (ad : Nat → Nat) (t n : Nat) (f : Nat → Int64) : cE G ad (.inl (t, n, .inr (.inl f))) = .inl (G.2.1 t, n, .inr (.inl f)) := rfl

theorem V.iald {M : MD} {Z : VZ} {cells slots pc : Nat} {l : List (Option Value)} {st : List Value} {hs : List ce} {a n : Nat} {f : Nat → Int32} {i : Int32} (he : hs[a]? = some (.inl (0, n, .inl f))) (hin : ix i n = true) (hd : decode M.2.2.1 pc = .ok (.iaload, 1))
    (k : V M Z cells slots (pc + 1) l (.int (f i.toNatClampNeg) :: st) hs) : V M Z cells slots pc l (.int i :: .ref a :: st) hs := by
  intro G p la e s m args below meth c ad0 A hA cx ad ls H locs hkp hl hP hD hS
  obtain ⟨hx, hb, hml, hown, hts, hr, hlk, hnm, hK, hX⟩ := id cx
  exact va_iald hx hb hK hP a 0 (cz_at (G := G) (ad := ad) he) rfl (ix_in hin) hd (k G p la e s m args below meth c ad0 A hA cx ad ls H locs hkp hl hP hD hS)

theorem V.bald {M : MD} {Z : VZ} {cells slots pc : Nat} {l : List (Option Value)} {st : List Value} {hs : List ce} {a n : Nat} {f : Nat → Int32} {i : Int32} (he : hs[a]? = some (.inl (1, n, .inl f))) (hin : ix i n = true) (hd : decode M.2.2.1 pc = .ok (.baload, 1))
    (k : V M Z cells slots (pc + 1) l (.int (f i.toNatClampNeg) :: st) hs) : V M Z cells slots pc l (.int i :: .ref a :: st) hs := by
  intro G p la e s m args below meth c ad0 A hA cx ad ls H locs hkp hl hP hD hS
  obtain ⟨hx, hb, hml, hown, hts, hr, hlk, hnm, hK, hX⟩ := id cx
  exact va_bald hx hb hK hP a 1 (cz_at (G := G) (ad := ad) he) rfl (ix_in hin) hd (k G p la e s m args below meth c ad0 A hA cx ad ls H locs hkp hl hP hD hS)

theorem V.zald {M : MD} {Z : VZ} {cells slots pc : Nat} {l : List (Option Value)} {st : List Value} {hs : List ce} {a n : Nat} {f : Nat → Int32} {i : Int32} (he : hs[a]? = some (.inl (2, n, .inl f))) (hin : ix i n = true) (hd : decode M.2.2.1 pc = .ok (.baload, 1))
    (k : V M Z cells slots (pc + 1) l (.int (f i.toNatClampNeg) :: st) hs) : V M Z cells slots pc l (.int i :: .ref a :: st) hs := by
  intro G p la e s m args below meth c ad0 A hA cx ad ls H locs hkp hl hP hD hS
  obtain ⟨hx, hb, hml, hown, hts, hr, hlk, hnm, hK, hX⟩ := id cx
  exact va_zald hx hb hK hP a 2 (cz_at (G := G) (ad := ad) he) rfl (ix_in hin) hd (k G p la e s m args below meth c ad0 A hA cx ad ls H locs hkp hl hP hD hS)

theorem V.iast {M : MD} {Z : VZ} {cells slots pc : Nat} {l : List (Option Value)} {st : List Value} {hs : List ce} {a n : Nat} {f : Nat → Int32} {i x : Int32} (he : hs[a]? = some (.inl (0, n, .inl f))) (hin : ix i n = true) (hd : decode M.2.2.1 pc = .ok (.iastore, 1))
    (k : V M Z cells slots (pc + 1) l st (hs.set a (.inl (0, n, .inl (upd f i.toNatClampNeg x))))) : V M Z cells slots pc l (.int x :: .int i :: .ref a :: st) hs := by
  intro G p la e s m args below meth c ad0 A hA cx ad ls H locs hkp hl hP hD hS
  obtain ⟨hx, hb, hml, hown, hts, hr, hlk, hnm, hK, hX⟩ := id cx
  exact va_iast hx hb hK hP hD hS a 0 (cz_at (G := G) (ad := ad) he) rfl (ix_in hin) hd (fun H1 locs1 hP1 hD1 hS1 => k G p la e s m args below meth c ad0 A hA cx ad ls H1 locs1 hkp hl (by rw [← cE_i G ad, cz_set] at hP1; exact hP1) (by rw [← cE_i G ad, cz_set] at hD1; exact hD1) hS1)

theorem V.bast {M : MD} {Z : VZ} {cells slots pc : Nat} {l : List (Option Value)} {st : List Value} {hs : List ce} {a n : Nat} {f : Nat → Int32} {i x : Int32} (he : hs[a]? = some (.inl (1, n, .inl f))) (hin : ix i n = true) (hd : decode M.2.2.1 pc = .ok (.bastore, 1))
    (k : V M Z cells slots (pc + 1) l st (hs.set a (.inl (1, n, .inl (upd f i.toNatClampNeg (vp_nar .byte x)))))) : V M Z cells slots pc l (.int x :: .int i :: .ref a :: st) hs := by
  intro G p la e s m args below meth c ad0 A hA cx ad ls H locs hkp hl hP hD hS
  obtain ⟨hx, hb, hml, hown, hts, hr, hlk, hnm, hK, hX⟩ := id cx
  exact va_bast hx hb hK hP hD hS a 1 (cz_at (G := G) (ad := ad) he) rfl (ix_in hin) hd (fun H1 locs1 hP1 hD1 hS1 => k G p la e s m args below meth c ad0 A hA cx ad ls H1 locs1 hkp hl (by rw [← cE_i G ad, cz_set] at hP1; exact hP1) (by rw [← cE_i G ad, cz_set] at hD1; exact hD1) hS1)

theorem V.zast {M : MD} {Z : VZ} {cells slots pc : Nat} {l : List (Option Value)} {st : List Value} {hs : List ce} {a n : Nat} {f : Nat → Int32} {i x : Int32} (he : hs[a]? = some (.inl (2, n, .inl f))) (hin : ix i n = true) (hd : decode M.2.2.1 pc = .ok (.bastore, 1))
    (k : V M Z cells slots (pc + 1) l st (hs.set a (.inl (2, n, .inl (upd f i.toNatClampNeg (vp_nar .boolean x)))))) : V M Z cells slots pc l (.int x :: .int i :: .ref a :: st) hs := by
  intro G p la e s m args below meth c ad0 A hA cx ad ls H locs hkp hl hP hD hS
  obtain ⟨hx, hb, hml, hown, hts, hr, hlk, hnm, hK, hX⟩ := id cx
  exact va_zast hx hb hK hP hD hS a 2 (cz_at (G := G) (ad := ad) he) rfl (ix_in hin) hd (fun H1 locs1 hP1 hD1 hS1 => k G p la e s m args below meth c ad0 A hA cx ad ls H1 locs1 hkp hl (by rw [← cE_i G ad, cz_set] at hP1; exact hP1) (by rw [← cE_i G ad, cz_set] at hD1; exact hD1) hS1)

theorem V.lald {M : MD} {Z : VZ} {cells slots pc : Nat} {l : List (Option Value)} {st : List Value} {hs : List ce} {a n : Nat} {f : Nat → Int64} {i : Int32} (he : hs[a]? = some (.inl (3, n, .inr (.inl f)))) (hin : ix i n = true) (hd : decode M.2.2.1 pc = .ok (.laload, 1))
    (k : V M Z cells slots (pc + 1) l (.long (f i.toNatClampNeg) :: st) hs) : V M Z cells slots pc l (.int i :: .ref a :: st) hs := by
  intro G p la e s m args below meth c ad0 A hA cx ad ls H locs hkp hl hP hD hS
  obtain ⟨hx, hb, hml, hown, hts, hr, hlk, hnm, hK, hX⟩ := id cx
  exact va_lald hx hb hK hP a 3 (cz_at (G := G) (ad := ad) he) rfl (ix_in hin) hd (k G p la e s m args below meth c ad0 A hA cx ad ls H locs hkp hl hP hD hS)

theorem V.last {M : MD} {Z : VZ} {cells slots pc : Nat} {l : List (Option Value)} {st : List Value} {hs : List ce} {a n : Nat} {f : Nat → Int64} {i : Int32} {x : Int64} (he : hs[a]? = some (.inl (3, n, .inr (.inl f)))) (hin : ix i n = true) (hd : decode M.2.2.1 pc = .ok (.lastore, 1))
    (k : V M Z cells slots (pc + 1) l st (hs.set a (.inl (3, n, .inr (.inl (vp_updL f i.toNatClampNeg x)))))) : V M Z cells slots pc l (.long x :: .int i :: .ref a :: st) hs := by
  intro G p la e s m args below meth c ad0 A hA cx ad ls H locs hkp hl hP hD hS
  obtain ⟨hx, hb, hml, hown, hts, hr, hlk, hnm, hK, hX⟩ := id cx
  exact va_last hx hb hK hP hD hS a 3 (cz_at (G := G) (ad := ad) he) rfl (ix_in hin) hd (fun H1 locs1 hP1 hD1 hS1 => k G p la e s m args below meth c ad0 A hA cx ad ls H1 locs1 hkp hl (by rw [← cE_l G ad, cz_set] at hP1; exact hP1) (by rw [← cE_l G ad, cz_set] at hD1; exact hD1) hS1)

theorem V.aald {M : MD} {Z : VZ} {cells slots pc : Nat} {l : List (Option Value)} {st : List Value} {hs : List ce} {a b : Nat} {fs : List Value} {i : Int32} (he : hs[a]? = some (.inr (13, fs))) (hin : ix i fs.length = true) (hf : fs[i.toNatClampNeg]? = some (.ref b)) (hd : decode M.2.2.1 pc = .ok (.aaload, 1))
    (k : V M Z cells slots (pc + 1) l (.ref b :: st) hs) : V M Z cells slots pc l (.int i :: .ref a :: st) hs := by
  intro G p la e s m args below meth c ad0 A hA cx ad ls H locs hkp hl hP hD hS
  obtain ⟨hx, hb, hml, hown, hts, hr, hlk, hnm, hK, hX⟩ := id cx
  refine va_aldq hx hb hK hP a 4 (C := "DesertJars$Land") (f := rfL (fs.map (cv ad))) (cz_at (G := G) (ad := ad) he) rfl (ix_in hin) hd ?_
  have h1 : rfL (fs.map (cv ad)) i.toNatClampNeg = some (ad b) := by
    unfold rfL
    rw [List.getElem?_map, hf]
    rfl
  rw [h1]
  exact (k G p la e s m args below meth c ad0 A hA cx ad ls H locs hkp hl hP hD hS)

theorem V.idiv {M : MD} {Z : VZ} {cells slots pc : Nat} {l : List (Option Value)} {st : List Value} {hs : List ce} {x y : Int32} (hne : ¬ y = 0) (hd : decode M.2.2.1 pc = .ok (.idiv, 1))
    (k : V M Z cells slots (pc + 1) l (.int (x / y) :: st) hs) : V M Z cells slots pc l (.int y :: .int x :: st) hs := by
  intro G p la e s m args below meth c ad0 A hA cx ad ls H locs hkp hl hP hD hS
  obtain ⟨hx, hb, hml, hown, hts, hr, hlk, hnm, hK, hX⟩ := id cx
  exact lv_idiv hx hb hd hne (k G p la e s m args below meth c ad0 A hA cx ad ls H locs hkp hl hP hD hS)
theorem V.irem {M : MD} {Z : VZ} {cells slots pc : Nat} {l : List (Option Value)} {st : List Value} {hs : List ce} {x y : Int32} (hne : ¬ y = 0) (hd : decode M.2.2.1 pc = .ok (.irem, 1))
    (k : V M Z cells slots (pc + 1) l (.int (x % y) :: st) hs) : V M Z cells slots pc l (.int y :: .int x :: st) hs := by
  intro G p la e s m args below meth c ad0 A hA cx ad ls H locs hkp hl hP hD hS
  obtain ⟨hx, hb, hml, hown, hts, hr, hlk, hnm, hK, hX⟩ := id cx
  refine lv_irem hx hb hd hne ?_
  rw [irem_eq_mod]
  exact (k G p la e s m args below meth c ad0 A hA cx ad ls H locs hkp hl hP hD hS)

theorem V.tab {M : MD} {Z : VZ} {cells slots pc : Nat} {l : List (Option Value)} {st : List Value} {hs : List ce} {x : Int32} {tgt : Nat} (dflt lo hi : Int) (offs : Array Int) (len : Nat) (off : Int) (hd : decode M.2.2.1 pc = .ok (.tableswitch dflt lo hi offs, len)) (h1 : ¬ x.toInt < lo) (h2 : ¬ hi < x.toInt) (ho : offs[(x.toInt - lo).toNat]? = some off) (ht : decide ((pc : Int) + off = (tgt : Int)) = true)
    (k : V M Z cells slots tgt l st hs) : V M Z cells slots pc l (.int x :: st) hs := by
  intro G p la e s m args below meth c ad0 A hA cx ad ls H locs hkp hl hP hD hS
  obtain ⟨hx, hb, hml, hown, hts, hr, hlk, hnm, hK, hX⟩ := id cx
  exact lv_tableIn hx hb hd h1 h2 ho (of_decide_eq_true ht) (k G p la e s m args below meth c ad0 A hA cx ad ls H locs hkp hl hP hD hS)
theorem V.tabOut {M : MD} {Z : VZ} {cells slots pc : Nat} {l : List (Option Value)} {st : List Value} {hs : List ce} {x : Int32} {tgt : Nat} (dflt lo hi : Int) (offs : Array Int) (len : Nat) (hd : decode M.2.2.1 pc = .ok (.tableswitch dflt lo hi offs, len)) (h1 : x.toInt < lo ∨ hi < x.toInt) (ht : decide ((pc : Int) + dflt = (tgt : Int)) = true)
    (k : V M Z cells slots tgt l st hs) : V M Z cells slots pc l (.int x :: st) hs := by
  intro G p la e s m args below meth c ad0 A hA cx ad ls H locs hkp hl hP hD hS
  obtain ⟨hx, hb, hml, hown, hts, hr, hlk, hnm, hK, hX⟩ := id cx
  exact lv_tableOut hx hb hd h1 (of_decide_eq_true ht) (k G p la e s m args below meth c ad0 A hA cx ad ls H locs hkp hl hP hD hS)
theorem V.look {M : MD} {Z : VZ} {cells slots pc : Nat} {l : List (Option Value)} {st : List Value} {hs : List ce} {x : Int32} {tgt : Nat} (dflt : Int) (ps : Array (Int × Int)) (len : Nat) (off : Int) (hd : decode M.2.2.1 pc = .ok (.lookupswitch dflt ps, len)) (hp : (ps.toList.zip (ps.toList.drop 1)).all (fun (a, next) => a.1 < next.1) = true) (ho : Op.lookupswitch.offset ps.toList dflt x.toInt = off) (ht : decide ((pc : Int) + off = (tgt : Int)) = true)
    (k : V M Z cells slots tgt l st hs) : V M Z cells slots pc l (.int x :: st) hs := by
  intro G p la e s m args below meth c ad0 A hA cx ad ls H locs hkp hl hP hD hS
  obtain ⟨hx, hb, hml, hown, hts, hr, hlk, hnm, hK, hX⟩ := id cx
  exact lv_lookup hx hb hd hp ho (of_decide_eq_true ht) (k G p la e s m args below meth c ad0 A hA cx ad ls H locs hkp hl hP hD hS)

theorem V.iret {M : MD} {d rc rs mc ms : Nat} {kp : Nat → Bool} {hs : List ce} {cells slots pc : Nat} {l : List (Option Value)} {v : Int32} (hrt : M.2.2.2.2.1 = some .int) (hc : cells ≤ mc) (hsl : slots ≤ ms) (hd : decode M.2.2.1 pc = .ok (.ireturn, 1)) : V M (d, rc, rs, kp, some (.int v), hs, mc, ms) cells slots pc l [.int v] hs := by
  intro G p la e s m args below meth c ad0 A hA cx ad ls H locs hkp hl hP hD hS
  obtain ⟨hx, hb, hml, hown, hts, hr, hlk, hnm, hK, hX⟩ := id cx
  refine W.widen (k := mc) (n := ms) hc hsl ?_
  exact W.iret (v := v) hx hb (hr.trans hrt) (fun t ht hW => ⟨⟨ad, hkp, rfl, by rw [ht]; exact hP, hD⟩, hS.F ht⟩) hS.2.2 hd hlk
theorem V.zret {M : MD} {d rc rs mc ms : Nat} {kp : Nat → Bool} {hs : List ce} {cells slots pc : Nat} {l : List (Option Value)} {v : Int32} (hv : v = 0 ∨ v = 1) (hrt : M.2.2.2.2.1 = some .boolean) (hc : cells ≤ mc) (hsl : slots ≤ ms) (hd : decode M.2.2.1 pc = .ok (.ireturn, 1)) : V M (d, rc, rs, kp, some (.int v), hs, mc, ms) cells slots pc l [.int v] hs := by
  intro G p la e s m args below meth c ad0 A hA cx ad ls H locs hkp hl hP hD hS
  obtain ⟨hx, hb, hml, hown, hts, hr, hlk, hnm, hK, hX⟩ := id cx
  refine W.widen (k := mc) (n := ms) hc hsl ?_
  exact W.zret (v := v) (ty := .boolean) hx hb (hr.trans hrt) (by rcases hv with rfl | rfl <;> decide) (fun t ht hW => ⟨⟨ad, hkp, rfl, by rw [ht]; exact hP, hD⟩, hS.F ht⟩) hS.2.2 hd hlk
theorem V.vret {M : MD} {d rc rs mc ms : Nat} {kp : Nat → Bool} {hs : List ce} {cells slots pc : Nat} {l : List (Option Value)} (hrt : M.2.2.2.2.1 = none) (hc : cells ≤ mc) (hsl : slots ≤ ms) (hd : decode M.2.2.1 pc = .ok (.return_, 1)) : V M (d, rc, rs, kp, none, hs, mc, ms) cells slots pc l [] hs := by
  intro G p la e s m args below meth c ad0 A hA cx ad ls H locs hkp hl hP hD hS
  obtain ⟨hx, hb, hml, hown, hts, hr, hlk, hnm, hK, hX⟩ := id cx
  refine W.widen (k := mc) (n := ms) hc hsl ?_
  exact W.vret hx hb (hr.trans hrt) (fun t ht hW => ⟨⟨ad, hkp, rfl, by rw [ht]; exact hP, hD⟩, hS.F ht⟩) hS.2.2 hd hlk
theorem V.aret {M : MD} {d rc rs mc ms : Nat} {kp : Nat → Bool} {hs : List ce} {cells slots pc : Nat} {l : List (Option Value)} {v : Nat} {cn : String} (hrt : M.2.2.2.2.1 = some (.object cn)) (hc : cells ≤ mc) (hsl : slots ≤ ms) (hd : decode M.2.2.1 pc = .ok (.areturn, 1)) : V M (d, rc, rs, kp, some (.ref v), hs, mc, ms) cells slots pc l [.ref v] hs := by
  intro G p la e s m args below meth c ad0 A hA cx ad ls H locs hkp hl hP hD hS
  obtain ⟨hx, hb, hml, hown, hts, hr, hlk, hnm, hK, hX⟩ := id cx
  refine W.widen (k := mc) (n := ms) hc hsl ?_
  exact W.aret (v := .ref (ad v)) hx hb (hr.trans hrt) (Or.inl ⟨_, rfl⟩) (Or.inr ⟨_, rfl⟩) (fun t ht hW => ⟨⟨ad, hkp, rfl, by rw [ht]; exact hP, hD⟩, hS.F ht⟩) hS.2.2 hd hlk
theorem V.lret {M : MD} {d rc rs mc ms : Nat} {kp : Nat → Bool} {hs : List ce} {cells slots pc : Nat} {l : List (Option Value)} {v : Int64} (hrt : M.2.2.2.2.1 = some .long) (hc : cells ≤ mc) (hsl : slots ≤ ms) (hd : decode M.2.2.1 pc = .ok (.lreturn, 1)) : V M (d, rc, rs, kp, some (.long v), hs, mc, ms) cells slots pc l [.long v] hs := by
  intro G p la e s m args below meth c ad0 A hA cx ad ls H locs hkp hl hP hD hS
  obtain ⟨hx, hb, hml, hown, hts, hr, hlk, hnm, hK, hX⟩ := id cx
  refine W.widen (k := mc) (n := ms) hc hsl ?_
  exact W.lret (v := v) hx hb (hr.trans hrt) (fun t ht hW => ⟨⟨ad, hkp, rfl, by rw [ht]; exact hP, hD⟩, hS.F ht⟩) hS.2.2 hd hlk
