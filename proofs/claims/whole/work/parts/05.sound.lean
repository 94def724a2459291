/-! SOUNDNESS OF A STEP -/
theorem clS : ∀ c, c < 13 → ∀ k, k < (clD c).2.2 → ((clD c).2.1 k).1 = (clD c).1 := by decide +kernel
theorem fl_ok {o i ci k : Nat} (ho : o < 16) (h : (flT.getD o []).any (fun x => decide (x.1 = i) && (decide (x.2.1 = ci) && decide (x.2.2.1 = k))) = true) :
    ci < 13 ∧ k < (clD ci).2.2 ∧ Cond.fieldLink (ownL.getD o "") i (clD ci).1 ((clD ci).2.1 k).2.1 ((clD ci).2.1 k).2.2.1 ∈ tbl := by
  obtain ⟨x, hx, hq⟩ := List.any_eq_true.mp h
  simp only [Bool.and_eq_true, decide_eq_true_eq] at hq
  obtain ⟨h1, h2, h3⟩ := hq
  have hc := List.all_eq_true.mp (List.all_eq_true.mp flC o (List.mem_range.mpr ho)) x hx
  simp only [Bool.and_eq_true, decide_eq_true_eq] at hc
  rw [h1, h2, h3] at hc
  exact ⟨hc.1, hc.2.1, in_tbl (List.mem_of_getElem? hc.2.2) rfl⟩
theorem cs_ok {o i : Nat} {v : Int32} (ho : o < 16) (h : (csT.getD o []).any (fun x => decide (x.1 = i) && decide (x.2.1 = v)) = true) : Cond.constant (ownL.getD o "") i v ∈ tbl := by
  obtain ⟨x, hx, hq⟩ := List.any_eq_true.mp h
  simp only [Bool.and_eq_true, decide_eq_true_eq] at hq
  obtain ⟨h1, h2⟩ := hq
  have hc := List.all_eq_true.mp (List.all_eq_true.mp csC o (List.mem_range.mpr ho)) x hx
  simp only [decide_eq_true_eq] at hc
  rw [h1, h2] at hc
  exact in_tbl (List.mem_of_getElem? hc) rfl
theorem cs_lt {o i : Nat} {v : Int32} (h : (csT.getD o []).any (fun x => decide (x.1 = i) && decide (x.2.1 = v)) = true) : o < 16 := by
  by_cases ho : o < 16
  · exact ho
  · have : csT.getD o [] = [] := by
      rw [List.getD_eq_getElem?_getD, List.getElem?_eq_none (by simp [csT]; omega)]; rfl
    rw [this] at h
    simp at h
theorem lr.get {ad : Nat → Nat} {ls : Array Slot} {n : Nat} {l : List (Option Value)} {i : Nat} {v : Value} (h : lr ad ls n l) (hv : ld l i = some v) : ls[i]? = some (.val (cv ad v)) := by
  refine h.2.2.2 i v ?_
  unfold ld at hv
  split at hv
  · cases hv; assumption
  · cases hv
theorem ld_of {l : List (Option Value)} {i : Nat} {v : Value} (h : l[i]? = some (some v)) : ld l i = some v := by
  unfold ld; rw [h]
theorem ld_to {l : List (Option Value)} {i : Nat} {v : Value} (hv : ld l i = some v) : l[i]? = some (some v) := by
  unfold ld at hv
  split at hv
  · cases hv; assumption
  · cases hv
def fcts (ad : Nat → Nat) (l : List (Option Value)) : List (Nat × Value) := (List.range l.length).filterMap (fun i => (ld l i).map (fun v => (i, cv ad v)))
theorem fcts_mem {ad : Nat → Nat} {l : List (Option Value)} {q : Nat × Value} : q ∈ fcts ad l ↔ ∃ v, ld l q.1 = some v ∧ q.2 = cv ad v := by
  unfold fcts
  rw [List.mem_filterMap]
  constructor
  · rintro ⟨i, -, h⟩
    cases hv : ld l i with
    | none => rw [hv] at h; cases h
    | some v => rw [hv] at h; cases h; exact ⟨v, hv, rfl⟩
  · rintro ⟨v, h1, h2⟩
    have h3 := ld_to h1
    refine ⟨q.1, List.mem_range.mpr (List.getElem?_eq_some_iff.mp h3).1, ?_⟩
    rw [h1]
    show some (q.1, cv ad v) = some q
    rw [← h2]
theorem lr.has {ad : Nat → Nat} {ls : Array Slot} {n : Nat} {l : List (Option Value)} (h : lr ad ls n l) : lv_has ls n (fcts ad l) := by
  refine ⟨h.1, h.2.2.1, fun q hq => ?_⟩
  obtain ⟨v, h1, h2⟩ := fcts_mem.mp hq
  rw [h2]; exact h.get h1
theorem cv_cat (ad : Nat → Nat) (v : Value) : (cv ad v).category = v.category := by cases v <;> rfl
theorem isW_cat {v : Value} : isW (some v) = true ↔ v.category = 2 := by cases v <;> simp [isW, Value.category]
theorem lr.put {ad : Nat → Nat} {ls ls' : Array Slot} {n : Nat} {l l' : List (Option Value)} {i : Nat} {v : Value} (h : lr ad ls n l) (hi : i < n) (hs : sto l i v = some l') (h' : lv_has ls' n ((i, cv ad v) :: (fcts ad l).filter (fun q => !(q.1 == i) && !(q.1 + 1 == i && q.2.category == 2)))) : lr ad ls' n l' := by
  unfold sto at hs
  split at hs
  · cases hs
  · rename_i hw
    cases hs
    refine ⟨h'.1, by rw [List.length_set]; exact h.2.1, h'.2.1, fun j w hj => ?_⟩
    rw [List.getElem?_set] at hj
    by_cases hij : i = j
    · subst hij
      rw [if_pos rfl, if_pos (by rw [h.2.1]; exact hi)] at hj
      cases hj
      exact h'.2.2 _ List.mem_cons_self
    · rw [if_neg hij] at hj
      refine h'.2.2 (j, cv ad w) (List.mem_cons_of_mem _ (List.mem_filter.mpr ⟨fcts_mem.mpr ⟨w, ld_of hj, rfl⟩, ?_⟩))
      have e1 : (j == i) = false := by simp; exact fun z => hij z.symm
      simp only [e1, Bool.not_false, Bool.true_and, Bool.not_eq_true', Bool.and_eq_false_iff]
      by_cases h9 : j + 1 = i
      · right
        have : i - 1 = j := by omega
        rw [this, ld_of hj] at hw
        rw [cv_cat]
        by_cases h10 : w.category = 2
        · rw [isW_cat.mpr h10] at hw; cases hw
        · simpa using h10
      · left; simpa using h9
theorem lr.put2 {ad : Nat → Nat} {ls ls' : Array Slot} {n : Nat} {l l' : List (Option Value)} {i : Nat} {v : Value} (h : lr ad ls n l) (hi : i + 1 < n) (hs : sto l i v = some l') (h' : lv_has ls' n ((i, cv ad v) :: (fcts ad l).filter (fun q => !(q.1 == i) && (!(q.1 == i + 1) && !(q.1 + 1 == i && q.2.category == 2))))) : lr ad ls' n (l'.set (i + 1) none) := by
  unfold sto at hs
  split at hs
  · cases hs
  · rename_i hw
    cases hs
    refine ⟨h'.1, by rw [List.length_set, List.length_set]; exact h.2.1, h'.2.1, fun j w hj => ?_⟩
    rw [List.getElem?_set] at hj
    by_cases hij1 : i + 1 = j
    · rw [if_pos hij1] at hj
      split at hj <;> cases hj
    · rw [if_neg hij1, List.getElem?_set] at hj
      by_cases hij : i = j
      · subst hij
        rw [if_pos rfl, if_pos (by rw [h.2.1]; omega)] at hj
        cases hj
        exact h'.2.2 _ List.mem_cons_self
      · rw [if_neg hij] at hj
        refine h'.2.2 (j, cv ad w) (List.mem_cons_of_mem _ (List.mem_filter.mpr ⟨fcts_mem.mpr ⟨w, ld_of hj, rfl⟩, ?_⟩))
        have e1 : (j == i) = false := by simp; exact fun z => hij z.symm
        have e2 : (j == i + 1) = false := by simp; exact fun z => hij1 z.symm
        simp only [e1, e2, Bool.not_false, Bool.true_and, Bool.not_eq_true', Bool.and_eq_false_iff]
        by_cases h9 : j + 1 = i
        · right
          have : i - 1 = j := by omega
          rw [this, ld_of hj] at hw
          rw [cv_cat]
          by_cases h10 : w.category = 2
          · rw [isW_cat.mpr h10] at hw; cases hw
          · simpa using h10
        · left; simpa using h9
theorem sto_lt {ad : Nat → Nat} {ls : Array Slot} {n : Nat} {l : List (Option Value)} {i : Nat} {v : Value} (h : lr ad ls n l) (hv : ld l i = some v) : i < n := by
  rw [← h.2.1]; exact (List.getElem?_eq_some_iff.mp (ld_to hv)).1
theorem okF_fit {k : Nat} {v : Value} {ty : FieldType} (ad : Nat → Nat) (h : okF k v = true) (hk : kindF ty = k) : narrow ty (cv ad v) = cv ad v ∧ fits ty (cv ad v) = true := by
  subst hk
  cases ty <;> cases v <;> simp [okF, kindF] at h <;> first | exact ⟨rfl, rfl⟩ | (rcases h with rfl | rfl; (· exact (by decide : narrow .boolean (.int 0) = .int 0 ∧ fits .boolean (.int 0) = true)); (· exact (by decide : narrow .boolean (.int 1) = .int 1 ∧ fits .boolean (.int 1) = true)))

set_option maxHeartbeats 4000000 in
theorem V.s_iconst {M : MD} {Z : VZ} {cells slots pc : Nat} {l l' : List (Option Value)} {st st' : List Value} {hs hs' : List ce} {n : Int} {v : Int32} (hd : decode M.2.2.1 pc = .ok (.iconst n, 1)) (hv : Int32.ofInt n = v) (h : some (l, .int v :: st, hs) = some (l', st', hs'))
    (k : V M Z cells slots (pc + 1) l' st' hs') : V M Z cells slots pc l st hs := by
  intro G p la e s m args below meth c ad0 A hA cx ad ls H locs hkp hl hP hD hS
  obtain ⟨hx, hb, hml, hown, hts, hr, hlk, hnm, hK, hX⟩ := id cx
  cases h
  exact lv_iconst hx hb hd hv (k G p la e s m args below meth c ad0 A hA cx ad ls H locs hkp hl hP hD hS)

set_option maxHeartbeats 4000000 in
theorem V.s_bipush {M : MD} {Z : VZ} {cells slots pc : Nat} {l l' : List (Option Value)} {st st' : List Value} {hs hs' : List ce} {n : Int} {v : Int32} (hd : decode M.2.2.1 pc = .ok (.bipush n, 2)) (hv : (Int8.ofInt n).toInt32 = v) (h : some (l, .int v :: st, hs) = some (l', st', hs'))
    (k : V M Z cells slots (pc + 2) l' st' hs') : V M Z cells slots pc l st hs := by
  intro G p la e s m args below meth c ad0 A hA cx ad ls H locs hkp hl hP hD hS
  obtain ⟨hx, hb, hml, hown, hts, hr, hlk, hnm, hK, hX⟩ := id cx
  cases h
  exact lv_bipush hx hb hd hv (k G p la e s m args below meth c ad0 A hA cx ad ls H locs hkp hl hP hD hS)

set_option maxHeartbeats 4000000 in
theorem V.s_sipush {M : MD} {Z : VZ} {cells slots pc : Nat} {l l' : List (Option Value)} {st st' : List Value} {hs hs' : List ce} {n : Int} {v : Int32} (hd : decode M.2.2.1 pc = .ok (.sipush n, 3)) (hv : (Int16.ofInt n).toInt32 = v) (h : some (l, .int v :: st, hs) = some (l', st', hs'))
    (k : V M Z cells slots (pc + 3) l' st' hs') : V M Z cells slots pc l st hs := by
  intro G p la e s m args below meth c ad0 A hA cx ad ls H locs hkp hl hP hD hS
  obtain ⟨hx, hb, hml, hown, hts, hr, hlk, hnm, hK, hX⟩ := id cx
  cases h
  exact lv_sipush hx hb hd hv (k G p la e s m args below meth c ad0 A hA cx ad ls H locs hkp hl hP hD hS)

set_option maxHeartbeats 4000000 in
theorem V.s_ldc {M : MD} {Z : VZ} {cells slots pc : Nat} {l l' : List (Option Value)} {st st' : List Value} {hs hs' : List ce} {i : Nat} {v : Int32} (hd : decode M.2.2.1 pc = .ok (.ldc i, 2)) (hv : Cond.constant (ownL.getD M.1 "") i v ∈ tbl) (h : some (l, .int v :: st, hs) = some (l', st', hs'))
    (k : V M Z cells slots (pc + 2) l' st' hs') : V M Z cells slots pc l st hs := by
  intro G p la e s m args below meth c ad0 A hA cx ad ls H locs hkp hl hP hD hS
  obtain ⟨hx, hb, hml, hown, hts, hr, hlk, hnm, hK, hX⟩ := id cx
  cases h
  exact lv_ldc hx hb hown (hts _ hv) hd (k G p la e s m args below meth c ad0 A hA cx ad ls H locs hkp hl hP hD hS)

set_option maxHeartbeats 4000000 in
theorem V.s_ldc_w {M : MD} {Z : VZ} {cells slots pc : Nat} {l l' : List (Option Value)} {st st' : List Value} {hs hs' : List ce} {i : Nat} {v : Int32} (hd : decode M.2.2.1 pc = .ok (.ldc_w i, 3)) (hv : Cond.constant (ownL.getD M.1 "") i v ∈ tbl) (h : some (l, .int v :: st, hs) = some (l', st', hs'))
    (k : V M Z cells slots (pc + 3) l' st' hs') : V M Z cells slots pc l st hs := by
  intro G p la e s m args below meth c ad0 A hA cx ad ls H locs hkp hl hP hD hS
  obtain ⟨hx, hb, hml, hown, hts, hr, hlk, hnm, hK, hX⟩ := id cx
  cases h
  exact lv_ldcw hx hb hown (hts _ hv) hd (k G p la e s m args below meth c ad0 A hA cx ad ls H locs hkp hl hP hD hS)

set_option maxHeartbeats 4000000 in
theorem V.s_lconst {M : MD} {Z : VZ} {cells slots pc : Nat} {l l' : List (Option Value)} {st st' : List Value} {hs hs' : List ce} {n : Fin 2} (hd : decode M.2.2.1 pc = .ok (.lconst n, 1)) (h : some (l, .long (Int64.ofNat n.val) :: st, hs) = some (l', st', hs'))
    (k : V M Z cells slots (pc + 1) l' st' hs') : V M Z cells slots pc l st hs := by
  intro G p la e s m args below meth c ad0 A hA cx ad ls H locs hkp hl hP hD hS
  obtain ⟨hx, hb, hml, hown, hts, hr, hlk, hnm, hK, hX⟩ := id cx
  cases h
  exact lv_lconst hx hb hd rfl (k G p la e s m args below meth c ad0 A hA cx ad ls H locs hkp hl hP hD hS)

set_option maxHeartbeats 4000000 in
theorem V.s_iload {M : MD} {Z : VZ} {cells slots pc : Nat} {l l' : List (Option Value)} {st st' : List Value} {hs hs' : List ce} {i : Nat} (hd : decode M.2.2.1 pc = .ok (.iload i, 2)) (h : ldI l i st hs = some (l', st', hs'))
    (k : V M Z cells slots (pc + 2) l' st' hs') : V M Z cells slots pc l st hs := by
  intro G p la e s m args below meth c ad0 A hA cx ad ls H locs hkp hl hP hD hS
  obtain ⟨hx, hb, hml, hown, hts, hr, hlk, hnm, hK, hX⟩ := id cx
  unfold ldI at h
  split at h
  · rename_i x hx1
    cases h
    exact lv_iload hx hb hd (hl.get hx1) (k G p la e s m args below meth c ad0 A hA cx ad ls H locs hkp hl hP hD hS)
  · cases h

set_option maxHeartbeats 4000000 in
theorem V.s_iload_n {M : MD} {Z : VZ} {cells slots pc : Nat} {l l' : List (Option Value)} {st st' : List Value} {hs hs' : List ce} {i : Fin 4} (hd : decode M.2.2.1 pc = .ok (.iload_n i, 1)) (h : ldI l i.val st hs = some (l', st', hs'))
    (k : V M Z cells slots (pc + 1) l' st' hs') : V M Z cells slots pc l st hs := by
  intro G p la e s m args below meth c ad0 A hA cx ad ls H locs hkp hl hP hD hS
  obtain ⟨hx, hb, hml, hown, hts, hr, hlk, hnm, hK, hX⟩ := id cx
  unfold ldI at h
  split at h
  · rename_i x hx1
    cases h
    exact lv_iload_n hx hb hd rfl (hl.get hx1) (k G p la e s m args below meth c ad0 A hA cx ad ls H locs hkp hl hP hD hS)
  · cases h

set_option maxHeartbeats 4000000 in
theorem V.s_aload {M : MD} {Z : VZ} {cells slots pc : Nat} {l l' : List (Option Value)} {st st' : List Value} {hs hs' : List ce} {i : Nat} (hd : decode M.2.2.1 pc = .ok (.aload i, 2)) (h : ldA l i st hs = some (l', st', hs'))
    (k : V M Z cells slots (pc + 2) l' st' hs') : V M Z cells slots pc l st hs := by
  intro G p la e s m args below meth c ad0 A hA cx ad ls H locs hkp hl hP hD hS
  obtain ⟨hx, hb, hml, hown, hts, hr, hlk, hnm, hK, hX⟩ := id cx
  unfold ldA at h
  split at h
  · rename_i x hx1
    cases h
    exact lv_aload hx hb hd (hl.get hx1) (k G p la e s m args below meth c ad0 A hA cx ad ls H locs hkp hl hP hD hS)
  · cases h

set_option maxHeartbeats 4000000 in
theorem V.s_aload_n {M : MD} {Z : VZ} {cells slots pc : Nat} {l l' : List (Option Value)} {st st' : List Value} {hs hs' : List ce} {i : Fin 4} (hd : decode M.2.2.1 pc = .ok (.aload_n i, 1)) (h : ldA l i.val st hs = some (l', st', hs'))
    (k : V M Z cells slots (pc + 1) l' st' hs') : V M Z cells slots pc l st hs := by
  intro G p la e s m args below meth c ad0 A hA cx ad ls H locs hkp hl hP hD hS
  obtain ⟨hx, hb, hml, hown, hts, hr, hlk, hnm, hK, hX⟩ := id cx
  unfold ldA at h
  split at h
  · rename_i x hx1
    cases h
    exact lv_aload_n hx hb hd rfl (hl.get hx1) (k G p la e s m args below meth c ad0 A hA cx ad ls H locs hkp hl hP hD hS)
  · cases h

set_option maxHeartbeats 4000000 in
theorem V.s_lload {M : MD} {Z : VZ} {cells slots pc : Nat} {l l' : List (Option Value)} {st st' : List Value} {hs hs' : List ce} {i : Nat} (hd : decode M.2.2.1 pc = .ok (.lload i, 2)) (h : ldL l i st hs = some (l', st', hs'))
    (k : V M Z cells slots (pc + 2) l' st' hs') : V M Z cells slots pc l st hs := by
  intro G p la e s m args below meth c ad0 A hA cx ad ls H locs hkp hl hP hD hS
  obtain ⟨hx, hb, hml, hown, hts, hr, hlk, hnm, hK, hX⟩ := id cx
  unfold ldL at h
  split at h
  · rename_i x hx1
    cases h
    exact lv_lload hx hb hd (hl.get hx1) (k G p la e s m args below meth c ad0 A hA cx ad ls H locs hkp hl hP hD hS)
  · cases h

set_option maxHeartbeats 4000000 in
theorem V.s_lload_n {M : MD} {Z : VZ} {cells slots pc : Nat} {l l' : List (Option Value)} {st st' : List Value} {hs hs' : List ce} {i : Fin 4} (hd : decode M.2.2.1 pc = .ok (.lload_n i, 1)) (h : ldL l i.val st hs = some (l', st', hs'))
    (k : V M Z cells slots (pc + 1) l' st' hs') : V M Z cells slots pc l st hs := by
  intro G p la e s m args below meth c ad0 A hA cx ad ls H locs hkp hl hP hD hS
  obtain ⟨hx, hb, hml, hown, hts, hr, hlk, hnm, hK, hX⟩ := id cx
  unfold ldL at h
  split at h
  · rename_i x hx1
    cases h
    exact lv_lload_n hx hb hd rfl (hl.get hx1) (k G p la e s m args below meth c ad0 A hA cx ad ls H locs hkp hl hP hD hS)
  · cases h

set_option maxHeartbeats 4000000 in
theorem V.s_istore {M : MD} {Z : VZ} {cells slots pc : Nat} {l l' : List (Option Value)} {st st' : List Value} {hs hs' : List ce} {i : Nat} (hi2 : i < M.2.2.2.1) (hd : decode M.2.2.1 pc = .ok (.istore i, 2)) (h : stI l i st hs = some (l', st', hs'))
    (k : V M Z cells slots (pc + 2) l' st' hs') : V M Z cells slots pc l st hs := by
  intro G p la e s m args below meth c ad0 A hA cx ad ls H locs hkp hl hP hD hS
  obtain ⟨hx, hb, hml, hown, hts, hr, hlk, hnm, hK, hX⟩ := id cx
  unfold stI at h
  split at h
  · rename_i x r
    split at h
    · rename_i l2 hx1
      cases h
      exact lv_istore hx hb hd hl.has hi2 rfl (fun ls2 hl2 => (k G p la e s m args below meth c ad0 A hA cx ad ls2 H locs hkp (hl.put hi2 hx1 hl2) hP hD hS))
    · cases h
  · cases h

set_option maxHeartbeats 4000000 in
theorem V.s_istore_n {M : MD} {Z : VZ} {cells slots pc : Nat} {l l' : List (Option Value)} {st st' : List Value} {hs hs' : List ce} {i : Fin 4} (hi2 : i.val < M.2.2.2.1) (hd : decode M.2.2.1 pc = .ok (.istore_n i, 1)) (h : stI l i.val st hs = some (l', st', hs'))
    (k : V M Z cells slots (pc + 1) l' st' hs') : V M Z cells slots pc l st hs := by
  intro G p la e s m args below meth c ad0 A hA cx ad ls H locs hkp hl hP hD hS
  obtain ⟨hx, hb, hml, hown, hts, hr, hlk, hnm, hK, hX⟩ := id cx
  unfold stI at h
  split at h
  · rename_i x r
    split at h
    · rename_i l2 hx1
      cases h
      exact lv_istore_n hx hb hd rfl hl.has hi2 rfl (fun ls2 hl2 => (k G p la e s m args below meth c ad0 A hA cx ad ls2 H locs hkp (hl.put hi2 hx1 hl2) hP hD hS))
    · cases h
  · cases h

set_option maxHeartbeats 4000000 in
theorem V.s_astore {M : MD} {Z : VZ} {cells slots pc : Nat} {l l' : List (Option Value)} {st st' : List Value} {hs hs' : List ce} {i : Nat} (hi2 : i < M.2.2.2.1) (hd : decode M.2.2.1 pc = .ok (.astore i, 2)) (h : stA l i st hs = some (l', st', hs'))
    (k : V M Z cells slots (pc + 2) l' st' hs') : V M Z cells slots pc l st hs := by
  intro G p la e s m args below meth c ad0 A hA cx ad ls H locs hkp hl hP hD hS
  obtain ⟨hx, hb, hml, hown, hts, hr, hlk, hnm, hK, hX⟩ := id cx
  unfold stA at h
  split at h
  · rename_i x r
    split at h
    · rename_i l2 hx1
      cases h
      exact lv_astore hx hb hd hl.has hi2 rfl (fun ls2 hl2 => (k G p la e s m args below meth c ad0 A hA cx ad ls2 H locs hkp (hl.put hi2 hx1 hl2) hP hD hS))
    · cases h
  · cases h

set_option maxHeartbeats 4000000 in
theorem V.s_astore_n {M : MD} {Z : VZ} {cells slots pc : Nat} {l l' : List (Option Value)} {st st' : List Value} {hs hs' : List ce} {i : Fin 4} (hi2 : i.val < M.2.2.2.1) (hd : decode M.2.2.1 pc = .ok (.astore_n i, 1)) (h : stA l i.val st hs = some (l', st', hs'))
    (k : V M Z cells slots (pc + 1) l' st' hs') : V M Z cells slots pc l st hs := by
  intro G p la e s m args below meth c ad0 A hA cx ad ls H locs hkp hl hP hD hS
  obtain ⟨hx, hb, hml, hown, hts, hr, hlk, hnm, hK, hX⟩ := id cx
  unfold stA at h
  split at h
  · rename_i x r
    split at h
    · rename_i l2 hx1
      cases h
      exact lv_astore_n hx hb hd rfl hl.has hi2 rfl (fun ls2 hl2 => (k G p la e s m args below meth c ad0 A hA cx ad ls2 H locs hkp (hl.put hi2 hx1 hl2) hP hD hS))
    · cases h
  · cases h

set_option maxHeartbeats 4000000 in
theorem V.s_lstore_n {M : MD} {Z : VZ} {cells slots pc : Nat} {l l' : List (Option Value)} {st st' : List Value} {hs hs' : List ce} {i : Fin 4} (hi2 : i.val + 1 < M.2.2.2.1) (hd : decode M.2.2.1 pc = .ok (.lstore_n i, 1)) (h : stL l i.val st hs = some (l', st', hs'))
    (k : V M Z cells slots (pc + 1) l' st' hs') : V M Z cells slots pc l st hs := by
  intro G p la e s m args below meth c ad0 A hA cx ad ls H locs hkp hl hP hD hS
  obtain ⟨hx, hb, hml, hown, hts, hr, hlk, hnm, hK, hX⟩ := id cx
  unfold stL at h
  split at h
  · rename_i x r
    split at h
    · rename_i l2 hx1
      cases h
      exact lv_lstore_n hx hb hd rfl hl.has hi2 rfl (fun ls2 hl2 => (k G p la e s m args below meth c ad0 A hA cx ad ls2 H locs hkp (hl.put2 hi2 hx1 hl2) hP hD hS))
    · cases h
  · cases h

set_option maxHeartbeats 4000000 in
theorem V.s_iinc {M : MD} {Z : VZ} {cells slots pc : Nat} {l l' : List (Option Value)} {st st' : List Value} {hs hs' : List ce} {i : Nat} {n : Int} {v : Int32} (hd : decode M.2.2.1 pc = .ok (.iinc i n, 3)) (hv : Int32.ofInt n = v) (h : inc l i v st hs = some (l', st', hs'))
    (k : V M Z cells slots (pc + 3) l' st' hs') : V M Z cells slots pc l st hs := by
  intro G p la e s m args below meth c ad0 A hA cx ad ls H locs hkp hl hP hD hS
  obtain ⟨hx, hb, hml, hown, hts, hr, hlk, hnm, hK, hX⟩ := id cx
  unfold inc at h
  split at h
  · rename_i x hx1
    split at h
    · rename_i l2 hx2
      cases h
      have hm := fcts_mem (ad := ad) (l := l) (q := (i, .int x)) |>.mpr ⟨.int x, hx1, rfl⟩
      obtain ⟨kq, hkq⟩ := List.getElem?_of_mem hm
      exact lv_iinc (v := x + v) hx hb hd hl.has hkq (by rw [hv]) (sto_lt hl hx1) rfl (fun ls2 hl2 => (k G p la e s m args below meth c ad0 A hA cx ad ls2 H locs hkp (hl.put (v := .int (x + v)) (sto_lt hl hx1) hx2 hl2) hP hD hS))
    · cases h
  · cases h

theorem V.s_goto {M : MD} {Z : VZ} {cells slots pc tgt : Nat} {l : List (Option Value)} {st : List Value} {hs : List ce} {off : Int} (hd : decode M.2.2.1 pc = .ok (.goto off, 3)) (ht : (pc : Int) + off = (tgt : Int))
    (k : V M Z cells slots tgt l st hs) : V M Z cells slots pc l st hs := by
  intro G p la e s m args below meth c ad0 A hA cx ad ls H locs hkp hl hP hD hS
  obtain ⟨hx, hb, hml, hown, hts, hr, hlk, hnm, hK, hX⟩ := id cx
  exact lv_goto hx hb hd ht (k G p la e s m args below meth c ad0 A hA cx ad ls H locs hkp hl hP hD hS)

set_option maxHeartbeats 4000000 in
theorem V.s_getfield {M : MD} {Z : VZ} {cells slots pc : Nat} {l l' : List (Option Value)} {st st' : List Value} {hs hs' : List ce} {i a b : Nat} (ha : a < 13) (hbn : b < (clD a).2.2) (hlink : Cond.fieldLink (ownL.getD M.1 "") i (clD a).1 ((clD a).2.1 b).2.1 ((clD a).2.1 b).2.2.1 ∈ tbl) (hd : decode M.2.2.1 pc = .ok (.getfield i, 3)) (h : getF a b l st hs = some (l', st', hs'))
    (k : V M Z cells slots (pc + 3) l' st' hs') : V M Z cells slots pc l st hs := by
  intro G p la e s m args below meth c ad0 A hA cx ad ls H locs hkp hl hP hD hS
  obtain ⟨hx, hb, hml, hown, hts, hr, hlk, hnm, hK, hX⟩ := id cx
  unfold getF at h
  split at h
  · rename_i h0 r
    split at h
    · rename_i ci fs he
      split at h
      · rename_i hci
        split at h
        · rename_i v hv
          cases h
          have hci2 : ci = a := Nat.eq_of_beq_eq_true hci
          subst hci2
          exact va_get (D := G.1) (ci := ci) (fs := fs.map (cv ad)) (C := (clD ci).1) (T := (clD ci).2.1) (N := (clD ci).2.2) hx hb hts (clI ci ha) hown hK hP h0 (cz_o he ha) (clG ci ha) b hbn (hts _ hlink) (fun x h9 => by rw [clS ci ha b hbn] at h9; exact h9) (v := cv ad v) (by rw [List.getElem?_map, hv]; rfl) hd (k G p la e s m args below meth c ad0 A hA cx ad ls H locs hkp hl hP hD hS)
        · cases h
      · cases h
    · cases h
  · cases h

theorem cE_setF (G : GX) (ad : Nat → Nat) (ci : Nat) (fs : List Value) (b : Nat) (v : Value) (hc : ci < 13) : (.inr (ci, (fs.map (cv ad)).set b (cv ad v)) : va_E) = cE G ad (.inr (ci, fs.set b v)) := by
  rw [cE_o hc, List.map_set]

set_option maxHeartbeats 4000000 in
theorem V.s_putfield {M : MD} {Z : VZ} {cells slots pc : Nat} {l l' : List (Option Value)} {st st' : List Value} {hs hs' : List ce} {i a b kd : Nat} (ha : a < 13) (hbn : b < (clD a).2.2) (hlink : Cond.fieldLink (ownL.getD M.1 "") i (clD a).1 ((clD a).2.1 b).2.1 ((clD a).2.1 b).2.2.1 ∈ tbl) (hkd : kindF (clY a b) = kd) (hfin : ((clD a).2.1 b).2.2.2 = false ∨ (M.2.1.name = "<init>" ∧ ((clD a).2.1 b).1 = ownL.getD M.1 "")) (hd : decode M.2.2.1 pc = .ok (.putfield i, 3)) (h : putF a b kd l st hs = some (l', st', hs'))
    (k : V M Z cells slots (pc + 3) l' st' hs') : V M Z cells slots pc l st hs := by
  intro G p la e s m args below meth c ad0 A hA cx ad ls H locs hkp hl hP hD hS
  obtain ⟨hx, hb, hml, hown, hts, hr, hlk, hnm, hK, hX⟩ := id cx
  unfold putF at h
  split at h
  · rename_i v h0 r
    split at h
    · rename_i ci fs he
      split at h
      · rename_i hci hok hlt
        cases h
        have hci2 : ci = a := Nat.eq_of_beq_eq_true hci
        subst hci2
        have hfit := okF_fit ad hok hkd
        have hlen : b < (fs.map (cv ad)).length := by
          rw [List.length_map]
          exact Nat.le_of_ble_eq_true hlt
        have hfin : ((clD ci).2.1 b).2.2.2 = false ∨ (((clD ci).2.1 b).2.2.2 = true ∧ M.2.1.name = "<init>" ∧ ((clD ci).2.1 b).1 = ownL.getD M.1 "") := by
          rcases hfin with h9 | h9
          · exact Or.inl h9
          · cases hf : ((clD ci).2.1 b).2.2.2 with
            | true => exact Or.inr ⟨rfl, h9⟩
            | false => exact Or.inl rfl
        rcases hfin with hfin | ⟨hft, hi1, hi2⟩
        · exact va_put (D := G.1) (ci := ci) (v := cv ad v) (ty := clY ci b) (fs := fs.map (cv ad)) (C := (clD ci).1) (T := (clD ci).2.1) (N := (clD ci).2.2) hx hb hts (clI ci ha) (clY ci) (clT ci ha) (clN ci ha) hown hK hP hD hS h0 (cz_o he ha) (clG ci ha) b hbn (hts _ hlink) (fun x h9 => by rw [clS ci ha b hbn] at h9; exact h9) hfin (clT ci ha b hbn) hfit.1 hfit.2 hlen hd (fun H1 locs1 hP1 hD1 hS1 => k G p la e s m args below meth c ad0 A hA cx ad ls H1 locs1 hkp hl (by rw [cE_setF _ _ _ _ _ _ ha, cz_set] at hP1; exact hP1) (by rw [cE_setF _ _ _ _ _ _ ha, cz_set] at hD1; exact hD1) hS1)
        · exact va_putF (D := G.1) (ci := ci) (v := cv ad v) (ty := clY ci b) (fs := fs.map (cv ad)) (C := (clD ci).1) (T := (clD ci).2.1) (N := (clD ci).2.2) hx hb hts (clI ci ha) (clY ci) (clT ci ha) (clN ci ha) hown hK hP hD hS h0 (cz_o he ha) (clG ci ha) b hbn (hts _ hlink) (fun x h9 => by rw [clS ci ha b hbn] at h9; exact h9) hft (hnm.1 hi1) hi2 (clT ci ha b hbn) hfit.1 hfit.2 hlen hd (fun H1 locs1 hP1 hD1 hS1 => k G p la e s m args below meth c ad0 A hA cx ad ls H1 locs1 hkp hl (by rw [cE_setF _ _ _ _ _ _ ha, cz_set] at hP1; exact hP1) (by rw [cE_setF _ _ _ _ _ _ ha, cz_set] at hD1; exact hD1) hS1)
      · cases h
    · cases h
  · cases h

set_option maxHeartbeats 4000000 in
theorem V.s_alen {M : MD} {Z : VZ} {cells slots pc : Nat} {l l' : List (Option Value)} {st st' : List Value} {hs hs' : List ce} (hd : decode M.2.2.1 pc = .ok (.arraylength, 1)) (h : alen l st hs = some (l', st', hs'))
    (k : V M Z cells slots (pc + 1) l' st' hs') : V M Z cells slots pc l st hs := by
  intro G p la e s m args below meth c ad0 A hA cx ad ls H locs hkp hl hP hD hS
  obtain ⟨hx, hb, hml, hown, hts, hr, hlk, hnm, hK, hX⟩ := id cx
  unfold alen at h
  split at h
  · rename_i h0 r
    split at h
    · rename_i t x he
      split at h
      · rename_i ht
        cases h
        have ht5 : t < 5 := Nat.le_of_ble_eq_true ht
        have hty : ∃ ty, (tysG G)[t]? = some (G.2.1 t, ty) := by
          match t, ht5 with
          | 0, _ => exact ⟨_, rfl⟩
          | 1, _ => exact ⟨_, rfl⟩
          | 2, _ => exact ⟨_, rfl⟩
          | 3, _ => exact ⟨_, rfl⟩
          | 4, _ => exact ⟨_, rfl⟩
        obtain ⟨ty, hty⟩ := hty
        exact va_alen (v := Int32.ofNat x.1) hx hb hK hP h0 t (cz_at he) hty rfl hd (k G p la e s m args below meth c ad0 A hA cx ad ls H locs hkp hl hP hD hS)
      · cases h
    · cases h
  · cases h

set_option maxHeartbeats 4000000 in
theorem V.s_iadd {M : MD} {Z : VZ} {cells slots pc : Nat} {l l' : List (Option Value)} {st st' : List Value} {hs hs' : List ce} {f : Int32 → Int32 → Int32} (hf : bop .iadd = some f) (hd : decode M.2.2.1 pc = .ok (.iadd, 1)) (h : bin f l st hs = some (l', st', hs'))
    (k : V M Z cells slots (pc + 1) l' st' hs') : V M Z cells slots pc l st hs := by
  intro G p la e s m args below meth c ad0 A hA cx ad ls H locs hkp hl hP hD hS
  obtain ⟨hx, hb, hml, hown, hts, hr, hlk, hnm, hK, hX⟩ := id cx
  cases hf
  unfold bin at h
  split at h
  · cases h
    exact lv_iadd hx hb hd (k G p la e s m args below meth c ad0 A hA cx ad ls H locs hkp hl hP hD hS)
  · cases h

set_option maxHeartbeats 4000000 in
theorem V.s_isub {M : MD} {Z : VZ} {cells slots pc : Nat} {l l' : List (Option Value)} {st st' : List Value} {hs hs' : List ce} {f : Int32 → Int32 → Int32} (hf : bop .isub = some f) (hd : decode M.2.2.1 pc = .ok (.isub, 1)) (h : bin f l st hs = some (l', st', hs'))
    (k : V M Z cells slots (pc + 1) l' st' hs') : V M Z cells slots pc l st hs := by
  intro G p la e s m args below meth c ad0 A hA cx ad ls H locs hkp hl hP hD hS
  obtain ⟨hx, hb, hml, hown, hts, hr, hlk, hnm, hK, hX⟩ := id cx
  cases hf
  unfold bin at h
  split at h
  · cases h
    exact lv_isub hx hb hd (k G p la e s m args below meth c ad0 A hA cx ad ls H locs hkp hl hP hD hS)
  · cases h

set_option maxHeartbeats 4000000 in
theorem V.s_imul {M : MD} {Z : VZ} {cells slots pc : Nat} {l l' : List (Option Value)} {st st' : List Value} {hs hs' : List ce} {f : Int32 → Int32 → Int32} (hf : bop .imul = some f) (hd : decode M.2.2.1 pc = .ok (.imul, 1)) (h : bin f l st hs = some (l', st', hs'))
    (k : V M Z cells slots (pc + 1) l' st' hs') : V M Z cells slots pc l st hs := by
  intro G p la e s m args below meth c ad0 A hA cx ad ls H locs hkp hl hP hD hS
  obtain ⟨hx, hb, hml, hown, hts, hr, hlk, hnm, hK, hX⟩ := id cx
  cases hf
  unfold bin at h
  split at h
  · cases h
    exact lv_imul hx hb hd (k G p la e s m args below meth c ad0 A hA cx ad ls H locs hkp hl hP hD hS)
  · cases h

set_option maxHeartbeats 4000000 in
theorem V.s_iand {M : MD} {Z : VZ} {cells slots pc : Nat} {l l' : List (Option Value)} {st st' : List Value} {hs hs' : List ce} {f : Int32 → Int32 → Int32} (hf : bop .iand = some f) (hd : decode M.2.2.1 pc = .ok (.iand, 1)) (h : bin f l st hs = some (l', st', hs'))
    (k : V M Z cells slots (pc + 1) l' st' hs') : V M Z cells slots pc l st hs := by
  intro G p la e s m args below meth c ad0 A hA cx ad ls H locs hkp hl hP hD hS
  obtain ⟨hx, hb, hml, hown, hts, hr, hlk, hnm, hK, hX⟩ := id cx
  cases hf
  unfold bin at h
  split at h
  · cases h
    exact lv_iand hx hb hd (k G p la e s m args below meth c ad0 A hA cx ad ls H locs hkp hl hP hD hS)
  · cases h

set_option maxHeartbeats 4000000 in
theorem V.s_ior {M : MD} {Z : VZ} {cells slots pc : Nat} {l l' : List (Option Value)} {st st' : List Value} {hs hs' : List ce} {f : Int32 → Int32 → Int32} (hf : bop .ior = some f) (hd : decode M.2.2.1 pc = .ok (.ior, 1)) (h : bin f l st hs = some (l', st', hs'))
    (k : V M Z cells slots (pc + 1) l' st' hs') : V M Z cells slots pc l st hs := by
  intro G p la e s m args below meth c ad0 A hA cx ad ls H locs hkp hl hP hD hS
  obtain ⟨hx, hb, hml, hown, hts, hr, hlk, hnm, hK, hX⟩ := id cx
  cases hf
  unfold bin at h
  split at h
  · cases h
    exact lv_ior hx hb hd (k G p la e s m args below meth c ad0 A hA cx ad ls H locs hkp hl hP hD hS)
  · cases h

set_option maxHeartbeats 4000000 in
theorem V.s_ixor {M : MD} {Z : VZ} {cells slots pc : Nat} {l l' : List (Option Value)} {st st' : List Value} {hs hs' : List ce} {f : Int32 → Int32 → Int32} (hf : bop .ixor = some f) (hd : decode M.2.2.1 pc = .ok (.ixor, 1)) (h : bin f l st hs = some (l', st', hs'))
    (k : V M Z cells slots (pc + 1) l' st' hs') : V M Z cells slots pc l st hs := by
  intro G p la e s m args below meth c ad0 A hA cx ad ls H locs hkp hl hP hD hS
  obtain ⟨hx, hb, hml, hown, hts, hr, hlk, hnm, hK, hX⟩ := id cx
  cases hf
  unfold bin at h
  split at h
  · cases h
    exact lv_ixor hx hb hd (k G p la e s m args below meth c ad0 A hA cx ad ls H locs hkp hl hP hD hS)
  · cases h

set_option maxHeartbeats 4000000 in
theorem V.s_ishl {M : MD} {Z : VZ} {cells slots pc : Nat} {l l' : List (Option Value)} {st st' : List Value} {hs hs' : List ce} {f : Int32 → Int32 → Int32} (hf : bop .ishl = some f) (hd : decode M.2.2.1 pc = .ok (.ishl, 1)) (h : bin f l st hs = some (l', st', hs'))
    (k : V M Z cells slots (pc + 1) l' st' hs') : V M Z cells slots pc l st hs := by
  intro G p la e s m args below meth c ad0 A hA cx ad ls H locs hkp hl hP hD hS
  obtain ⟨hx, hb, hml, hown, hts, hr, hlk, hnm, hK, hX⟩ := id cx
  cases hf
  unfold bin at h
  split at h
  · cases h
    exact lv_ishl hx hb hd (k G p la e s m args below meth c ad0 A hA cx ad ls H locs hkp hl hP hD hS)
  · cases h

set_option maxHeartbeats 4000000 in
theorem V.s_ishr {M : MD} {Z : VZ} {cells slots pc : Nat} {l l' : List (Option Value)} {st st' : List Value} {hs hs' : List ce} {f : Int32 → Int32 → Int32} (hf : bop .ishr = some f) (hd : decode M.2.2.1 pc = .ok (.ishr, 1)) (h : bin f l st hs = some (l', st', hs'))
    (k : V M Z cells slots (pc + 1) l' st' hs') : V M Z cells slots pc l st hs := by
  intro G p la e s m args below meth c ad0 A hA cx ad ls H locs hkp hl hP hD hS
  obtain ⟨hx, hb, hml, hown, hts, hr, hlk, hnm, hK, hX⟩ := id cx
  cases hf
  unfold bin at h
  split at h
  · cases h
    exact lv_ishr hx hb hd (k G p la e s m args below meth c ad0 A hA cx ad ls H locs hkp hl hP hD hS)
  · cases h

set_option maxHeartbeats 4000000 in
theorem V.s_iushr {M : MD} {Z : VZ} {cells slots pc : Nat} {l l' : List (Option Value)} {st st' : List Value} {hs hs' : List ce} {f : Int32 → Int32 → Int32} (hf : bop .iushr = some f) (hd : decode M.2.2.1 pc = .ok (.iushr, 1)) (h : bin f l st hs = some (l', st', hs'))
    (k : V M Z cells slots (pc + 1) l' st' hs') : V M Z cells slots pc l st hs := by
  intro G p la e s m args below meth c ad0 A hA cx ad ls H locs hkp hl hP hD hS
  obtain ⟨hx, hb, hml, hown, hts, hr, hlk, hnm, hK, hX⟩ := id cx
  cases hf
  unfold bin at h
  split at h
  · cases h
    exact lv_iushr hx hb hd rfl (k G p la e s m args below meth c ad0 A hA cx ad ls H locs hkp hl hP hD hS)
  · cases h

set_option maxHeartbeats 4000000 in
theorem V.s_i2b {M : MD} {Z : VZ} {cells slots pc : Nat} {l l' : List (Option Value)} {st st' : List Value} {hs hs' : List ce} (hd : decode M.2.2.1 pc = .ok (.i2b, 1)) (h : un jB l st hs = some (l', st', hs'))
    (k : V M Z cells slots (pc + 1) l' st' hs') : V M Z cells slots pc l st hs := by
  intro G p la e s m args below meth c ad0 A hA cx ad ls H locs hkp hl hP hD hS
  obtain ⟨hx, hb, hml, hown, hts, hr, hlk, hnm, hK, hX⟩ := id cx
  unfold un at h
  split at h
  · cases h
    exact lv_i2b hx hb hd rfl (k G p la e s m args below meth c ad0 A hA cx ad ls H locs hkp hl hP hD hS)
  · cases h

set_option maxHeartbeats 4000000 in
theorem V.s_i2c {M : MD} {Z : VZ} {cells slots pc : Nat} {l l' : List (Option Value)} {st st' : List Value} {hs hs' : List ce} (hd : decode M.2.2.1 pc = .ok (.i2c, 1)) (h : un jC l st hs = some (l', st', hs'))
    (k : V M Z cells slots (pc + 1) l' st' hs') : V M Z cells slots pc l st hs := by
  intro G p la e s m args below meth c ad0 A hA cx ad ls H locs hkp hl hP hD hS
  obtain ⟨hx, hb, hml, hown, hts, hr, hlk, hnm, hK, hX⟩ := id cx
  unfold un at h
  split at h
  · cases h
    exact lv_i2c hx hb hd rfl (k G p la e s m args below meth c ad0 A hA cx ad ls H locs hkp hl hP hD hS)
  · cases h

set_option maxHeartbeats 4000000 in
theorem V.s_dup {M : MD} {Z : VZ} {cells slots pc : Nat} {l l' : List (Option Value)} {st st' : List Value} {hs hs' : List ce} (hd : decode M.2.2.1 pc = .ok (.dup, 1)) (h : dup1 l st hs = some (l', st', hs'))
    (k : V M Z cells slots (pc + 1) l' st' hs') : V M Z cells slots pc l st hs := by
  intro G p la e s m args below meth c ad0 A hA cx ad ls H locs hkp hl hP hD hS
  obtain ⟨hx, hb, hml, hown, hts, hr, hlk, hnm, hK, hX⟩ := id cx
  unfold dup1 at h
  split at h
  · cases h
    exact lv_dup hx hb hd rfl (k G p la e s m args below meth c ad0 A hA cx ad ls H locs hkp hl hP hD hS)
  · cases h
    exact lv_dup hx hb hd rfl (k G p la e s m args below meth c ad0 A hA cx ad ls H locs hkp hl hP hD hS)
  · cases h

set_option maxHeartbeats 4000000 in
theorem V.s_dup2 {M : MD} {Z : VZ} {cells slots pc : Nat} {l l' : List (Option Value)} {st st' : List Value} {hs hs' : List ce} (hd : decode M.2.2.1 pc = .ok (.dup2, 1)) (h : dup22 l st hs = some (l', st', hs'))
    (k : V M Z cells slots (pc + 1) l' st' hs') : V M Z cells slots pc l st hs := by
  intro G p la e s m args below meth c ad0 A hA cx ad ls H locs hkp hl hP hD hS
  obtain ⟨hx, hb, hml, hown, hts, hr, hlk, hnm, hK, hX⟩ := id cx
  unfold dup22 at h
  split at h
  · cases h
    exact lv_dup2_11 hx hb hd rfl rfl (k G p la e s m args below meth c ad0 A hA cx ad ls H locs hkp hl hP hD hS)
  · cases h
    exact lv_dup2_11 hx hb hd rfl rfl (k G p la e s m args below meth c ad0 A hA cx ad ls H locs hkp hl hP hD hS)
  · cases h

set_option maxHeartbeats 4000000 in
theorem V.s_pop {M : MD} {Z : VZ} {cells slots pc : Nat} {l l' : List (Option Value)} {st st' : List Value} {hs hs' : List ce} (hd : decode M.2.2.1 pc = .ok (.pop, 1)) (h : pop1 l st hs = some (l', st', hs'))
    (k : V M Z cells slots (pc + 1) l' st' hs') : V M Z cells slots pc l st hs := by
  intro G p la e s m args below meth c ad0 A hA cx ad ls H locs hkp hl hP hD hS
  obtain ⟨hx, hb, hml, hown, hts, hr, hlk, hnm, hK, hX⟩ := id cx
  unfold pop1 at h
  split at h
  · cases h
    exact lv_pop hx hb hd rfl (k G p la e s m args below meth c ad0 A hA cx ad ls H locs hkp hl hP hD hS)
  · cases h
    exact lv_pop hx hb hd rfl (k G p la e s m args below meth c ad0 A hA cx ad ls H locs hkp hl hP hD hS)
  · cases h

set_option maxHeartbeats 4000000 in
theorem V.s_ladd {M : MD} {Z : VZ} {cells slots pc : Nat} {l l' : List (Option Value)} {st st' : List Value} {hs hs' : List ce} (hd : decode M.2.2.1 pc = .ok (.ladd, 1)) (h : lad l st hs = some (l', st', hs'))
    (k : V M Z cells slots (pc + 1) l' st' hs') : V M Z cells slots pc l st hs := by
  intro G p la e s m args below meth c ad0 A hA cx ad ls H locs hkp hl hP hD hS
  obtain ⟨hx, hb, hml, hown, hts, hr, hlk, hnm, hK, hX⟩ := id cx
  unfold lad at h
  split at h
  · cases h
    exact lv_ladd hx hb hd (k G p la e s m args below meth c ad0 A hA cx ad ls H locs hkp hl hP hD hS)
  · cases h

set_option maxHeartbeats 4000000 in
theorem V.s_lshl {M : MD} {Z : VZ} {cells slots pc : Nat} {l l' : List (Option Value)} {st st' : List Value} {hs hs' : List ce} (hd : decode M.2.2.1 pc = .ok (.lshl, 1)) (h : lsh l st hs = some (l', st', hs'))
    (k : V M Z cells slots (pc + 1) l' st' hs') : V M Z cells slots pc l st hs := by
  intro G p la e s m args below meth c ad0 A hA cx ad ls H locs hkp hl hP hD hS
  obtain ⟨hx, hb, hml, hown, hts, hr, hlk, hnm, hK, hX⟩ := id cx
  unfold lsh at h
  split at h
  · cases h
    exact lv_lshl hx hb hd rfl (k G p la e s m args below meth c ad0 A hA cx ad ls H locs hkp hl hP hD hS)
  · cases h

set_option maxHeartbeats 4000000 in
theorem V.s_lcmp {M : MD} {Z : VZ} {cells slots pc : Nat} {l l' : List (Option Value)} {st st' : List Value} {hs hs' : List ce} (hd : decode M.2.2.1 pc = .ok (.lcmp, 1)) (h : lcm l st hs = some (l', st', hs'))
    (k : V M Z cells slots (pc + 1) l' st' hs') : V M Z cells slots pc l st hs := by
  intro G p la e s m args below meth c ad0 A hA cx ad ls H locs hkp hl hP hD hS
  obtain ⟨hx, hb, hml, hown, hts, hr, hlk, hnm, hK, hX⟩ := id cx
  unfold lcm at h
  split at h
  · cases h
    exact W.lcmp hx hb hd (k G p la e s m args below meth c ad0 A hA cx ad ls H locs hkp hl hP hD hS)
  · cases h

set_option maxHeartbeats 8000000 in
theorem V.one {M : MD} {Z : VZ} {cells slots pc : Nat} {q : RI} {l l' : List (Option Value)} {st st' : List Value} {hs hs' : List ce} (hok : okI M pc q = true) (h : stp q l st hs = some (l', st', hs')) (k : V M Z cells slots (nxI pc q) l' st' hs') : V M Z cells slots pc l st hs := by
  obtain ⟨i, a, b, kd, v⟩ := q
  unfold okI at hok
  rw [Bool.and_eq_true, decide_eq_true_eq] at hok
  obtain ⟨hd, hok⟩ := hok
  cases i
  case iconst n => exact V.s_iconst hd (of_decide_eq_true hok) h k
  case bipush n => exact V.s_bipush hd (of_decide_eq_true hok) h k
  case sipush n => exact V.s_sipush hd (of_decide_eq_true hok) h k
  case ldc n => exact V.s_ldc hd (cs_ok (cs_lt hok) hok) h k
  case ldc_w n => exact V.s_ldc_w hd (cs_ok (cs_lt hok) hok) h k
  case lconst n => exact V.s_lconst hd h k
  case iload n => exact V.s_iload hd h k
  case iload_n n => exact V.s_iload_n hd h k
  case aload n => exact V.s_aload hd h k
  case aload_n n => exact V.s_aload_n hd h k
  case lload n => exact V.s_lload hd h k
  case lload_n n => exact V.s_lload_n hd h k
  case istore n => exact V.s_istore (of_decide_eq_true hok) hd h k
  case istore_n n => exact V.s_istore_n (of_decide_eq_true hok) hd h k
  case astore n => exact V.s_astore (of_decide_eq_true hok) hd h k
  case astore_n n => exact V.s_astore_n (of_decide_eq_true hok) hd h k
  case lstore_n n => exact V.s_lstore_n (of_decide_eq_true hok) hd h k
  case iinc n v => exact V.s_iinc hd (of_decide_eq_true hok) h k
  case goto off => (cases h; exact V.s_goto hd (of_decide_eq_true hok) k)
  case getfield n => (rw [Bool.and_eq_true, decide_eq_true_eq] at hok; obtain ⟨h1, h2, h3⟩ := fl_ok hok.1 hok.2; exact V.s_getfield h1 h2 h3 hd h k)
  case putfield n => (simp only [Bool.and_eq_true, decide_eq_true_eq, Bool.or_eq_true] at hok; obtain ⟨h0, h1, h2, h3⟩ := hok; obtain ⟨h4, h5, h6⟩ := fl_ok (o := M.1) (i := n) (ci := a) (k := b) h0 (by simpa only [Bool.and_eq_true, decide_eq_true_eq] using h1); exact V.s_putfield h4 h5 h6 h2 h3 hd h k)
  case arraylength  => exact V.s_alen hd h k
  case iadd  => exact V.s_iadd rfl hd h k
  case isub  => exact V.s_isub rfl hd h k
  case imul  => exact V.s_imul rfl hd h k
  case iand  => exact V.s_iand rfl hd h k
  case ior  => exact V.s_ior rfl hd h k
  case ixor  => exact V.s_ixor rfl hd h k
  case ishl  => exact V.s_ishl rfl hd h k
  case ishr  => exact V.s_ishr rfl hd h k
  case iushr  => exact V.s_iushr rfl hd h k
  case i2b  => exact V.s_i2b hd h k
  case i2c  => exact V.s_i2c hd h k
  case dup  => exact V.s_dup hd h k
  case dup2  => exact V.s_dup2 hd h k
  case pop  => exact V.s_pop hd h k
  case ladd  => exact V.s_ladd hd h k
  case lshl  => exact V.s_lshl hd h k
  case lcmp  => exact V.s_lcmp hd h k
  all_goals (first | (exact absurd h (by simp [stp, bop])))
theorem V.run : ∀ (qs : List RI) {M : MD} {Z : VZ} {cells slots pc : Nat} {l l' : List (Option Value)} {st st' : List Value} {hs hs' : List ce}, okB M pc qs = true → runB qs l st hs = some (l', st', hs') → V M Z cells slots (endB pc qs) l' st' hs' → V M Z cells slots pc l st hs := by
  intro qs
  induction qs with
  | nil =>
    intro M Z cells slots pc l l' st st' hs hs' _ h k
    cases h
    exact k
  | cons q qs ih =>
    intro M Z cells slots pc l l' st st' hs hs' hok h k
    rw [okB, Bool.and_eq_true] at hok
    rw [runB] at h
    split at h
    · rename_i l1 st1 hs1 h1
      exact V.one hok.1 h1 (ih hok.2 h k)
    · cases h
