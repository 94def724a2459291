/-! CALLS: the callee's world is a part of the caller's, by a renaming of places -/
def rE (ρ : Nat → Nat) : ce → ce
  | .inl x => .inl x
  | .inr (ci, fs) => .inr (ci, fs.map (cv ρ))
theorem cv_cv (f g : Nat → Nat) (v : Value) : cv f (cv g v) = cv (fun j => f (g j)) v := by cases v <;> rfl
theorem cE_rE (G : GX) (ad ρ : Nat → Nat) (c : ce) : cE G ad (rE ρ c) = cE G (fun j => ad (ρ j)) c := by
  rcases c with ⟨t, x⟩ | ⟨ci, fs⟩
  · rfl
  · have h : (fs.map (cv ρ)).map (cv ad) = fs.map (cv (fun j => ad (ρ j))) := by
      rw [List.map_map]
      apply List.map_congr_left
      intro v _
      exact cv_cv ad ρ v
    simp only [rE, cE, h, List.length_map]
theorem rE_id (c : ce) : rE (fun j => j) c = c := by
  rcases c with ⟨t, n, x⟩ | ⟨ci, fs⟩
  · rfl
  · have : ∀ v : Value, cv (fun j => j) v = v := fun v => by cases v <;> rfl
    have h2 : cv (fun j => j) = id := funext this
    simp [rE, h2]
def upds : List ce → List Nat → List ce → List ce
  | hs, i :: is, c :: cs => upds (hs.set i c) is cs
  | hs, _, _ => hs
theorem upds_ne : ∀ (is : List Nat) (cs hs : List ce) (k : Nat), k ∉ is → (upds hs is cs)[k]? = hs[k]? := by
  intro is
  induction is with
  | nil => intro cs hs k _; simp [upds]
  | cons i is ih =>
    intro cs hs k hk
    cases cs with
    | nil => simp [upds]
    | cons c cs =>
      rw [upds, ih _ _ _ (fun h => hk (List.mem_cons_of_mem _ h)), List.getElem?_set_ne]
      intro h; exact hk (by rw [h]; exact List.mem_cons_self)
theorem upds_len : ∀ (is : List Nat) (cs hs : List ce), (upds hs is cs).length = hs.length := by
  intro is
  induction is with
  | nil => intro cs hs; simp [upds]
  | cons i is ih =>
    intro cs hs
    cases cs with
    | nil => simp [upds]
    | cons c cs => rw [upds, ih, List.length_set]
theorem upds_at : ∀ (is : List Nat) (cs hs : List ce), va_nd is = true → (∀ i ∈ is, i < hs.length) → ∀ (j i : Nat) (c : ce), is[j]? = some i → cs[j]? = some c → (upds hs is cs)[i]? = some c := by
  intro is
  induction is with
  | nil => intro cs hs _ _ j i c h; simp at h
  | cons i0 is ih =>
    intro cs hs hn hl j i c hi hc
    rw [va_nd, Bool.and_eq_true, decide_eq_true_eq] at hn
    cases cs with
    | nil => simp at hc
    | cons c0 cs =>
      rw [upds]
      cases j with
      | zero =>
        simp at hi hc
        subst hi; subst hc
        rw [upds_ne _ _ _ _ hn.1, List.getElem?_set_self (hl i0 List.mem_cons_self)]
      | succ j =>
        simp at hi hc
        refine ih cs _ hn.2 (fun i hi => ?_) j i c hi hc
        rw [List.length_set]
        exact hl i (List.mem_cons_of_mem _ hi)
/-- the callee's world lies in the caller's -/
def Sub (ρ : Nat → Nat) (hc hs : List ce) : Prop := (∀ i j, i < hc.length → j < hc.length → ρ i = ρ j → i = j) ∧ ∀ (j : Nat) (c : ce), hc[j]? = some c → hs[ρ j]? = some (rE ρ c)
/-- what the caller's world is behind the call -/
def Aft (ρ : Nat → Nat) (hc hc' hs hs' : List ce) : Prop := hc'.length = hc.length ∧ (∀ (j : Nat) (c : ce), hc'[j]? = some c → hs'[ρ j]? = some (rE ρ c)) ∧ ∀ k, (∀ j, j < hc.length → ρ j ≠ k) → hs'[k]? = hs[k]?
section CALL
variable {G : GX} {ad ρ : Nat → Nat} {hs hc : List ce} {H : Heap} {A : Nat → Prop}
theorem Sub.cell (h : Sub ρ hc hs) {j : Nat} {q : Nat × va_E} (hq : (cz G (fun j => ad (ρ j)) hc)[j]? = some q) : (cz G ad hs)[ρ j]? = some q ∧ j < hc.length := by
  rw [cz_get] at hq
  cases hj : hc[j]? with
  | none => rw [hj] at hq; cases hq
  | some c =>
    rw [hj] at hq
    cases hq
    refine ⟨?_, (List.getElem?_eq_some_iff.mp hj).1⟩
    rw [cz_get, h.2 j c hj]
    show some (ad (ρ j), cE G ad (rE ρ c)) = _
    rw [cE_rE]
theorem Sub.P {D : va_G} {cl : List vw_C} (h : Sub ρ hc hs) (hP : va_P D cl (cz G ad hs) H) : va_P D cl (cz G (fun j => ad (ρ j)) hc) H := fun k q hq => hP (ρ k) q (h.cell hq).1
theorem Sub.D (h : Sub ρ hc hs) (hD : va_D A (cz G ad hs)) : va_D A (cz G (fun j => ad (ρ j)) hc) := by
  refine ⟨fun i j p q hi hj hpq => ?_, fun k q hq => hD.2 (ρ k) q (h.cell hq).1⟩
  obtain ⟨h1, l1⟩ := h.cell hi
  obtain ⟨h2, l2⟩ := h.cell hj
  exact h.1 i j l1 l2 (hD.1 _ _ p q h1 h2 hpq)
theorem Sub.free {s : State} {locs : List Loc} (h : Sub ρ hc hs) (hD : va_D A (cz G ad hs)) (hS : va_S A s.heap H locs) (hA : ∀ q, s.heap.size ≤ q → A q) : ∀ q, va_A (cz G (fun j => ad (ρ j)) hc) H.size q → A q := by
  intro q hq
  rcases hq with ⟨k, e, hk⟩ | hq
  · exact hD.2 (ρ k) (q, e) (h.cell hk).1
  · exact hA q (Nat.le_trans hS.1 hq)
theorem Aft.cell {hc' hs' : List ce} (h : Sub ρ hc hs) (ha : Aft ρ hc hc' hs hs') {k : Nat} {q : Nat × va_E} (hq : (cz G ad hs')[k]? = some q) : (∃ j, j < hc.length ∧ ρ j = k ∧ (cz G (fun j => ad (ρ j)) hc')[j]? = some q) ∨ ((∀ j, j < hc.length → ρ j ≠ k) ∧ (cz G ad hs)[k]? = some q) := by
  by_cases hk : ∃ j, j < hc.length ∧ ρ j = k
  · obtain ⟨j, h1, h2⟩ := hk
    refine Or.inl ⟨j, h1, h2, ?_⟩
    subst h2
    have hj : j < hc'.length := by rw [ha.1]; exact h1
    have h3 := ha.2.1 j hc'[j] (List.getElem?_eq_getElem hj)
    rw [cz_get, h3] at hq
    rw [cz_get, List.getElem?_eq_getElem hj]
    cases hq
    show some (ad (ρ j), _) = some (ad (ρ j), cE G ad (rE ρ hc'[j]))
    rw [cE_rE]
  · have hk2 : ∀ j, j < hc.length → ρ j ≠ k := fun j h1 h2 => hk ⟨j, h1, h2⟩
    refine Or.inr ⟨hk2, ?_⟩
    rw [cz_get, ha.2.2 k hk2] at hq
    rw [cz_get]; exact hq
theorem Aft.PD {hc' hs' : List ce} {D : va_G} {cl : List vw_C} {H1 : Heap} (h : Sub ρ hc hs) (ha : Aft ρ hc hc' hs hs') (hP : va_P D cl (cz G ad hs) H) (hD : va_D A (cz G ad hs)) (hk : ∀ q : Nat, q < H.size → ¬ va_A (cz G (fun j => ad (ρ j)) hc) H.size q → H1[q]? = H[q]?)
    (hf : ∀ q, va_A (cz G (fun j => ad (ρ j)) hc) H.size q → A q) (hP1 : va_P D cl (cz G (fun j => ad (ρ j)) hc') H1) (hD1 : va_D (va_A (cz G (fun j => ad (ρ j)) hc) H.size) (cz G (fun j => ad (ρ j)) hc')) : va_P D cl (cz G ad hs') H1 ∧ va_D A (cz G ad hs') := by
  have apart : ∀ (k : Nat) (q : Nat × va_E), (∀ j, j < hc.length → ρ j ≠ k) → (cz G ad hs)[k]? = some q → q.1 < H.size ∧ ¬ va_A (cz G (fun j => ad (ρ j)) hc) H.size q.1 := by
    intro k q hk2 hq
    have hl := (hP k q hq).lt
    refine ⟨hl, fun hv => ?_⟩
    rcases hv with ⟨j, e, hj⟩ | hv
    · obtain ⟨h1, h2⟩ := h.cell hj
      exact hk2 j h2 (hD.1 _ _ _ _ h1 hq rfl)
    · omega
  refine ⟨fun k q hq => ?_, fun i j x y hi hj hxy => ?_, fun k q hq => ?_⟩
  · rcases ha.cell h hq with ⟨j, h1, h2, h3⟩ | ⟨h1, h2⟩
    · exact hP1 j q h3
    · obtain ⟨g1, g2⟩ := apart k q h1 h2
      exact (hP k q h2).kept (hk q.1 g1 g2)
  · rcases ha.cell h hi with ⟨i1, h1, h2, h3⟩ | ⟨h1, h2⟩ <;> rcases ha.cell h hj with ⟨j1, h4, h5, h6⟩ | ⟨h4, h5⟩
    · have := hD1.1 i1 j1 x y h3 h6 hxy
      rw [← h2, ← h5, this]
    · exact absurd (hD1.2 i1 x h3) (by rw [hxy]; exact (apart j y h4 h5).2)
    · exact absurd (hD1.2 j1 y h6) (by rw [← hxy]; exact (apart i x h1 h2).2)
    · exact hD.1 i j x y h2 h5 hxy
  · rcases ha.cell h hq with ⟨j, h1, h2, h3⟩ | ⟨h1, h2⟩
    · exact hf _ (hD1.2 j q h3)
    · exact hD.2 k q h2
end CALL
theorem Sub.list {hs hc : List ce} {is : List Nat} (h1 : is.map (fun i => hs[i]?) = hc.map (fun c => some (rE (fun j => is.getD j 0) c))) (hn : va_nd is = true) : Sub (fun j => is.getD j 0) hc hs := by
  have hlen : is.length = hc.length := by
    have := congrArg List.length h1
    simpa using this
  have hget : ∀ j, j < hc.length → is[j]? = some (is.getD j 0) := by
    intro j hj
    rw [List.getD_eq_getElem?_getD, List.getElem?_eq_getElem (by omega)]; rfl
  refine ⟨fun i j hi hj hij => va_nd_inj is hn i j (is.getD i 0) (hget i hi) (by rw [show is.getD i 0 = is.getD j 0 from hij]; exact hget j hj), fun j c hj => ?_⟩
  have hjl := (List.getElem?_eq_some_iff.mp hj).1
  have h2 := congrArg (fun L => L[j]?) h1
  simp only [List.getElem?_map, hget j hjl, hj, Option.map_some] at h2
  exact Option.some.inj h2
theorem Aft.list {hs hc hc' hs' : List ce} {is : List Nat} (h1 : is.map (fun i => hs[i]?) = hc.map (fun c => some (rE (fun j => is.getD j 0) c))) (hn : va_nd is = true) (hl : hc'.length = hc.length) (h2 : upds hs is (hc'.map (rE (fun j => is.getD j 0))) = hs') : Aft (fun j => is.getD j 0) hc hc' hs hs' := by
  have hlen : is.length = hc.length := by
    have := congrArg List.length h1
    simpa using this
  have hget : ∀ j, j < hc.length → is[j]? = some (is.getD j 0) := by
    intro j hj
    rw [List.getD_eq_getElem?_getD, List.getElem?_eq_getElem (by omega)]; rfl
  have hS := Sub.list h1 hn
  have hlt : ∀ i ∈ is, i < hs.length := by
    intro i hi
    obtain ⟨j, hj⟩ := List.getElem?_of_mem hi
    have hjl : j < hc.length := by rw [← hlen]; exact (List.getElem?_eq_some_iff.mp hj).1
    have h3 := hS.2 j hc[j] (List.getElem?_eq_getElem hjl)
    have h4 : is.getD j 0 = i := by
      have := hget j hjl
      rw [hj] at this
      exact (Option.some.inj this).symm
    simp only [h4] at h3
    exact (List.getElem?_eq_some_iff.mp h3).1
  subst h2
  refine ⟨hl, fun j c hj => ?_, fun k hk => ?_⟩
  · have hjl : j < hc.length := by rw [← hl]; exact (List.getElem?_eq_some_iff.mp hj).1
    exact upds_at is _ hs hn hlt j _ _ (hget j hjl) (by rw [List.getElem?_map, hj]; rfl)
  · refine upds_ne _ _ _ _ (fun hm => ?_)
    obtain ⟨j, hj⟩ := List.getElem?_of_mem hm
    have hjl : j < hc.length := by rw [← hlen]; exact (List.getElem?_eq_some_iff.mp hj).1
    have := hget j hjl
    rw [hj] at this
    exact hk j hjl (Option.some.inj this).symm
theorem Sub.self (hs : List ce) : Sub (fun j => j) hs hs := ⟨fun _ _ _ _ h => h, fun j c h => by rw [rE_id]; exact h⟩
theorem Aft.self {hs hs' : List ce} (hl : hs'.length = hs.length) : Aft (fun j => j) hs hs' hs hs' := ⟨hl, fun j c h => by rw [rE_id]; exact h, fun k hk => by
  by_cases h : k < hs.length
  · exact absurd rfl (hk k h)
  · rw [List.getElem?_eq_none (by omega), List.getElem?_eq_none (by omega)]⟩
