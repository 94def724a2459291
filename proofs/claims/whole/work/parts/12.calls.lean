/-! CALLS OF METHODS THAT MAKE CELLS: their places may have other addresses behind the call, and there may be more of them -/
section BK
variable {l : Launch} {R : Room} {p : Program} {e : Env} {below : List Frame} {s : State} {sargs : Array Value} {y : MethodName} {len Wd : Nat}
theorem bk_of {ws : List Cond} {rm : Room} {Pc : Array Value → State → Prop} {Qc : Array Value → State → Outcome → State → Prop} {rc rs mc ms : Nat} {free : Addr → Prop} {bytes : ByteArray} {maxL : Nat} {ret : Option FieldType}
    (hM : Met l y ws rm Pc Qc mc ms free) (hblind : FrameBlind Pc) (hrc : rm.cells = rc) (hrs : rm.slots = rs) (hframes : rm.frames + 1 ≤ R.frames) (hlocals : Wd + (maxL + 11) + rm.locals ≤ R.locals)
    (hws : ∀ w ∈ ws, ∀ a' U, s.WarmedH U.vm → w.before a' U = true) (hcode : Cond.code y bytes maxL ret ∈ ws) (hinit : ∀ a' U, s.WarmedH U.vm → (Cond.initialized y.cls).before a' U = true) :
    Back l R p e below s sargs y len Wd (PreOf R rc rs Pc) (PostOf Qc mc ms free) := by
  refine Back.of_free (S := headSpec ws rm) (P := Pc) (K := fun _ _ _ _ _ => True) (Q := fun a st o t => Qc a st o t ∧ ∃ L, FrameEnd st o t L mc ms ∧ ∀ q ∈ L, free q.base) (bytes := bytes) (maxL := maxL) (ret := ret)
    (E := fun a st o t L k n => k = mc ∧ n = ms ∧ ∀ q ∈ L, free q.base) hM hframes hlocals ?_ ?_ (fun _ _ _ _ _ _ _ _ _ => trivial) ?_ ?_
  · intro m meth c A a X hp
    exact ⟨atoms_intro fun w hw => hws w hw _ _ X.warmed, hws _ hcode _ _ X.warmed, hinit _ _ X.warmed, by rw [show (headSpec ws rm).room.cells = rc from hrc]; exact hp.1, by rw [show (headSpec ws rm).room.slots = rs from hrs]; exact hp.2.1⟩
  · intro m meth c A a g mk X hp
    exact hblind _ _ _ _ hp.2.2
  · intro a st o t ⟨hq, L, hF, hL⟩
    exact ⟨L, mc, ms, hF, rfl, rfl, hL⟩
  · intro m meth c A a g mk v t L k n X hp hq hF ⟨e1, e2, hL⟩
    subst e1; subst e2
    exact ⟨g, mk, t, L, rfl, rfl, hq.1, rfl, hL, rfl, rfl⟩
end BK
section RV
variable {p : Program} {l : Launch} {e : Env} {R : Room} {s : State} {m : MethodId} {args : Array Value} {below : List Frame} {meth : Method} {c : Code} {H : Heap} {locs : List Loc} {cells slots : Nat}
variable {y : MethodName} {bytes cc : ByteArray} {maxL nL rc rs mc ms n index : Nat} {ret : Option FieldType} {ws : List Cond} {rm : Room} {Pc : Array Value → State → Prop} {Qc : Array Value → State → Outcome → State → Prop} {free : Addr → Prop} {Ts : List Cond} {own C : String} {b : Addr} {As rest : List Value} {g : JFrame}
/-- a virtual call whose room is wider than what it makes -/
theorem run_V (S : CallFix p m c cc nL s args Ts own) (hM : Met l y ws rm Pc Qc mc ms free) (cw : CallW R s args own C index y bytes maxL ret ws rm rc rs n) (hp : PreV s H C b Pc As)
    (hg : g.method = m) (hn : As.length = n) (hsize : g.locals.size = nL) (hstack : g.stack = As.reverse ++ .ref b :: rest) (hW : 2 * g.monitorRoom + (rest.map fun v => v.category).sum ≤ 8) (hdg : decode cc g.pc = .ok (.invokevirtual index, 3)) (hf : cells + rc ≤ R.cells ∧ slots + rs ≤ R.slots) :
    va_Run p l e R s m args below meth c H locs cells slots mc ms g rest (Qc (Value.ref b :: As).toArray) (free) := by
  obtain ⟨⟨hrc, hrs, hfr, hlo, hws, hcw, hcode, hini, hy, hlen, hl⟩, hin, hse⟩ := cw
  have hK : Back l R p e below s args y 3 8 (PreOf R rc rs Pc) (PostOf Qc mc ms free) := bk_of (bytes := bytes) (maxL := maxL) (ret := ret) hM hp.1 hrc hrs hfr hlo hws hcw (fun a' U hW => word_at hW (Or.inl (by first | rfl | simp [Cond.onTables, Cond.keeps, Cond.steady])) hini)
  obtain ⟨hx, hb, hml, ho, -⟩ := S
  obtain ⟨-, ⟨cellB, hcB, hoB, hclB⟩, hPc⟩ := hp
  intro T hT X
  obtain ⟨v, vm₁, ⟨U', l2, c2, s2⟩, hW₁, X', ⟨g', mk, t, L, e1, e2, hq, h1, hL, h2, h3⟩, st⟩ := callV X hx (C := C) (bytes := bytes) (maxL := maxL) (ret := ret) ho hl hin hse hcode hy hK (by rw [hT]; exact hcB) hoB hclB hg (hsize.trans hml.symm) (argsL := As) (rest := rest) (fun sig h => hn.trans (hlen sig h)) hstack hW (by rw [hb]; exact hdg)
    (fun vm₁ hW₁ => ⟨hf.1, hf.2, hPc (T.setVm vm₁) hT hW₁⟩)
  dsimp only [Pt.U, Pt.locs, Pt.cells, Pt.slots] at X' e1 e2 h1 h2 h3 st
  subst h1; subst h2; subst h3
  exact ⟨v, (T.setVm vm₁).calling g' mk (Value.ref b :: As).toArray, t, U', L, hT, X', hL, e1, e2, hq, st⟩
end RV
/-- how the worlds of caller and callee lie to each other; ρ gives the caller's places of the callee's, 'bd' those whose address may be another -/
def AftG (ρ : Nat → Nat) (bd : List Nat) (kp : Nat → Bool) (hc hc' hs hs' : List ce) : Prop :=
  (∀ i j, i < hc'.length → j < hc'.length → ρ i = ρ j → i = j) ∧
  (∀ j, j < hc'.length → hc.length ≤ j → hs[ρ j]? = none) ∧
  (∀ j, j < hc'.length → (hc.length ≤ j ∨ kp j = false) → ρ j ∈ bd) ∧
  (∀ (j : Nat) (c : ce), hc'[j]? = some c → hs'[ρ j]? = some (rE (ρ) c)) ∧
  (∀ k, (∀ j, j < hc'.length → ρ j ≠ k) → hs'[k]? = hs[k]?) ∧
  (∀ (k : Nat) (c : ce), hs[k]? = some c → (∀ j, j < hc'.length → ρ j ≠ k) → cok bd c = true) ∧
  (∀ c ∈ hc', match c with | .inl _ => True | .inr (_, fs) => ∀ k, Value.ref k ∈ fs → k < hc'.length ∨ (kp k = true ∧ ρ k ∉ bd)) ∧ hc.length ≤ hc'.length
noncomputable def adG (ρ : Nat → Nat) (n : Nat) (ad ad' : Nat → Nat) : Nat → Nat := fun k => @ite Nat (∃ j, j < n ∧ ρ j = k) (Classical.propDecidable _) (ad' (Classical.epsilon (fun j => j < n ∧ ρ j = k))) (ad k)
theorem adG_in {ρ : Nat → Nat} {n : Nat} {ad ad' : Nat → Nat} (hinj : ∀ i j, i < n → j < n → ρ i = ρ j → i = j) {j : Nat} (hj : j < n) : adG ρ n ad ad' (ρ j) = ad' j := by
  unfold adG
  have h : ∃ i, i < n ∧ ρ i = ρ j := ⟨j, hj, rfl⟩
  rw [if_pos h]
  have h2 := Classical.epsilon_spec h
  rw [hinj _ j h2.1 hj h2.2]
theorem adG_out {ρ : Nat → Nat} {n : Nat} {ad ad' : Nat → Nat} {k : Nat} (h : ∀ j, j < n → ρ j ≠ k) : adG ρ n ad ad' k = ad k := by
  unfold adG
  rw [if_neg]
  rintro ⟨j, h1, h2⟩
  exact h j h1 h2
section CG
variable {G : GX} {ad ad' : Nat → Nat} {hs hs' hc hc' : List ce} {H : Heap} {A : Nat → Prop} {ρ : Nat → Nat} {bd : List Nat} {kp : Nat → Bool}
theorem AftG.off (ha : AftG ρ bd kp hc hc' hs hs') (hk : kpt kp (fun j => ad (ρ j)) ad') : ∀ k, k ∉ bd → adG ρ hc'.length ad ad' k = ad k := by
  intro k hk2
  by_cases h : ∃ j, j < hc'.length ∧ ρ j = k
  · obtain ⟨j, h1, h2⟩ := h
    rw [← h2, adG_in ha.1 h1]
    have h3 : ¬ (hc.length ≤ j ∨ kp j = false) := fun z => hk2 (by rw [← h2]; exact ha.2.2.1 j h1 z)
    have h4 : kp j = true := by
      cases hq : kp j with
      | true => rfl
      | false => exact absurd (Or.inr hq) h3
    exact hk j h4
  · exact adG_out (fun j h1 h2 => h ⟨j, h1, h2⟩)
theorem AftG.cell (ha : AftG ρ bd kp hc hc' hs hs') (hk : kpt kp (fun j => ad (ρ j)) ad') {k : Nat} {q : Nat × va_E} (hq : (cz G (adG ρ hc'.length ad ad') hs')[k]? = some q) :
    (∃ j, j < hc'.length ∧ ρ j = k ∧ (cz G ad' hc')[j]? = some q) ∨ ((∀ j, j < hc'.length → ρ j ≠ k) ∧ (cz G ad hs)[k]? = some q) := by
  have hoff := ha.off hk
  obtain ⟨hinj, hnew, hbd, h1, h2, hck, hrf, hle⟩ := ha
  by_cases h : ∃ j, j < hc'.length ∧ ρ j = k
  · obtain ⟨j, hj, hjk⟩ := h
    refine Or.inl ⟨j, hj, hjk, ?_⟩
    subst hjk
    rw [cz_get, h1 j hc'[j] (List.getElem?_eq_getElem hj)] at hq
    rw [cz_get, List.getElem?_eq_getElem hj]
    cases hq
    have e2 : cE G (adG ρ hc'.length ad ad') (rE (ρ) hc'[j]) = cE G ad' hc'[j] := by
      rw [cE_rE]
      have hm : hc'[j] ∈ hc' := List.getElem_mem hj
      have h9 := hrf _ hm
      revert h9
      generalize hc'[j] = c
      intro h9
      rcases c with ⟨t, x⟩ | ⟨ci, fs⟩
      · rfl
      · have : fs.map (cv (fun j => adG ρ hc'.length ad ad' (ρ j))) = fs.map (cv ad') := by
          apply List.map_congr_left
          intro v hv
          cases v with
          | ref k =>
            show Value.ref (adG ρ hc'.length ad ad' (ρ k)) = Value.ref (ad' k)
            rcases h9 k hv with hk3 | ⟨hk3, hk4⟩
            · rw [adG_in hinj hk3]
            · rw [hoff _ hk4, hk k hk3]
          | _ => rfl
        simp only [cE, this]
    show some (ad' j, cE G ad' hc'[j]) = some (adG ρ hc'.length ad ad' (ρ j), cE G (adG ρ hc'.length ad ad') (rE (ρ) hc'[j]))
    rw [adG_in hinj hj, e2]
  · have hk2 : ∀ j, j < hc'.length → ρ j ≠ k := fun j h1 h2 => h ⟨j, h1, h2⟩
    refine Or.inr ⟨hk2, ?_⟩
    rw [cz_get, h2 k hk2] at hq
    rw [cz_get]
    cases hc0 : hs[k]? with
    | none => rw [hc0] at hq; cases hq
    | some c =>
      rw [hc0] at hq
      cases hq
      show some (ad k, cE G ad c) = some (adG ρ hc'.length ad ad' k, cE G (adG ρ hc'.length ad ad') c)
      rw [adG_out hk2, cE_ok hoff (hck k c hc0 hk2)]
theorem AftG.PD {D : va_G} {cl : List vw_C} {H1 : Heap} (h : Sub (ρ) hc hs) (ha : AftG ρ bd kp hc hc' hs hs') (hk0 : kpt kp (fun j => ad (ρ j)) ad') (hP : va_P D cl (cz G ad hs) H) (hD : va_D A (cz G ad hs)) (hk : ∀ q : Nat, q < H.size → ¬ va_A (cz G (fun j => ad (ρ j)) hc) H.size q → H1[q]? = H[q]?)
    (hf : ∀ q, va_A (cz G (fun j => ad (ρ j)) hc) H.size q → A q) (hP1 : va_P D cl (cz G ad' hc') H1) (hD1 : va_D (va_A (cz G (fun j => ad (ρ j)) hc) H.size) (cz G ad' hc')) : va_P D cl (cz G (adG ρ hc'.length ad ad') hs') H1 ∧ va_D A (cz G (adG ρ hc'.length ad ad') hs') := by
  have hle := ha.2.2.2.2.2.2.2
  have apart : ∀ (k : Nat) (q : Nat × va_E), (∀ j, j < hc'.length → ρ j ≠ k) → (cz G ad hs)[k]? = some q → q.1 < H.size ∧ ¬ va_A (cz G (fun j => ad (ρ j)) hc) H.size q.1 := by
    intro k q hk2 hq
    have hl := (hP k q hq).lt
    refine ⟨hl, fun hv => ?_⟩
    rcases hv with ⟨j, e, hj⟩ | hv
    · obtain ⟨h1, h2⟩ := h.cell hj
      exact hk2 j (by omega) (hD.1 _ _ _ _ h1 hq rfl)
    · omega
  refine ⟨fun k q hq => ?_, fun i j x y hi hj hxy => ?_, fun k q hq => ?_⟩
  · rcases ha.cell hk0 hq with ⟨j, h1, h2, h3⟩ | ⟨h1, h2⟩
    · exact hP1 j q h3
    · obtain ⟨g1, g2⟩ := apart k q h1 h2
      exact (hP k q h2).kept (hk q.1 g1 g2)
  · rcases ha.cell hk0 hi with ⟨i1, h1, h2, h3⟩ | ⟨h1, h2⟩ <;> rcases ha.cell hk0 hj with ⟨j1, h4, h5, h6⟩ | ⟨h4, h5⟩
    · have := hD1.1 i1 j1 x y h3 h6 hxy
      rw [← h2, ← h5, this]
    · exact absurd (hD1.2 i1 x h3) (by rw [hxy]; exact (apart j y h4 h5).2)
    · exact absurd (hD1.2 j1 y h6) (by rw [← hxy]; exact (apart i x h1 h2).2)
    · exact hD.1 i j x y h2 h5 hxy
  · rcases ha.cell hk0 hq with ⟨j, h1, h2, h3⟩ | ⟨h1, h2⟩
    · exact hf _ (hD1.2 j q h3)
    · exact hD.2 k q h2
end CG
/-- behind a call whose callee makes cells, and answers no reference -/
theorem call_afterG {p : Program} {la : Launch} {e : Env} {R : Room} {s : State} {m : MethodId} {args : Array Value} {below : List Frame} {meth : Method} {c : Code} {H : Heap} {locs : List Loc} {cells slots mc ms pc : Nat} {ls : Array Slot} {stk : List Value} {Q : State → Prop}
    {G : GX} {ad : Nat → Nat} {A : Nat → Prop} {hs hc hc' hs' : List ce} {ρ : Nat → Nat} {bd : List Nat} {kp : Nat → Bool} {r : Option Value} {rest : List Value} {av : Array Value}
    (hSub : Sub (ρ) hc hs) (hAft : AftG ρ bd kp hc hc' hs hs') (hr0 : ∀ f : Nat → Nat, r.map (cv f) = r) (hP : va_P G.1 clsL (cz G ad hs) H) (hD : va_D A (cz G ad hs)) (hS : va_S A s.heap H locs) (hA : ∀ q, s.heap.size ≤ q → A q)
    (hr : va_Run p la e R s m args below meth c H locs cells slots mc ms (F0 m pc ls stk) (rest.map (cv ad)) (Vq G r hc' kp (fun j => ad (ρ j)) (va_A (cz G (fun j => ad (ρ j)) hc) H.size) av) (va_A (cz G (fun j => ad (ρ j)) hc) H.size))
    (k : ∀ (ad1 : Nat → Nat) (H1 : Heap) (locs1 : List Loc), (∀ k, k ∉ bd → ad1 k = ad k) → va_P G.1 clsL (cz G ad1 hs') H1 → va_D A (cz G ad1 hs') → va_S A s.heap H1 locs1 → W p la e R s m args below meth c H1 locs1 (cells + mc) (slots + ms) Q (F0 m (pc + 3) ls (r.toList ++ rest.map (cv ad)))) :
    W p la e R s m args below meth c H locs cells slots Q (F0 m pc ls stk) := by
  intro T hT X
  obtain ⟨v, st₀, t, T', L, h0, X', hL, e1, e2, ⟨⟨ad', hk, hv, hP1, hD1⟩, hz, hkk⟩, st⟩ := hr T hT X
  have hv2 : v = r.map (cv ad') := Outcome.returned.inj hv
  rw [hr0] at hv2
  subst hv2
  rw [h0] at hz hkk
  have hf := hSub.free (G := G) (ad := ad) hD hS hA
  obtain ⟨hP2, hD2⟩ := AftG.PD (H1 := t.heap) hSub hAft hk hP hD hkk hf hP1 hD1
  obtain ⟨t2, a1, b1⟩ := k (adG ρ hc'.length ad ad') T'.heap (locs ++ L) (hAft.off hk) (by rw [e1]; exact hP2) hD2
    ⟨Nat.le_trans hS.1 (by rw [e1]; exact hz), fun q h1 h2 => by rw [e1, hkk q (Nat.lt_of_lt_of_le h1 hS.1) (fun z => h2 (hf q z))]; exact hS.2.1 q h1 h2, fun q hq => by
      rcases List.mem_append.mp hq with h | h
      · exact hS.2.2 q h
      · exact hf _ (hL q h)⟩ T' rfl X'
  exact ⟨t2, st t2 a1, b1⟩
/-- the same by lists -/
def wltB (n : Nat) (hs : List ce) : Bool := hs.all (fun c => match c with
  | .inl _ => true
  | .inr (_, fs) => fs.all (fun v => match v with
    | .ref k => Nat.blt k n
    | _ => true))
def wokx (is bd : List Nat) : Nat → List ce → Bool
  | _, [] => true
  | k, c :: cs => (inB is k || cok bd c) && wokx is bd (k + 1) cs
theorem wokx_at {is bd : List Nat} : ∀ (hs : List ce) (k0 : Nat), wokx is bd k0 hs = true → ∀ (k : Nat) (c : ce), hs[k]? = some c → k0 + k ∉ is → cok bd c = true := by
  intro hs
  induction hs with
  | nil => intro k0 _ k c h; simp at h
  | cons a hs ih =>
    intro k0 h k c hc hk
    rw [wokx, Bool.and_eq_true] at h
    cases k with
    | zero =>
      simp at hc
      subst hc
      have := h.1
      rw [inB_not.mpr (by simpa using hk)] at this
      simpa using this
    | succ k =>
      simp at hc
      exact ih (k0 + 1) h.2 k c hc (by rw [show k0 + 1 + k = k0 + (k + 1) by omega]; exact hk)
theorem AftG.list {hs hs' hc hc' : List ce} {is0 is1 bd : List Nat} {kp : Nat → Bool} (hl0 : is0.length = hc.length) (hl : (is0 ++ is1).length = hc'.length) (hn : va_nd (is0 ++ is1) = true) (h1 : is1 = (List.range is1.length).map (fun j => hs.length + j)) (hlt : is0.all (fun i => Nat.blt i hs.length) = true)
    (hb0 : (List.range is0.length).all (fun j => kp j || inB bd ((is0 ++ is1).getD j j)) = true) (hb1 : is1.all (inB bd) = true)
    (h2 : upds (hs ++ List.replicate is1.length (.inl (0, 0, .inl (fun _ => 0)))) (is0 ++ is1) (hc'.map (rE (fun j => (is0 ++ is1).getD j j))) = hs') (hw : wokx (is0 ++ is1) bd 0 hs = true) (hr : wltB hc'.length hc' = true) : AftG (fun j => (is0 ++ is1).getD j j) bd kp hc hc' hs hs' := by
  have hget : ∀ j, j < hc'.length → (is0 ++ is1)[j]? = some ((is0 ++ is1).getD j j) := by
    intro j hj
    rw [List.getD_eq_getElem?_getD, List.getElem?_eq_getElem (by omega)]; rfl
  have hll : is0.length + is1.length = hc'.length := by rw [← hl, List.length_append]
  have hnewp : ∀ j, j < hc'.length → hc.length ≤ j → (is0 ++ is1).getD j j = hs.length + (j - hc.length) := by
    intro j hj hj2
    have h3 := hget j hj
    rw [List.getElem?_append_right (by omega)] at h3
    have h5 : ((List.range is1.length).map (fun j => hs.length + j))[j - is0.length]? = some (hs.length + (j - is0.length)) := by
      rw [List.getElem?_map, List.getElem?_range (by omega)]; rfl
    rw [← h1, h3] at h5
    have := Option.some.inj h5
    omega
  have hbig : ∀ i ∈ is0 ++ is1, i < (hs ++ List.replicate is1.length (.inl (0, 0, .inl (fun _ => 0)) : ce)).length := by
    intro i hi
    rw [List.length_append, List.length_replicate]
    rcases List.mem_append.mp hi with hi | hi
    · have := List.all_eq_true.mp hlt i hi
      have h3 : i < hs.length := by simpa [Nat.blt_eq] using this
      omega
    · rw [h1] at hi
      obtain ⟨j, h3, h4⟩ := List.mem_map.mp hi
      have := List.mem_range.mp h3
      omega
  subst h2
  refine ⟨fun i j hi hj hij => va_nd_inj _ hn i j _ (hget i hi) (by rw [show (is0 ++ is1).getD i i = (is0 ++ is1).getD j j from hij]; exact hget j hj), ?_, ?_, ?_, ?_, ?_, ?_, by omega⟩
  · intro j hj hj2
    show hs[(is0 ++ is1).getD j j]? = none
    rw [hnewp j hj hj2]
    exact List.getElem?_eq_none (by omega)
  · intro j hj hq
    rw [← inB_mem]
    by_cases hj0 : j < hc.length
    · have h3 := List.all_eq_true.mp hb0 j (List.mem_range.mpr (by omega))
      rcases hq with hq | hq
      · omega
      · rw [hq] at h3
        simpa using h3
    · have h3 := hget j hj
      rw [List.getElem?_append_right (by omega)] at h3
      exact List.all_eq_true.mp hb1 _ (List.mem_of_getElem? h3)
  · intro j c hj
    have hjl := (List.getElem?_eq_some_iff.mp hj).1
    exact upds_at _ _ _ hn hbig j _ _ (hget j hjl) (by rw [List.getElem?_map, hj]; rfl)
  · intro k hk
    have hk2 : k ∉ is0 ++ is1 := by
      intro hm
      obtain ⟨j, hj⟩ := List.getElem?_of_mem hm
      have hjl : j < hc'.length := by rw [← hl]; exact (List.getElem?_eq_some_iff.mp hj).1
      have := hget j hjl
      rw [hj] at this
      exact hk j hjl (Option.some.inj this).symm
    rw [upds_ne _ _ _ _ hk2]
    by_cases h3 : k < hs.length
    · rw [List.getElem?_append_left h3]
    · rw [List.getElem?_append_right (by omega), List.getElem?_eq_none (l := hs) (by omega)]
      refine List.getElem?_eq_none ?_
      rw [List.length_replicate]
      rcases Nat.lt_or_ge (k - hs.length) is1.length with h4 | h4
      · exfalso
        refine hk (hc.length + (k - hs.length)) (by omega) ?_
        show (is0 ++ is1).getD (hc.length + (k - hs.length)) (hc.length + (k - hs.length)) = k
        rw [hnewp _ (by omega) (by omega)]
        omega
      · exact h4
  · intro k c hc0 hk
    refine wokx_at hs 0 hw k c hc0 ?_
    rw [Nat.zero_add]
    intro hm
    obtain ⟨j, hj⟩ := List.getElem?_of_mem hm
    have hjl : j < hc'.length := by rw [← hl]; exact (List.getElem?_eq_some_iff.mp hj).1
    have := hget j hjl
    rw [hj] at this
    exact hk j hjl (Option.some.inj this).symm
  · intro c hc0
    have h3 := List.all_eq_true.mp hr c hc0
    rcases c with x | ⟨ci, fs⟩
    · trivial
    · intro k hk
      have h4 := List.all_eq_true.mp (show fs.all _ = true from h3) _ hk
      left
      simpa [Nat.blt_eq] using h4
theorem Sub.listA {hs hc : List ce} {is0 is1 : List Nat} (h1 : is0.map (fun i => hs[i]?) = hc.map (fun c => some (rE (fun j => (is0 ++ is1).getD j j) c))) (hn : va_nd (is0 ++ is1) = true) : Sub (fun j => (is0 ++ is1).getD j j) hc hs := by
  have hlen : is0.length = hc.length := by
    have := congrArg List.length h1
    simpa using this
  have hget : ∀ j, j < hc.length → (is0 ++ is1)[j]? = some ((is0 ++ is1).getD j j) := by
    intro j hj
    rw [List.getD_eq_getElem?_getD, List.getElem?_eq_getElem (by rw [List.length_append]; omega)]; rfl
  have hget0 : ∀ j, j < hc.length → is0[j]? = some ((is0 ++ is1).getD j j) := by
    intro j hj
    rw [← hget j hj, List.getElem?_append_left (by omega)]
  refine ⟨fun i j hi hj hij => va_nd_inj _ hn i j _ (hget i hi) (by rw [show (is0 ++ is1).getD i i = (is0 ++ is1).getD j j from hij]; exact hget j hj), fun j c hj => ?_⟩
  have hjl := (List.getElem?_eq_some_iff.mp hj).1
  have h2 := congrArg (fun L => L[j]?) h1
  simp only [List.getElem?_map, hget0 j hjl, hj, Option.map_some] at h2
  exact Option.some.inj h2
/-- the world but for some places -/
def zap (is : List Nat) : Nat → List ce → List ce
  | _, [] => []
  | k, c :: cs => (match inB is k with
    | true => .inl (0, 0, .inl (fun _ => 0))
    | false => c) :: zap is (k + 1) cs
theorem zap_get {is : List Nat} : ∀ (hs : List ce) (k0 k : Nat), k0 + k ∉ is → (zap is k0 hs)[k]? = hs[k]? := by
  intro hs
  induction hs with
  | nil => intro k0 k _; simp [zap]
  | cons c hs ih =>
    intro k0 k hk
    cases k with
    | zero =>
      have : inB is k0 = false := inB_not.mpr (by simpa using hk)
      simp [zap, this]
    | succ k =>
      simp only [zap, List.getElem?_cons_succ]
      exact ih (k0 + 1) k (by rw [show k0 + 1 + k = k0 + (k + 1) by omega]; exact hk)
/-- the callee's places below 1000 by is, the others by js -/
def rho2 (is js : List Nat) : Nat → Nat := fun j => match Nat.blt j 1000 with
  | true => is.getD j 0
  | false => js.getD (j - 1000) 0
theorem rho2_lt {is js : List Nat} {j : Nat} (h : j < 1000) : rho2 is js j = is.getD j 0 := by
  have : Nat.blt j 1000 = true := by simpa [Nat.blt_eq] using h
  simp [rho2, this]
theorem rho2_get {is js : List Nat} {n j : Nat} (hl : is.length = n) (hn : n < 1000) (hj : j < n) : is[j]? = some (rho2 is js j) := by
  rw [rho2_lt (by omega), List.getD_eq_getElem?_getD, List.getElem?_eq_getElem (by omega)]; rfl
theorem Sub.list2 {hs hc : List ce} {is js : List Nat} (h1 : is.map (fun i => hs[i]?) = hc.map (fun c => some (rE (rho2 is js) c))) (hn : va_nd is = true) (h9 : Nat.blt is.length 1000 = true) : Sub (rho2 is js) hc hs := by
  have hlen : is.length = hc.length := by
    have := congrArg List.length h1
    simpa using this
  have h1000 : hc.length < 1000 := by rw [← hlen]; simpa [Nat.blt_eq] using h9
  have hget : ∀ j, j < hc.length → is[j]? = some (rho2 is js j) := fun j hj => rho2_get hlen h1000 hj
  refine ⟨fun i j hi hj hij => va_nd_inj is hn i j _ (hget i hi) (by rw [hij]; exact hget j hj), fun j c hj => ?_⟩
  have hjl := (List.getElem?_eq_some_iff.mp hj).1
  have h2 := congrArg (fun L => L[j]?) h1
  simp only [List.getElem?_map, hget j hjl, hj, Option.map_some] at h2
  exact Option.some.inj h2
theorem Aft.list2 {hs hc hc' hs' : List ce} {is js : List Nat} (h9 : Nat.blt is.length 1000 = true) (hl0 : is.length = hc.length) (hl : hc'.length = hc.length) (h3 : is.map (fun i => hs'[i]?) = hc'.map (fun c => some (rE (rho2 is js) c))) (h4 : zap is 0 hs = zap is 0 hs') : Aft (rho2 is js) hc hc' hs hs' := by
  have h1000 : hc.length < 1000 := by rw [← hl0]; simpa [Nat.blt_eq] using h9
  have hget : ∀ j, j < hc.length → is[j]? = some (rho2 is js j) := fun j hj => rho2_get hl0 h1000 hj
  refine ⟨hl, fun j c hj => ?_, fun k hk => ?_⟩
  · have hjl : j < hc.length := by rw [← hl]; exact (List.getElem?_eq_some_iff.mp hj).1
    have h2 := congrArg (fun L => L[j]?) h3
    simp only [List.getElem?_map, hget j hjl, hj, Option.map_some] at h2
    exact Option.some.inj h2
  · have hk2 : 0 + k ∉ is := by
      intro hm
      rw [Nat.zero_add] at hm
      obtain ⟨j, hj⟩ := List.getElem?_of_mem hm
      have hjl : j < hc.length := by rw [← hl0]; exact (List.getElem?_eq_some_iff.mp hj).1
      have := hget j hjl
      rw [hj] at this
      exact hk j hjl (Option.some.inj this).symm
    have h5 : (zap is 0 hs)[k]? = (zap is 0 hs')[k]? := congrArg (fun L => L[k]?) h4
    rw [zap_get hs 0 k hk2, zap_get hs' 0 k hk2] at h5
    exact h5.symm
/-- refs are within the world, or stay -/
def wlt2 (n : Nat) (js bd : List Nat) (hs : List ce) : Bool := hs.all (fun c => match c with
  | .inl _ => true
  | .inr (_, fs) => fs.all (fun v => match v with
    | .ref k => Nat.blt k n || (Nat.ble 1000 k && !(inB bd (js.getD (k - 1000) 0)))
    | _ => true))
theorem AftG.list2 {n : Nat} {bs : List Nat} {hs hs' hc hc' : List ce} {is js bd : List Nat} (h9 : Nat.blt is.length 1000 = true) (hl0 : is.length = hc.length) (hl : hc'.length = hc.length) (hn : va_nd is = true) (hb0 : (List.range is.length).all (fun j => kpN n bs j || inB bd (is.getD j 0)) = true)
    (h3 : is.map (fun i => hs'[i]?) = hc'.map (fun c => some (rE (rho2 is js) c))) (h4 : zap is 0 hs = zap is 0 hs') (hw : wokx is bd 0 hs = true) (hr : wlt2 is.length js bd hc' = true) : AftG (rho2 is js) bd (kpN n bs) hc hc' hs hs' := by
  have h1000 : hc.length < 1000 := by rw [← hl0]; simpa [Nat.blt_eq] using h9
  have hget : ∀ j, j < hc.length → is[j]? = some (rho2 is js j) := fun j hj => rho2_get hl0 h1000 hj
  have hA := Aft.list2 h9 hl0 hl h3 h4
  refine ⟨fun i j hi hj hij => va_nd_inj _ hn i j _ (hget i (by omega)) (by rw [hij]; exact hget j (by omega)), fun j h1 h2 => by omega, fun j h1 h2 => ?_, hA.2.1, fun k hk => hA.2.2 k (fun j hj => hk j (by omega)), fun k c hc0 hk => ?_, fun c hc0 => ?_, by omega⟩
  · rw [← inB_mem, rho2_lt (by omega)]
    have h5 := List.all_eq_true.mp hb0 j (List.mem_range.mpr (by omega))
    rcases h2 with h2 | h2
    · omega
    · rw [h2] at h5; simpa using h5
  · refine wokx_at hs 0 hw k c hc0 ?_
    rw [Nat.zero_add]
    intro hm
    obtain ⟨j, hj⟩ := List.getElem?_of_mem hm
    have hjl : j < hc.length := by rw [← hl0]; exact (List.getElem?_eq_some_iff.mp hj).1
    have := hget j hjl
    rw [hj] at this
    exact hk j (by omega) (Option.some.inj this).symm
  · have h5 := List.all_eq_true.mp hr c hc0
    rcases c with x | ⟨ci, fs⟩
    · trivial
    · intro k hk
      have h6 := List.all_eq_true.mp (show fs.all _ = true from h5) _ hk
      simp only [Bool.or_eq_true, Bool.and_eq_true, Bool.not_eq_true'] at h6
      rcases h6 with h6 | ⟨h6, h7⟩
      · left
        have h11 : k < is.length := by simpa [Nat.blt_eq] using h6
        rw [hl, ← hl0]; exact h11
      · right
        have h8 := Nat.le_of_ble_eq_true h6
        refine ⟨?_, ?_⟩
        · unfold kpN
          rw [h6]; simp
        · have h10 : rho2 is js k = js.getD (k - 1000) 0 := by
            have : Nat.blt k 1000 = false := by
              cases hq : Nat.blt k 1000 with
              | false => rfl
              | true =>
                have h11 : k < 1000 := by simpa [Nat.blt_eq] using hq
                exact absurd h11 (Nat.not_lt.mpr h8)
            simp [rho2, this]
          rw [h10]; exact inB_not.mp h7
section INVG
variable {M M' : MD} {Z : VZ} {cells slots pc d' rc' rs' mc' ms' n idx j0 : Nat} {l : List (Option Value)} {as' rest : List Value} {hs hs' hc hc' : List ce} {r : Option Value} {ρ : Nat → Nat} {bd : List Nat} {kp : Nat → Bool}
theorem kpt_off {kz : Nat → Bool} {ad0 ad ad1 : Nat → Nat} (hkp : kpt kz ad0 ad) (hz : ∀ k, kz k = true → inB bd k = false) (hoff : ∀ k, k ∉ bd → ad1 k = ad k) : kpt kz ad0 ad1 := fun k hk => by rw [hoff k (inB_not.mp (hz k hk))]; exact hkp k hk
set_option maxHeartbeats 1000000 in
theorem V.callGV (hM : CR M' d' rc' rs' mc' ms' kp (.ref j0 :: as') hc r hc') (hok : okMV M' n) (hl : Cond.methodLink (ownL.getD M.1 "") idx M'.2.1 ∈ tbl) (hn : as'.length = n) (hSub : Sub (ρ) hc hs) (hAft : AftG ρ bd kp hc hc' hs hs')
    (hr0 : ∀ f : Nat → Nat, r.map (cv f) = r) (hz : ∀ k, Z.2.2.2.1 k = true → inB bd k = false) (hlo : l.all (ook bd) = true) (hso : rest.all (rok bd) = true)
    (hrc : ∃ ci fs, hc[j0]? = some (.inr (ci, fs)) ∧ ci < 13 ∧ (clD ci).1 = M'.2.1.cls) (hdp : d' + 1 ≤ Z.1) (hmc : cells + rc' ≤ Z.2.1) (hms : slots + rs' ≤ Z.2.2.1) (hrest : (rest.map fun v => v.category).sum ≤ 8) (hd : decode M.2.2.1 pc = .ok (.invokevirtual idx, 3))
    (k : V M Z (cells + mc') (slots + ms') (pc + 3) l (r.toList ++ rest) hs') : V M Z cells slots pc l ((as'.map (cv (ρ))).reverse ++ .ref (ρ j0) :: rest) hs := by
  intro G p la e s m args below meth c ad0 A hA cx ad ls H locs hkp hll hP hD hS
  obtain ⟨hx, hb, hml, hown, hts, hr, hlk, hnm, hK, hX⟩ := id cx
  obtain ⟨ci, fs, hci, hci13, hcn⟩ := hrc
  have hpre := call_pre (as' := .ref j0 :: as') hSub hP hD hS hA hK hX
  have hrv := va_recv (fs := fs.map (cv (fun j => ad (ρ j)))) (a := ad (ρ j0)) (q0 := j0) hK (hSub.P hP) (clG ci hci13) (cz_o (G := G) (ad := fun j => ad (ρ j)) hci hci13)
  refine call_afterG hSub hAft hr0 hP hD hS hA (run_V (As := (as'.map (cv (ρ))).map (cv ad)) (b := ad (ρ j0)) ⟨hx, hb, hml, hown, hts⟩ (hM G la (fun j => ad (ρ j)) H.size) (cwV n hts (wsV_good hok hl) rfl rfl rfl ⟨rfl, hok.1.2.2.1⟩ ⟨hdp, ?_⟩) ⟨hpre.1, ?_, hpre.2⟩ rfl (by simpa using hn) hll.1 ?_ (lv_room (by rw [map_cat]; exact hrest)) hd ⟨hmc, hms⟩) (fun ad1 H1 locs1 hoff hP1 hD1 hS1 => ?_)
  · have h21 := hok.1.2.2.2
    show 8 + (M'.2.2.2.1 + 11) + (40 * d' + 2080) ≤ 40 * Z.1 + 2080
    omega
  · rw [← hcn]; exact hrv
  · simp [cv]
  · have h9 := k G p la e s m args below meth c ad0 A hA cx ad1 ls H1 locs1 (kpt_off hkp hz hoff) (lr_ok hoff hlo hll) hP1 hD1 hS1
    have e3 : (r.toList ++ rest).map (cv ad1) = r.toList ++ rest.map (cv ad) := by
      rw [List.map_append, map_cv_ok hoff hso]
      congr 1
      have := hr0 ad1
      cases r with
      | none => rfl
      | some v => simpa using this
    rw [e3] at h9
    exact h9
set_option maxHeartbeats 1000000 in
theorem V.callGI (hM : CR M' d' mc' ms' mc' ms' kp (.ref j0 :: as') hc none hc') (hok : okMI M' n) (hl : Cond.methodLink (ownL.getD M.1 "") idx M'.2.1 ∈ tbl) (hrt : M'.2.2.2.2.1 = none) (hn : as'.length = n) (hSub : Sub (ρ) hc hs) (hAft : AftG ρ bd kp hc hc' hs hs')
    (hz : ∀ k, Z.2.2.2.1 k = true → inB bd k = false) (hlo : l.all (ook bd) = true) (hso : rest.all (rok bd) = true)
    (hdp : d' + 1 ≤ Z.1) (hmc : cells + mc' ≤ Z.2.1) (hms : slots + ms' ≤ Z.2.2.1) (hrest : (rest.map fun v => v.category).sum ≤ 8) (hd : decode M.2.2.1 pc = .ok (.invokespecial idx, 3))
    (k : V M Z (cells + mc') (slots + ms') (pc + 3) l rest hs') : V M Z cells slots pc l ((as'.map (cv (ρ))).reverse ++ .ref (ρ j0) :: rest) hs := by
  intro G p la e s m args below meth c ad0 A hA cx ad ls H locs hkp hll hP hD hS
  obtain ⟨hx, hb, hml, hown, hts, hr, hlk, hnm, hK, hX⟩ := id cx
  have hpre := call_pre (as' := .ref j0 :: as') hSub hP hD hS hA hK hX
  refine call_afterG (r := none) hSub hAft (fun _ => rfl) hP hD hS hA (va_runI (As := (as'.map (cv (ρ))).map (cv ad)) (b := ad (ρ j0)) ⟨hx, hb, hml, hown, hts⟩ (hM G la (fun j => ad (ρ j)) H.size) (cwI n hts (wM_good hok.1) (by unfold wM; rw [hrt]) rfl rfl (hts _ hok.1.2.1) (hts _ hl) (hts _ hok.2.1) hok.2.2 hok.1.2.2.1 ⟨hdp, ?_⟩) hpre rfl (by simpa using hn) hll.1 ?_ (lv_room (by rw [map_cat]; exact hrest)) hd ⟨hmc, hms⟩) (fun ad1 H1 locs1 hoff hP1 hD1 hS1 => ?_)
  · have h21 := hok.1.2.2.2
    show 8 + (M'.2.2.2.1 + 11) + (40 * d' + 2080) ≤ 40 * Z.1 + 2080
    omega
  · simp [cv]
  · have h9 := k G p la e s m args below meth c ad0 A hA cx ad1 ls H1 locs1 (kpt_off hkp hz hoff) (lr_ok hoff hlo hll) hP1 hD1 hS1
    rw [map_cv_ok hoff hso] at h9
    exact h9
set_option maxHeartbeats 1000000 in
theorem V.callGN (hM : CR M' d' mc' ms' mc' ms' kp (.ref j0 :: as') hc none hc') (hok : okMI M' n) (host : String) (hl : Cond.methodLinkNest (ownL.getD M.1 "") idx M'.2.1 host ∈ nestW) (hrt : M'.2.2.2.2.1 = none) (hn : as'.length = n) (hSub : Sub (ρ) hc hs) (hAft : AftG ρ bd kp hc hc' hs hs')
    (hz : ∀ k, Z.2.2.2.1 k = true → inB bd k = false) (hlo : l.all (ook bd) = true) (hso : rest.all (rok bd) = true)
    (hdp : d' + 1 ≤ Z.1) (hmc : cells + mc' ≤ Z.2.1) (hms : slots + ms' ≤ Z.2.2.1) (hrest : (rest.map fun v => v.category).sum ≤ 8) (hd : decode M.2.2.1 pc = .ok (.invokespecial idx, 3))
    (k : V M Z (cells + mc') (slots + ms') (pc + 3) l rest hs') : V M Z cells slots pc l ((as'.map (cv (ρ))).reverse ++ .ref (ρ j0) :: rest) hs := by
  intro G p la e s m args below meth c ad0 A hA cx ad ls H locs hkp hll hP hD hS
  obtain ⟨hx, hb, hml, hown, hts, hr, hlk, hnm, hK, hX⟩ := id cx
  have hpre := call_pre (as' := .ref j0 :: as') hSub hP hD hS hA hK hX
  refine call_afterG (r := none) hSub hAft (fun _ => rfl) hP hD hS hA (va_runIN (As := (as'.map (cv (ρ))).map (cv ad)) (b := ad (ρ j0)) ⟨hx, hb, hml, hown, hts⟩ (hM G la (fun j => ad (ρ j)) H.size) ⟨va_cnB (host := host) n hts (wM_good hok.1) (by unfold wM; rw [hrt]) rfl rfl (hX.1 _ hl) (hts _ hok.1.2.1) hok.1.2.2.1 ⟨hdp, ?_⟩, hok.2.2, hts _ hok.2.1⟩ hpre rfl (by simpa using hn) hll.1 ?_ (lv_room (by rw [map_cat]; exact hrest)) hd ⟨hmc, hms⟩) (fun ad1 H1 locs1 hoff hP1 hD1 hS1 => ?_)
  · have h21 := hok.1.2.2.2
    show 8 + (M'.2.2.2.1 + 11) + (40 * d' + 2080) ≤ 40 * Z.1 + 2080
    omega
  · simp [cv]
  · have h9 := k G p la e s m args below meth c ad0 A hA cx ad1 ls H1 locs1 (kpt_off hkp hz hoff) (lr_ok hoff hlo hll) hP1 hD1 hS1
    rw [map_cv_ok hoff hso] at h9
    exact h9
end INVG
