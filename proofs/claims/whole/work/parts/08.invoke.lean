/-! THE THREE CALLS -/
/-- what the tables say of a method -/
def okM (M : MD) (n : Nat) : Prop := Cond.code M.2.1 M.2.2.1 M.2.2.2.1 M.2.2.2.2.1 ∈ tbl ∧ Cond.initialized M.2.1.cls ∈ tbl ∧ (M.2.1.cls ≠ "java/lang/invoke/MethodHandle" ∧ M.2.1.cls ≠ "java/lang/invoke/VarHandle" ∧ (parseMethodDescriptor M.2.1.desc).map (fun d => d.parameters.length) = some n) ∧ M.2.2.2.1 ≤ 21
def okMV (M : MD) (n : Nat) : Prop := okM M n ∧ Cond.instanceMethod M.2.1 ∈ tbl ∧ Cond.selects M.2.1.cls M.2.1 M.2.1 ∈ tbl
def okMS (M : MD) (n : Nat) : Prop := okM M n ∧ Cond.static M.2.1 ∈ tbl
def okMI (M : MD) (n : Nat) : Prop := okM M n ∧ Cond.instanceMethod M.2.1 ∈ tbl ∧ M.2.1.name = "<init>"
theorem tbl_good {w : Cond} (h : w ∈ tbl) : (w.onTables && w.keeps) = true ∨ ∃ ty, w = .arrayClass ty := good_of_word (List.mem_filter.mp h).2
theorem wM_good {M : MD} {n : Nat} (h : okM M n) : GoodIn tbl (wM M) := fun w hw => by
  rcases List.mem_cons.mp hw with rfl | hw
  · exact ⟨h.1, tbl_good h.1⟩
  · exact ⟨hw, tbl_good hw⟩
theorem wsV_good {M : MD} {n : Nat} {own : String} {idx : Nat} (h : okMV M n) (hl : Cond.methodLink own idx M.2.1 ∈ tbl) : GoodIn tbl (wsV own idx M.2.1.cls M.2.1 (wM M)) := fun w hw => by
  rcases List.mem_append.mp hw with hw | hw
  · simp only [List.mem_cons, List.mem_nil_iff, or_false] at hw
    rcases hw with rfl | rfl | rfl | rfl
    · exact ⟨hl, tbl_good hl⟩
    · exact ⟨h.2.1, tbl_good h.2.1⟩
    · exact ⟨h.2.2, tbl_good h.2.2⟩
    · exact ⟨h.1.2.1, tbl_good h.1.2.1⟩
  · exact wM_good h.1 w hw
theorem wsS_good {M : MD} {n : Nat} {own : String} {idx : Nat} (h : okMS M n) (hl : Cond.methodLink own idx M.2.1 ∈ tbl) : GoodIn tbl (va_wsS own idx M.2.1 (wM M)) := fun w hw => by
  rcases List.mem_append.mp hw with hw | hw
  · simp only [List.mem_cons, List.mem_nil_iff, or_false] at hw
    rcases hw with rfl | rfl | rfl
    · exact ⟨hl, tbl_good hl⟩
    · exact ⟨h.2, tbl_good h.2⟩
    · exact ⟨h.1.2.1, tbl_good h.1.2.1⟩
  · exact wM_good h.1 w hw
theorem map_cat (ad : Nat → Nat) (st : List Value) : (st.map (cv ad)).map (fun v => v.category) = st.map (fun v => v.category) := by
  rw [List.map_map]
  apply List.map_congr_left
  intro v _
  exact cv_cat ad v
/-- behind a call whose callee makes no cell -/
theorem call_after {p : Program} {la : Launch} {e : Env} {R : Room} {s : State} {m : MethodId} {args : Array Value} {below : List Frame} {meth : Method} {c : Code} {H : Heap} {locs : List Loc} {cells slots mc ms pc : Nat} {ls : Array Slot} {stk : List Value} {Q : State → Prop}
    {G : GX} {ad ρ : Nat → Nat} {A : Nat → Prop} {hs hc hc' hs' : List ce} {r : Option Value} {rest : List Value} {av : Array Value}
    (hSub : Sub ρ hc hs) (hAft : Aft ρ hc hc' hs hs') (hP : va_P G.1 clsL (cz G ad hs) H) (hD : va_D A (cz G ad hs)) (hS : va_S A s.heap H locs) (hA : ∀ q, s.heap.size ≤ q → A q)
    (hr : va_Run p la e R s m args below meth c H locs cells slots mc ms (F0 m pc ls stk) (rest.map (cv ad)) (Vq G r hc' kpT (fun j => ad (ρ j)) (va_A (cz G (fun j => ad (ρ j)) hc) H.size) av) (va_A (cz G (fun j => ad (ρ j)) hc) H.size))
    (k : ∀ (H1 : Heap) (locs1 : List Loc), va_P G.1 clsL (cz G ad hs') H1 → va_D A (cz G ad hs') → va_S A s.heap H1 locs1 → W p la e R s m args below meth c H1 locs1 (cells + mc) (slots + ms) Q (F0 m (pc + 3) ls (((r.map (cv ρ)).toList ++ rest).map (cv ad)))) :
    W p la e R s m args below meth c H locs cells slots Q (F0 m pc ls stk) := by
  intro T hT X
  obtain ⟨v, st₀, t, T', L, h0, X', hL, e1, e2, ⟨⟨ad', hk, hv, hP1, hD1⟩, hz, hkk⟩, st⟩ := hr T hT X
  have had : ad' = fun j => ad (ρ j) := funext fun j => hk j rfl
  subst had
  have hv2 : v = r.map (cv (fun j => ad (ρ j))) := Outcome.returned.inj hv
  subst hv2
  rw [h0] at hz hkk
  have hf := hSub.free (G := G) (ad := ad) hD hS hA
  obtain ⟨hP2, hD2⟩ := hAft.PD (H1 := t.heap) hSub hP hD hkk hf hP1 hD1
  obtain ⟨t2, a1, b1⟩ := k T'.heap (locs ++ L) (by rw [e1]; exact hP2) hD2
    ⟨Nat.le_trans hS.1 (by rw [e1]; exact hz), fun q h1 h2 => by rw [e1, hkk q (Nat.lt_of_lt_of_le h1 hS.1) (fun z => h2 (hf q z))]; exact hS.2.1 q h1 h2, fun q hq => by
      rcases List.mem_append.mp hq with h | h
      · exact hS.2.2 q h
      · exact hf _ (hL q h)⟩ T' rfl X'
  refine ⟨t2, st t2 ?_, b1⟩
  have e3 : ((r.map (cv ρ)).toList ++ rest).map (cv ad) = (r.map (cv (fun j => ad (ρ j)))).toList ++ rest.map (cv ad) := by
    cases r with
    | none => rfl
    | some v => simp [cv_cv]
  rw [e3] at a1
  exact a1
/-- ahead of a call -/
theorem call_pre {s : State} {H : Heap} {locs : List Loc} {G : GX} {ad ρ : Nat → Nat} {A : Nat → Prop} {hs hc : List ce} {as' : List Value}
    (hSub : Sub ρ hc hs) (hP : va_P G.1 clsL (cz G ad hs) H) (hD : va_D A (cz G ad hs)) (hS : va_S A s.heap H locs) (hA : ∀ q, s.heap.size ≤ q → A q) (hK : va_K G.1 clsL (tysG G) s) (hX : XF G A s s.heap) :
    FrameBlind (va_Pc (as'.map (cv (fun j => ad (ρ j)))) (fun U => U.heap.size = H.size ∧ va_P G.1 clsL (cz G (fun j => ad (ρ j)) hc) U.heap ∧ (va_K G.1 clsL (tysG G) U ∧ XF G (va_A (cz G (fun j => ad (ρ j)) hc) H.size) U U.heap) ∧ va_D (fun _ => True) (cz G (fun j => ad (ρ j)) hc))) ∧
    ∀ U : State, U.heap = H → s.WarmedH U.vm → va_Pc (as'.map (cv (fun j => ad (ρ j)))) (fun U => U.heap.size = H.size ∧ va_P G.1 clsL (cz G (fun j => ad (ρ j)) hc) U.heap ∧ (va_K G.1 clsL (tysG G) U ∧ XF G (va_A (cz G (fun j => ad (ρ j)) hc) H.size) U U.heap) ∧ va_D (fun _ => True) (cz G (fun j => ad (ρ j)) hc)) ((as'.map (cv ρ)).map (cv ad)).toArray U := by
  refine ⟨fun a U g mk q => ?_, fun U hU hW => ?_⟩
  · obtain ⟨q0, q1, qP, ⟨qK, qX⟩, qD⟩ := q
    exact ⟨q0, q1, qP, ⟨va_K.moved (u := U) (U := U.calling g mk a) (Vm.Alike.refl U.vm) qK, XF.same (s := U) (U := U.calling g mk a) rfl qX⟩, qD⟩
  · refine ⟨?_, by rw [hU], by rw [hU]; exact hSub.P hP, ⟨va_K.moved hW.alike hK, ?_⟩, (hSub.D hD).weaken (fun _ _ _ _ => trivial)⟩
    · rw [List.map_map]
      congr 1
      apply List.map_congr_left
      intro v _
      exact cv_cv ad ρ v
    · rw [hU]
      exact XF.warm hW ((hX.kept (fun a h1 h2 => hS.2.1 a h1 h2)).narrow (hSub.free hD hS hA))
section INV
variable {M M' : MD} {Z : VZ} {cells slots pc d' mc' ms' n idx j0 : Nat} {l : List (Option Value)} {as' rest : List Value} {hs hs' hc hc' : List ce} {r : Option Value} {ρ : Nat → Nat}
set_option maxHeartbeats 1000000 in
theorem V.callV (hM : C M' d' mc' ms' kpT (.ref j0 :: as') hc r hc') (hok : okMV M' n) (hl : Cond.methodLink (ownL.getD M.1 "") idx M'.2.1 ∈ tbl) (hn : as'.length = n) (hSub : Sub ρ hc hs) (hAft : Aft ρ hc hc' hs hs')
    (hrc : ∃ ci fs, hc[j0]? = some (.inr (ci, fs)) ∧ ci < 13 ∧ (clD ci).1 = M'.2.1.cls) (hdp : d' + 1 ≤ Z.1) (hmc : cells + mc' ≤ Z.2.1) (hms : slots + ms' ≤ Z.2.2.1) (hrest : (rest.map fun v => v.category).sum ≤ 8) (hd : decode M.2.2.1 pc = .ok (.invokevirtual idx, 3))
    (k : V M Z (cells + mc') (slots + ms') (pc + 3) l ((r.map (cv ρ)).toList ++ rest) hs') : V M Z cells slots pc l ((as'.map (cv ρ)).reverse ++ .ref (ρ j0) :: rest) hs := by
  intro G p la e s m args below meth c ad0 A hA cx ad ls H locs hkp hll hP hD hS
  obtain ⟨hx, hb, hml, hown, hts, hr, hlk, hnm, hK, hX⟩ := id cx
  obtain ⟨ci, fs, hci, hci13, hcn⟩ := hrc
  have hpre := call_pre (as' := .ref j0 :: as') hSub hP hD hS hA hK hX
  have hrv := va_recv (fs := fs.map (cv (fun j => ad (ρ j)))) (a := ad (ρ j0)) (q0 := j0) hK (hSub.P hP) (clG ci hci13) (cz_o (G := G) (ad := fun j => ad (ρ j)) hci hci13)
  refine call_after hSub hAft hP hD hS hA (va_runV (As := (as'.map (cv ρ)).map (cv ad)) (b := ad (ρ j0)) ⟨hx, hb, hml, hown, hts⟩ (hM G la (fun j => ad (ρ j)) H.size) (cwV n hts (wsV_good hok hl) rfl rfl rfl ⟨rfl, hok.1.2.2.1⟩ ⟨hdp, ?_⟩) ⟨hpre.1, ?_, hpre.2⟩ rfl (by simpa using hn) hll.1 ?_ (lv_room (by rw [map_cat]; exact hrest)) hd ⟨hmc, hms⟩) (fun H1 locs1 hP1 hD1 hS1 => k G p la e s m args below meth c ad0 A hA cx ad ls H1 locs1 hkp hll hP1 hD1 hS1)
  · have h21 := hok.1.2.2.2
    show 8 + (M'.2.2.2.1 + 11) + (40 * d' + 2080) ≤ 40 * Z.1 + 2080
    omega
  · rw [← hcn]; exact hrv
  · simp [cv]
set_option maxHeartbeats 1000000 in
theorem V.callS (hM : C M' d' mc' ms' kpT as' hc r hc') (hok : okMS M' n) (hl : Cond.methodLink (ownL.getD M.1 "") idx M'.2.1 ∈ tbl) (hn : as'.length = n) (hSub : Sub ρ hc hs) (hAft : Aft ρ hc hc' hs hs')
    (hdp : d' + 1 ≤ Z.1) (hmc : cells + mc' ≤ Z.2.1) (hms : slots + ms' ≤ Z.2.2.1) (hrest : (rest.map fun v => v.category).sum ≤ 8) (hd : decode M.2.2.1 pc = .ok (.invokestatic idx, 3))
    (k : V M Z (cells + mc') (slots + ms') (pc + 3) l ((r.map (cv ρ)).toList ++ rest) hs') : V M Z cells slots pc l ((as'.map (cv ρ)).reverse ++ rest) hs := by
  intro G p la e s m args below meth c ad0 A hA cx ad ls H locs hkp hll hP hD hS
  obtain ⟨hx, hb, hml, hown, hts, hr, hlk, hnm, hK, hX⟩ := id cx
  have hpre := call_pre (as' := as') hSub hP hD hS hA hK hX
  refine call_after hSub hAft hP hD hS hA (va_runS (As := (as'.map (cv ρ)).map (cv ad)) ⟨hx, hb, hml, hown, hts⟩ (hM G la (fun j => ad (ρ j)) H.size) (va_cwS n hts (wsS_good hok hl) rfl rfl rfl hok.1.2.2.1 ⟨hdp, ?_⟩) hpre rfl (by simpa using hn) hll.1 ?_ (lv_room (by rw [map_cat]; exact hrest)) hd ⟨hmc, hms⟩) (fun H1 locs1 hP1 hD1 hS1 => k G p la e s m args below meth c ad0 A hA cx ad ls H1 locs1 hkp hll hP1 hD1 hS1)
  · have h21 := hok.1.2.2.2
    show 8 + (M'.2.2.2.1 + 11) + (40 * d' + 2080) ≤ 40 * Z.1 + 2080
    omega
  · simp
end INV
