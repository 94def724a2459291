/-! THE JDK'S String.indexOf OF THE CONSTANT: its places 1000 (the String) and 1001 (its bytes) -/
def pS : GX → State → (Nat → Nat) → (Nat → Prop) → Prop := fun G _ ad0 _ => ad0 1000 = G.2.2 0 ∧ ad0 1001 = G.2.2 1
def CS (M : MD) (d : Nat) (as : List Value) (r : Option Value) : Prop :=
  ∀ (G : GX) (la : Launch) (ad : Nat → Nat) (sz : Nat), ad 1000 = G.2.2 0 → ad 1001 = G.2.2 1 → Met la M.2.1 (wM M) (rmD d 0 0)
    (va_Pc (as.map (cv ad)) (fun U => U.heap.size = sz ∧ va_P G.1 clsL (cz G ad []) U.heap ∧ (va_K G.1 clsL (tysG G) U ∧ XF G (va_A (cz G ad []) sz) U U.heap) ∧ va_D (fun _ => True) (cz G ad [])))
    (Vq G r [] kpT ad (va_A (cz G ad []) sz)) 0 0 (va_A (cz G ad []) sz)
theorem CS.of {M : MD} {d : Nat} {as : List Value} {r : Option Value} (hy : plainName M.2.1.cls = true) (ho : ownL.getD M.1 "" = M.2.1.cls) (hl : as.length ≤ M.2.2.2.1) (hc : as.all (fun v => decide (v.category = 1)) = true) (hpt : M.2.2.2.2.2 = pS)
    (h : V M (d, 0, 0, kpT, r, [], 0, 0) 0 0 0 (as.map some ++ List.replicate (M.2.2.2.1 - as.length) none) [] []) : CS M d as r := by
  intro G la ad sz a0 a1
  refine Met.ofW (cc := M.2.2.1) (maxL := M.2.2.2.1) (ret := M.2.2.2.2.1) (ws' := tbl) hy rfl ?_
  intro p e s m args below meth c s₁ B hml hv
  obtain ⟨rfl, hsz, hP, ⟨hK, hX⟩, hD0⟩ := hv
  have hts := atoms_spec (ws := wM M) B.pre
  have hown : s.vm.findClass M.2.1.cls = some m.cls := findClass_of_methodNamed B.named
  have hin : meth.name = M.2.1.name := (name_of_methodNamed B.named B.method).1
  subst hsz
  have hc2 : ∀ v ∈ as, v.category = 1 := fun v hv => by
    have := List.all_eq_true.mp hc v hv
    simpa using this
  rw [lg_entry_eq]
  refine h G p la e s m (as.map (cv ad)).toArray below meth c ad (va_A (cz G ad []) s.heap.size) (fun q hq => Or.inr hq) ⟨B.exec, B.bytes, hml, by rw [ho]; exact hown, fun w hw => hts w (List.mem_cons_of_mem _ hw), B.returns, B.notSynchronized, ⟨fun h => hin.trans h, by rw [hpt]; exact ⟨a0, a1⟩⟩, hK, hX⟩ ad _ s.heap [] (fun _ _ => rfl) ?_ hP hD0.self va_S.rf
  have he := lv_entry (as.map (cv ad)) (n := M.2.2.2.1) (by rw [lg_sl_len ad as hc2]; exact hl)
  refine ⟨he.1, by simp; omega, he.2.1, fun i v hi => ?_⟩
  have hi2 : as[i]? = some v := by
    rw [List.getElem?_append] at hi
    split at hi
    · rw [List.getElem?_map] at hi
      cases h9 : as[i]? with
      | none => rw [h9] at hi; simp at hi
      | some w => rw [h9] at hi; simp at hi; rw [hi]
    · rw [List.getElem?_replicate] at hi
      split at hi <;> simp at hi
  have := lv_args_map ad as 0 hc2 i v hi2
  rw [Nat.zero_add] at this
  exact he.2.2 _ this
def sBytes : List Int32 := [102, 103, 110, 109, 115, 113, 106, 100, 119]
section STR
variable {M M' : MD} {Z : VZ} {cells slots pc d' n idx : Nat} {l : List (Option Value)} {as' st rest : List Value} {r : Option Value}
theorem V.gVal (hps : M.2.2.2.2.2 = pS) (hkz : Z.2.2.2.1 = kpT) (ho : ownL.getD M.1 "" = "java/lang/String") (hd : decode M.2.2.1 pc = .ok (.getfield 9, 3)) (k : V M Z cells slots (pc + 3) l (.ref 1001 :: st) []) : V M Z cells slots pc l (.ref 1000 :: st) [] := by
  intro G p la e s m args below meth c ad0 A hA cx ad ls H locs hkp hl hP hD hS
  obtain ⟨hx, hb, hml, hown, hts, hr, hlk, hnm, hK, hX⟩ := id cx
  have h9 := k G p la e s m args below meth c ad0 A hA cx ad ls H locs hkp hl hP hD hS
  have hq := hnm.2
  rw [hps] at hq
  have e0 : ad 1000 = G.2.2 0 := (hkp 1000 (by rw [hkz]; rfl)).trans hq.1
  have e1 : ad 1001 = G.2.2 1 := (hkp 1001 (by rw [hkz]; rfl)).trans hq.2
  show W p la e _ s m args below meth c H locs cells slots _ (F0 m pc ls (.ref (ad 1000) :: st.map (cv ad)))
  rw [e0]
  rw [ho] at hown
  refine vk_getf (v := .ref (G.2.2 1)) hx hb (hX.2.2.2.1.1 0 (by decide)).2.2.1 hS hown (ref := "java/lang/String") (hts _ (in_tbl (List.mem_of_getElem? (i := 1925) (by decide +kernel)) rfl)) (fun _ h => h) hd ?_
  rw [← e1]
  exact h9
theorem V.gCod (hps : M.2.2.2.2.2 = pS) (hkz : Z.2.2.2.1 = kpT) (ho : ownL.getD M.1 "" = "java/lang/String") (hd : decode M.2.2.1 pc = .ok (.getfield 15, 3)) (k : V M Z cells slots (pc + 3) l (.int 0 :: st) []) : V M Z cells slots pc l (.ref 1000 :: st) [] := by
  intro G p la e s m args below meth c ad0 A hA cx ad ls H locs hkp hl hP hD hS
  obtain ⟨hx, hb, hml, hown, hts, hr, hlk, hnm, hK, hX⟩ := id cx
  have h9 := k G p la e s m args below meth c ad0 A hA cx ad ls H locs hkp hl hP hD hS
  have hq := hnm.2
  rw [hps] at hq
  have e0 : ad 1000 = G.2.2 0 := (hkp 1000 (by rw [hkz]; rfl)).trans hq.1
  show W p la e _ s m args below meth c H locs cells slots _ (F0 m pc ls (.ref (ad 1000) :: st.map (cv ad)))
  rw [e0]
  rw [ho] at hown
  exact vk_getf (v := .int 0) hx hb (hX.2.2.2.1.1 0 (by decide)).2.1 hS hown (ref := "java/lang/String") (hts _ (in_tbl (List.mem_of_getElem? (i := 1924) (by decide +kernel)) rfl)) (fun _ h => h) hd h9
theorem V.gCmp (ho : ownL.getD M.1 "" = "java/lang/String") (hd : decode M.2.2.1 pc = .ok (.getstatic 38, 3)) (k : V M Z cells slots (pc + 3) l (.int 1 :: st) []) : V M Z cells slots pc l st [] := by
  intro G p la e s m args below meth c ad0 A hA cx ad ls H locs hkp hl hP hD hS
  obtain ⟨hx, hb, hml, hown, hts, hr, hlk, hnm, hK, hX⟩ := id cx
  have h9 := k G p la e s m args below meth c ad0 A hA cx ad ls H locs hkp hl hP hD hS
  rw [ho] at hown
  exact va_gets (v := .int 1) hx hb hX.2.2.2.2 hS hown (ref := "java/lang/String") (hts _ (in_tbl (List.mem_of_getElem? (i := 557) (by decide +kernel)) rfl)) (fun _ h => h) hd h9
theorem V.tLen (hps : M.2.2.2.2.2 = pS) (hkz : Z.2.2.2.1 = kpT) (hd : decode M.2.2.1 pc = .ok (.arraylength, 1)) (k : V M Z cells slots (pc + 1) l (.int 9 :: st) []) : V M Z cells slots pc l (.ref 1001 :: st) [] := by
  intro G p la e s m args below meth c ad0 A hA cx ad ls H locs hkp hl hP hD hS
  obtain ⟨hx, hb, hml, hown, hts, hr, hlk, hnm, hK, hX⟩ := id cx
  have h9 := k G p la e s m args below meth c ad0 A hA cx ad ls H locs hkp hl hP hD hS
  have hq := hnm.2
  rw [hps] at hq
  have e1 : ad 1001 = G.2.2 1 := (hkp 1001 (by rw [hkz]; rfl)).trans hq.2
  show W p la e _ s m args below meth c H locs cells slots _ (F0 m pc ls (.ref (ad 1001) :: st.map (cv ad)))
  rw [e1]
  exact va_tlen (v := 9) hx hb (hX.2.2.2.1.1 0 (by decide)).2.2.2 hS rfl hd h9
theorem V.tLd {i : Int32} (hin : ix i 9 = true) (hps : M.2.2.2.2.2 = pS) (hkz : Z.2.2.2.1 = kpT) (hd : decode M.2.2.1 pc = .ok (.baload, 1)) (k : V M Z cells slots (pc + 1) l (.int (sBytes.getD i.toNatClampNeg 0) :: st) []) : V M Z cells slots pc l (.int i :: .ref 1001 :: st) [] := by
  intro G p la e s m args below meth c ad0 A hA cx ad ls H locs hkp hl hP hD hS
  obtain ⟨hx, hb, hml, hown, hts, hr, hlk, hnm, hK, hX⟩ := id cx
  have h9 := k G p la e s m args below meth c ad0 A hA cx ad ls H locs hkp hl hP hD hS
  have hq := hnm.2
  rw [hps] at hq
  have e1 : ad 1001 = G.2.2 1 := (hkp 1001 (by rw [hkz]; rfl)).trans hq.2
  show W p la e _ s m args below meth c H locs cells slots _ (F0 m pc ls (.int i :: .ref (ad 1001) :: st.map (cv ad)))
  rw [e1]
  exact va_tb (v := .int (sBytes.getD i.toNatClampNeg 0)) hx hb (hX.2.2.2.1.1 0 (by decide)).2.2.2 hS (ix_in hin) rfl hd h9
theorem V.bret {d rc rs mc ms : Nat} {kp : Nat → Bool} {hs : List ce} (hrt : M.2.2.2.2.1 = some .byte) (hc : cells ≤ mc) (hsl : slots ≤ ms) (hd : decode M.2.2.1 pc = .ok (.ireturn, 1)) : V M (d, rc, rs, kp, some (.int 0), hs, mc, ms) cells slots pc l [.int 0] hs := by
  intro G p la e s m args below meth c ad0 A hA cx ad ls H locs hkp hl hP hD hS
  obtain ⟨hx, hb, hml, hown, hts, hr, hlk, hnm, hK, hX⟩ := id cx
  refine W.widen (k := mc) (n := ms) hc hsl ?_
  exact W.zret (v := 0) (ty := .byte) hx hb (hr.trans hrt) (by decide) (fun t ht hW => ⟨⟨ad, hkp, rfl, by rw [ht]; exact hP, hD⟩, hS.F ht⟩) hS.2.2 hd hlk
set_option maxHeartbeats 1000000 in
theorem V.callVS (hM : CS M' d' (.ref 1000 :: as') r) (hps : M.2.2.2.2.2 = pS) (hkz : Z.2.2.2.1 = kpT) (hok : okMV M' n) (hcl : M'.2.1.cls = "java/lang/String") (hl : Cond.methodLink (ownL.getD M.1 "") idx M'.2.1 ∈ tbl) (hn : as'.length = n)
    (hdp : d' + 1 ≤ Z.1) (hmc : cells ≤ Z.2.1) (hms : slots ≤ Z.2.2.1) (hrest : (rest.map fun v => v.category).sum ≤ 8) (hd : decode M.2.2.1 pc = .ok (.invokevirtual idx, 3))
    (k : V M Z cells slots (pc + 3) l (r.toList ++ rest) []) : V M Z cells slots pc l (as'.reverse ++ .ref 1000 :: rest) [] := by
  intro G p la e s m args below meth c ad0 A hA cx ad ls H locs hkp hll hP hD hS
  obtain ⟨hx, hb, hml, hown, hts, hr, hlk, hnm, hK, hX⟩ := id cx
  have hq := hnm.2
  rw [hps] at hq
  have e0 : ad 1000 = G.2.2 0 := (hkp 1000 (by rw [hkz]; rfl)).trans hq.1
  have e1 : ad 1001 = G.2.2 1 := (hkp 1001 (by rw [hkz]; rfl)).trans hq.2
  have hpre := call_pre (ρ := fun j => j) (as' := .ref 1000 :: as') (Sub.self []) hP hD hS hA hK hX
  have hrv := vk_recv (i := 0) hX.2.2.2.1 (by decide) hS
  have hid : ∀ v : Value, cv (fun j => j) v = v := fun v => by cases v <;> rfl
  have hid2 : ∀ L : List Value, L.map (cv (fun j => j)) = L := fun L => by rw [show cv (fun j => j) = id from funext hid, List.map_id]
  refine call_after (ρ := fun j => j) (r := r) (rest := rest) (mc := 0) (ms := 0) (Sub.self []) (Aft.self rfl) hP hD hS hA (va_runV (As := as'.map (cv ad)) (b := ad 1000) ⟨hx, hb, hml, hown, hts⟩ (hM G la ad H.size e0 e1) (cwV n hts (wsV_good hok hl) rfl rfl rfl ⟨rfl, hok.1.2.2.1⟩ ⟨hdp, ?_⟩) ⟨hpre.1, ?_, ?_⟩ rfl (by simpa using hn) hll.1 ?_ (lv_room (by rw [map_cat]; exact hrest)) hd ⟨hmc, hms⟩) (fun H1 locs1 hP1 hD1 hS1 => ?_)
  · have h21 := hok.1.2.2.2
    show 8 + (M'.2.2.2.1 + 11) + (40 * d' + 2080) ≤ 40 * Z.1 + 2080
    omega
  · rw [e0, hcl]; exact hrv
  · have h8 := hpre.2
    rw [hid2] at h8
    exact h8
  · simp [cv]
  · have h9 := k G p la e s m args below meth c ad0 A hA cx ad ls H1 locs1 hkp hll hP1 hD1 hS1
    have e3 : r.map (cv (fun j => j)) = r := by cases r <;> simp [hid]
    rw [e3]; exact h9
set_option maxHeartbeats 1000000 in
theorem V.callSS (hM : CS M' d' as' r) (hps : M.2.2.2.2.2 = pS) (hkz : Z.2.2.2.1 = kpT) (hok : okMS M' n) (hl : Cond.methodLink (ownL.getD M.1 "") idx M'.2.1 ∈ tbl) (hn : as'.length = n)
    (hdp : d' + 1 ≤ Z.1) (hmc : cells ≤ Z.2.1) (hms : slots ≤ Z.2.2.1) (hrest : (rest.map fun v => v.category).sum ≤ 8) (hd : decode M.2.2.1 pc = .ok (.invokestatic idx, 3))
    (k : V M Z cells slots (pc + 3) l (r.toList ++ rest) []) : V M Z cells slots pc l (as'.reverse ++ rest) [] := by
  intro G p la e s m args below meth c ad0 A hA cx ad ls H locs hkp hll hP hD hS
  obtain ⟨hx, hb, hml, hown, hts, hr, hlk, hnm, hK, hX⟩ := id cx
  have hq := hnm.2
  rw [hps] at hq
  have e0 : ad 1000 = G.2.2 0 := (hkp 1000 (by rw [hkz]; rfl)).trans hq.1
  have e1 : ad 1001 = G.2.2 1 := (hkp 1001 (by rw [hkz]; rfl)).trans hq.2
  have hpre := call_pre (ρ := fun j => j) (as' := as') (Sub.self []) hP hD hS hA hK hX
  have hid : ∀ v : Value, cv (fun j => j) v = v := fun v => by cases v <;> rfl
  have hid2 : ∀ L : List Value, L.map (cv (fun j => j)) = L := fun L => by rw [show cv (fun j => j) = id from funext hid, List.map_id]
  refine call_after (ρ := fun j => j) (r := r) (rest := rest) (mc := 0) (ms := 0) (Sub.self []) (Aft.self rfl) hP hD hS hA (va_runS (As := as'.map (cv ad)) ⟨hx, hb, hml, hown, hts⟩ (hM G la ad H.size e0 e1) (va_cwS n hts (wsS_good hok hl) rfl rfl rfl hok.1.2.2.1 ⟨hdp, ?_⟩) ⟨hpre.1, ?_⟩ rfl (by simpa using hn) hll.1 ?_ (lv_room (by rw [map_cat]; exact hrest)) hd ⟨hmc, hms⟩) (fun H1 locs1 hP1 hD1 hS1 => ?_)
  · have h21 := hok.1.2.2.2
    show 8 + (M'.2.2.2.1 + 11) + (40 * d' + 2080) ≤ 40 * Z.1 + 2080
    omega
  · have h8 := hpre.2
    rw [hid2] at h8
    exact h8
  · simp
  · have h9 := k G p la e s m args below meth c ad0 A hA cx ad ls H1 locs1 hkp hll hP1 hD1 hS1
    have e3 : r.map (cv (fun j => j)) = r := by cases r <;> simp [hid]
    rw [e3]; exact h9
end STR
/-! the methods -/
def jCan : MD := (17, ⟨"java/lang/StringLatin1", "canEncode", "(I)Z"⟩, prog_19_method_4_code, 1, some .boolean, pS)
def jIxC : MD := (17, ⟨"java/lang/StringLatin1", "indexOfChar", "([BIII)I"⟩, prog_19_method_23_code, 6, some .int, pS)
def jIxL : MD := (17, ⟨"java/lang/StringLatin1", "indexOf", "([BIII)I"⟩, prog_19_method_22_code, 4, some .int, pS)
def jLat : MD := (16, ⟨"java/lang/String", "isLatin1", "()Z"⟩, prog_18_method_154_code, 1, some .boolean, pS)
def jCod : MD := (16, ⟨"java/lang/String", "coder", "()B"⟩, prog_18_method_152_code, 1, some .byte, pS)
def jLnS : MD := (16, ⟨"java/lang/String", "length", "()I"⟩, prog_18_method_54_code, 1, some .int, pS)
def jIx2 : MD := (16, ⟨"java/lang/String", "indexOf", "(II)I"⟩, prog_18_method_80_code, 3, some .int, pS)
def jIx1 : MD := (16, ⟨"java/lang/String", "indexOf", "(I)I"⟩, prog_18_method_79_code, 2, some .int, pS)
theorem ok_jCan : okMS jCan 1 := ⟨⟨in_tbl (List.mem_of_getElem? (i := 572) (by decide +kernel)) rfl, in_tbl (List.mem_of_getElem? (i := 16) (by decide +kernel)) rfl, ⟨by decide, by decide, by decide +kernel⟩, by decide⟩, in_tbl (List.mem_of_getElem? (i := 571) (by decide +kernel)) rfl⟩
theorem ok_jIxC : okMS jIxC 4 := ⟨⟨in_tbl (List.mem_of_getElem? (i := 581) (by decide +kernel)) rfl, in_tbl (List.mem_of_getElem? (i := 16) (by decide +kernel)) rfl, ⟨by decide, by decide, by decide +kernel⟩, by decide⟩, in_tbl (List.mem_of_getElem? (i := 580) (by decide +kernel)) rfl⟩
theorem ok_jIxL : okMS jIxL 4 := ⟨⟨in_tbl (List.mem_of_getElem? (i := 569) (by decide +kernel)) rfl, in_tbl (List.mem_of_getElem? (i := 16) (by decide +kernel)) rfl, ⟨by decide, by decide, by decide +kernel⟩, by decide⟩, in_tbl (List.mem_of_getElem? (i := 568) (by decide +kernel)) rfl⟩
theorem ok_jLat : okMV jLat 0 := ⟨⟨in_tbl (List.mem_of_getElem? (i := 556) (by decide +kernel)) rfl, in_tbl (List.mem_of_getElem? (i := 15) (by decide +kernel)) rfl, ⟨by decide, by decide, by decide +kernel⟩, by decide⟩, in_tbl (List.mem_of_getElem? (i := 554) (by decide +kernel)) rfl, in_tbl (List.mem_of_getElem? (i := 555) (by decide +kernel)) rfl⟩
theorem ok_jCod : okMV jCod 0 := ⟨⟨in_tbl (List.mem_of_getElem? (i := 566) (by decide +kernel)) rfl, in_tbl (List.mem_of_getElem? (i := 15) (by decide +kernel)) rfl, ⟨by decide, by decide, by decide +kernel⟩, by decide⟩, in_tbl (List.mem_of_getElem? (i := 564) (by decide +kernel)) rfl, in_tbl (List.mem_of_getElem? (i := 565) (by decide +kernel)) rfl⟩
theorem ok_jLnS : okMV jLnS 0 := ⟨⟨in_tbl (List.mem_of_getElem? (i := 562) (by decide +kernel)) rfl, in_tbl (List.mem_of_getElem? (i := 15) (by decide +kernel)) rfl, ⟨by decide, by decide, by decide +kernel⟩, by decide⟩, in_tbl (List.mem_of_getElem? (i := 560) (by decide +kernel)) rfl, in_tbl (List.mem_of_getElem? (i := 561) (by decide +kernel)) rfl⟩
theorem ok_jIx2 : okMV jIx2 2 := ⟨⟨in_tbl (List.mem_of_getElem? (i := 552) (by decide +kernel)) rfl, in_tbl (List.mem_of_getElem? (i := 15) (by decide +kernel)) rfl, ⟨by decide, by decide, by decide +kernel⟩, by decide⟩, in_tbl (List.mem_of_getElem? (i := 550) (by decide +kernel)) rfl, in_tbl (List.mem_of_getElem? (i := 551) (by decide +kernel)) rfl⟩
theorem ok_jIx1 : okMV jIx1 1 := ⟨⟨in_tbl (List.mem_of_getElem? (i := 548) (by decide +kernel)) rfl, in_tbl (List.mem_of_getElem? (i := 15) (by decide +kernel)) rfl, ⟨by decide, by decide, by decide +kernel⟩, by decide⟩, in_tbl (List.mem_of_getElem? (i := 546) (by decide +kernel)) rfl, in_tbl (List.mem_of_getElem? (i := 547) (by decide +kernel)) rfl⟩
theorem lkL_88 : Cond.methodLink "java/lang/StringLatin1" 88 ⟨"java/lang/StringLatin1", "canEncode", "(I)Z"⟩ ∈ tbl := in_tbl (List.mem_of_getElem? (i := 570) (by decide +kernel)) rfl
theorem lkL_92 : Cond.methodLink "java/lang/StringLatin1" 92 ⟨"java/lang/Math", "max", "(II)I"⟩ ∈ tbl := in_tbl (List.mem_of_getElem? (i := 573) (by decide +kernel)) rfl
theorem lkL_38 : Cond.methodLink "java/lang/StringLatin1" 38 ⟨"java/lang/Math", "min", "(II)I"⟩ ∈ tbl := in_tbl (List.mem_of_getElem? (i := 576) (by decide +kernel)) rfl
theorem lkL_95 : Cond.methodLink "java/lang/StringLatin1" 95 ⟨"java/lang/StringLatin1", "indexOfChar", "([BIII)I"⟩ ∈ tbl := in_tbl (List.mem_of_getElem? (i := 579) (by decide +kernel)) rfl
theorem lkS_335 : Cond.methodLink "java/lang/String" 335 ⟨"java/lang/String", "coder", "()B"⟩ ∈ tbl := in_tbl (List.mem_of_getElem? (i := 563) (by decide +kernel)) rfl
theorem lkS_492 : Cond.methodLink "java/lang/String" 492 ⟨"java/lang/String", "isLatin1", "()Z"⟩ ∈ tbl := in_tbl (List.mem_of_getElem? (i := 553) (by decide +kernel)) rfl
theorem lkS_505 : Cond.methodLink "java/lang/String" 505 ⟨"java/lang/String", "length", "()I"⟩ ∈ tbl := in_tbl (List.mem_of_getElem? (i := 559) (by decide +kernel)) rfl
theorem lkS_637 : Cond.methodLink "java/lang/String" 637 ⟨"java/lang/StringLatin1", "indexOf", "([BIII)I"⟩ ∈ tbl := in_tbl (List.mem_of_getElem? (i := 567) (by decide +kernel)) rfl
theorem lkS_633 : Cond.methodLink "java/lang/String" 633 ⟨"java/lang/String", "indexOf", "(II)I"⟩ ∈ tbl := in_tbl (List.mem_of_getElem? (i := 549) (by decide +kernel)) rfl
theorem lkW_105 : Cond.methodLink "DesertJars$Law" 105 ⟨"java/lang/String", "indexOf", "(I)I"⟩ ∈ tbl := in_tbl (List.mem_of_getElem? (i := 545) (by decide +kernel)) rfl
def canE (c : Int32) : Int32 := if c < 0 then 0 else if c ≤ 255 then 1 else 0
theorem jCan_c (c : Int32) : CS jCan 1 [.int c] (some (.int (canE c))) := by
  refine CS.of rfl rfl (Nat.le_of_ble_eq_true rfl) rfl rfl ?_
  show V jCan (1, 0, 0, kpT, some (.int (canE c)), [], 0, 0) 0 0 0 [some (.int c)] [] []
  refine V.blk [(.iload_n 0, 0, 0, 0, 0)] (by decide +kernel) (pc' := 1) (l' := [some (.int c)]) (st' := [.int c]) (hs' := []) rfl trivial rfl ?_
  refine V.if_lt (tgt := 15) 14 (by decide +kernel) (by decide +kernel) (fun h => ?_) (fun h => ?_)
  · refine V.blk [(.iconst 0, 0, 0, 0, 0)] (by decide +kernel) (pc' := 16) (l' := [some (.int c)]) (st' := [.int 0]) (hs' := []) rfl trivial rfl ?_
    rw [show canE c = 0 by unfold canE; rw [if_pos h]]
    exact V.zret (Or.inl rfl) rfl (Nat.le_refl _) (Nat.le_refl _) (by decide +kernel)
  · refine V.blk [(.iload_n 0, 0, 0, 0, 0), (.sipush 255, 0, 0, 0, 255)] (by decide +kernel) (pc' := 8) (l' := [some (.int c)]) (st' := [.int 255, .int c]) (hs' := []) rfl trivial rfl ?_
    refine V.ic_gt (tgt := 15) 7 (by decide +kernel) (by decide +kernel) (fun h2 => ?_) (fun h2 => ?_)
    · refine V.blk [(.iconst 1, 0, 0, 0, 1), (.goto 4, 16, 0, 0, 0)] (by decide +kernel) (pc' := 16) (l' := [some (.int c)]) (st' := [.int 1]) (hs' := []) rfl trivial rfl ?_
      rw [show canE c = 1 by unfold canE; rw [if_neg h, if_pos h2]]
      exact V.zret (Or.inr rfl) rfl (Nat.le_refl _) (Nat.le_refl _) (by decide +kernel)
    · refine V.blk [(.iconst 0, 0, 0, 0, 0)] (by decide +kernel) (pc' := 16) (l' := [some (.int c)]) (st' := [.int 0]) (hs' := []) rfl trivial rfl ?_
      rw [show canE c = 0 by unfold canE; rw [if_neg h, if_neg h2]]
      exact V.zret (Or.inl rfl) rfl (Nat.le_refl _) (Nat.le_refl _) (by decide +kernel)
/-- from place k on, n places left -/
def sIx (b : Int32) : Nat → Int32 → Int32
  | 0, _ => -1
  | n + 1, k => if sBytes.getD k.toNatClampNeg 0 = b then k else sIx b n (k + 1)
theorem jIxC_loop (c b : Int32) : ∀ (n : Nat) (k r : Int32), sIx b n k = r → n ≤ 9 → k = Int32.ofNat (9 - n) → V jIxC (1, 0, 0, kpT, some (.int r), [], 0, 0) 0 0 7 [some (.ref 1001), some (.int c), some (.int 0), some (.int 9), some (.int b), some (.int k)] [] [] := by
  intro n
  induction n with
  | zero =>
    intro k r hr _ hk
    subst hk
    refine V.blk [(.iload 5, 0, 0, 0, 0), (.iload_n 3, 0, 0, 0, 0)] (by decide +kernel) (pc' := 10) (l' := [some (.ref 1001), some (.int c), some (.int 0), some (.int 9), some (.int b), some (.int (Int32.ofNat (9 - 0)))]) (st' := [.int 9, .int (Int32.ofNat (9 - 0))]) (hs' := []) rfl trivial rfl ?_
    refine V.ic_ge (tgt := 31) 21 (by decide +kernel) (by decide +kernel) (fun h => absurd h (by decide)) (fun _ => ?_)
    refine V.blk [(.iconst (-1), 0, 0, 0, -1)] (by decide +kernel) (pc' := 32) (l' := [some (.ref 1001), some (.int c), some (.int 0), some (.int 9), some (.int b), some (.int (Int32.ofNat (9 - 0)))]) (st' := [.int (-1)]) (hs' := []) rfl trivial rfl ?_
    rw [← hr]
    exact V.iret rfl (Nat.le_refl _) (Nat.le_refl _) (by decide +kernel)
  | succ n ih =>
    intro k r hr hn hk
    have hk9 : k < 9 ∧ ix k 9 = true ∧ k + 1 = Int32.ofNat (9 - n) := by
      subst hk
      have : n = 0 ∨ n = 1 ∨ n = 2 ∨ n = 3 ∨ n = 4 ∨ n = 5 ∨ n = 6 ∨ n = 7 ∨ n = 8 := by omega
      rcases this with rfl | rfl | rfl | rfl | rfl | rfl | rfl | rfl | rfl <;> decide
    obtain ⟨h1, h2, h3⟩ := hk9
    refine V.blk [(.iload 5, 0, 0, 0, 0), (.iload_n 3, 0, 0, 0, 0)] (by decide +kernel) (pc' := 10) (l' := [some (.ref 1001), some (.int c), some (.int 0), some (.int 9), some (.int b), some (.int k)]) (st' := [.int 9, .int k]) (hs' := []) rfl trivial rfl ?_
    refine V.ic_ge (tgt := 31) 21 (by decide +kernel) (by decide +kernel) (fun _ => ?_) (fun h => absurd h1 h)
    refine V.blk [(.aload_n 0, 0, 0, 0, 0), (.iload 5, 0, 0, 0, 0)] (by decide +kernel) (pc' := 16) (l' := [some (.ref 1001), some (.int c), some (.int 0), some (.int 9), some (.int b), some (.int k)]) (st' := [.int k, .ref 1001]) (hs' := []) rfl trivial rfl ?_
    refine V.tLd h2 rfl rfl (by decide +kernel) ?_
    refine V.blk [(.iload 4, 0, 0, 0, 0)] (by decide +kernel) (pc' := 19) (l' := [some (.ref 1001), some (.int c), some (.int 0), some (.int 9), some (.int b), some (.int k)]) (st' := [.int b, .int (sBytes.getD k.toNatClampNeg 0)]) (hs' := []) rfl trivial rfl ?_
    refine V.ic_ne (tgt := 25) 6 (by decide +kernel) (by decide +kernel) (fun h => ?_) (fun h => ?_)
    · refine V.blk [(.iload 5, 0, 0, 0, 0)] (by decide +kernel) (pc' := 24) (l' := [some (.ref 1001), some (.int c), some (.int 0), some (.int 9), some (.int b), some (.int k)]) (st' := [.int k]) (hs' := []) rfl trivial rfl ?_
      rw [show r = k by rw [← hr, sIx, if_pos h]]
      exact V.iret rfl (Nat.le_refl _) (Nat.le_refl _) (by decide +kernel)
    · refine V.blk [(.iinc 5 1, 0, 0, 0, 1), (.goto (-21), 7, 0, 0, 0)] (by decide +kernel) (pc' := 7) (l' := [some (.ref 1001), some (.int c), some (.int 0), some (.int 9), some (.int b), some (.int (k + 1))]) (st' := []) (hs' := []) rfl trivial rfl ?_
      exact ih (k + 1) r (by rw [← hr, sIx, if_neg h]) (by omega) h3
theorem jIxC_c (c : Int32) : CS jIxC 1 [.ref 1001, .int c, .int 0, .int 9] (some (.int (sIx (jB c) 9 0))) := by
  refine CS.of rfl rfl (Nat.le_of_ble_eq_true rfl) rfl rfl ?_
  show V jIxC (1, 0, 0, kpT, some (.int (sIx (jB c) 9 0)), [], 0, 0) 0 0 0 [some (.ref 1001), some (.int c), some (.int 0), some (.int 9), none, none] [] []
  refine V.blk [(.iload_n 1, 0, 0, 0, 0), (.i2b, 0, 0, 0, 0), (.istore 4, 0, 0, 0, 0), (.iload_n 2, 0, 0, 0, 0), (.istore 5, 0, 0, 0, 0)] (by decide +kernel) (pc' := 7) (l' := [some (.ref 1001), some (.int c), some (.int 0), some (.int 9), some (.int (jB c)), some (.int 0)]) (st' := []) (hs' := []) rfl trivial rfl ?_
  exact jIxC_loop c (jB c) 9 0 _ rfl (by decide) rfl
def ixL (c : Int32) : Int32 := if canE c = 0 then -1 else sIx (jB c) 9 0
theorem jIxL_c (c : Int32) : CS jIxL 2 [.ref 1001, .int c, .int 0, .int 9] (some (.int (ixL c))) := by
  refine CS.of rfl rfl (Nat.le_of_ble_eq_true rfl) rfl rfl ?_
  show V jIxL (2, 0, 0, kpT, some (.int (ixL c)), [], 0, 0) 0 0 0 [some (.ref 1001), some (.int c), some (.int 0), some (.int 9)] [] []
  refine V.blk [(.iload_n 1, 0, 0, 0, 0)] (by decide +kernel) (pc' := 1) (l' := [some (.ref 1001), some (.int c), some (.int 0), some (.int 9)]) (st' := [.int c]) (hs' := []) rfl trivial rfl ?_
  refine V.callSS (idx := 88) (as' := [.int c]) (rest := []) (jCan_c c) rfl rfl ok_jCan lkL_88 rfl (Nat.le_of_ble_eq_true rfl) (Nat.le_refl _) (Nat.le_refl _) (Nat.le_of_ble_eq_true rfl) (by decide +kernel) ?_
  show V jIxL (2, 0, 0, kpT, some (.int (ixL c)), [], 0, 0) 0 0 4 [some (.ref 1001), some (.int c), some (.int 0), some (.int 9)] [.int (canE c)] []
  refine V.if_ne (tgt := 9) 5 (by decide +kernel) (by decide +kernel) (fun h => ?_) (fun h => ?_)
  · refine V.blk [(.iconst (-1), 0, 0, 0, -1)] (by decide +kernel) (pc' := 8) (l' := [some (.ref 1001), some (.int c), some (.int 0), some (.int 9)]) (st' := [.int (-1)]) (hs' := []) rfl trivial rfl ?_
    rw [show ixL c = -1 by unfold ixL; rw [if_pos h]]
    exact V.iret rfl (Nat.le_refl _) (Nat.le_refl _) (by decide +kernel)
  · refine V.blk [(.iload_n 2, 0, 0, 0, 0), (.iconst 0, 0, 0, 0, 0)] (by decide +kernel) (pc' := 11) (l' := [some (.ref 1001), some (.int c), some (.int 0), some (.int 9)]) (st' := [.int 0, .int 0]) (hs' := []) rfl trivial rfl ?_
    refine V.mmax (Nat.le_of_ble_eq_true rfl) (Nat.le_refl _) (Nat.le_refl _) lkL_92 (Nat.le_of_ble_eq_true rfl) (by decide +kernel) ?_
    show V jIxL (2, 0, 0, kpT, some (.int (ixL c)), [], 0, 0) 0 0 14 [some (.ref 1001), some (.int c), some (.int 0), some (.int 9)] [.int 0] []
    refine V.blk [(.istore_n 2, 0, 0, 0, 0), (.iload_n 3, 0, 0, 0, 0), (.aload_n 0, 0, 0, 0, 0)] (by decide +kernel) (pc' := 17) (l' := [some (.ref 1001), some (.int c), some (.int 0), some (.int 9)]) (st' := [.ref 1001, .int 9]) (hs' := []) rfl trivial rfl ?_
    refine V.tLen rfl rfl (by decide +kernel) ?_
    refine V.mmin (Nat.le_of_ble_eq_true rfl) (Nat.le_refl _) (Nat.le_refl _) lkL_38 (Nat.le_of_ble_eq_true rfl) (by decide +kernel) ?_
    show V jIxL (2, 0, 0, kpT, some (.int (ixL c)), [], 0, 0) 0 0 21 [some (.ref 1001), some (.int c), some (.int 0), some (.int 9)] [.int 9] []
    refine V.blk [(.istore_n 3, 0, 0, 0, 0), (.iload_n 2, 0, 0, 0, 0), (.iload_n 3, 0, 0, 0, 0)] (by decide +kernel) (pc' := 24) (l' := [some (.ref 1001), some (.int c), some (.int 0), some (.int 9)]) (st' := [.int 9, .int 0]) (hs' := []) rfl trivial rfl ?_
    refine V.ic_lt (tgt := 29) 5 (by decide +kernel) (by decide +kernel) (fun _ => ?_) (fun h => absurd (by decide) h)
    refine V.blk [(.aload_n 0, 0, 0, 0, 0), (.iload_n 1, 0, 0, 0, 0), (.iload_n 2, 0, 0, 0, 0), (.iload_n 3, 0, 0, 0, 0)] (by decide +kernel) (pc' := 33) (l' := [some (.ref 1001), some (.int c), some (.int 0), some (.int 9)]) (st' := [.int 9, .int 0, .int c, .ref 1001]) (hs' := []) rfl trivial rfl ?_
    refine V.callSS (idx := 95) (as' := [.ref 1001, .int c, .int 0, .int 9]) (rest := []) (jIxC_c c) rfl rfl ok_jIxC lkL_95 rfl (Nat.le_of_ble_eq_true rfl) (Nat.le_refl _) (Nat.le_refl _) (Nat.le_of_ble_eq_true rfl) (by decide +kernel) ?_
    rw [show ixL c = sIx (jB c) 9 0 by unfold ixL; rw [if_neg h]]
    exact V.iret rfl (Nat.le_refl _) (Nat.le_refl _) (by decide +kernel)
theorem jCod_c : CS jCod 1 [.ref 1000] (some (.int 0)) := by
  refine CS.of rfl rfl (Nat.le_of_ble_eq_true rfl) rfl rfl ?_
  show V jCod (1, 0, 0, kpT, some (.int 0), [], 0, 0) 0 0 0 [some (.ref 1000)] [] []
  refine V.gCmp rfl (by decide +kernel) ?_
  refine V.if_eq (tgt := 13) 10 (by decide +kernel) (by decide +kernel) (fun h => absurd h (by decide)) (fun _ => ?_)
  refine V.blk [(.aload_n 0, 0, 0, 0, 0)] (by decide +kernel) (pc' := 7) (l' := [some (.ref 1000)]) (st' := [.ref 1000]) (hs' := []) rfl trivial rfl ?_
  refine V.gCod rfl rfl rfl (by decide +kernel) ?_
  refine V.blk [(.goto 4, 14, 0, 0, 0)] (by decide +kernel) (pc' := 14) (l' := [some (.ref 1000)]) (st' := [.int 0]) (hs' := []) rfl trivial rfl ?_
  exact V.bret rfl (Nat.le_refl _) (Nat.le_refl _) (by decide +kernel)
theorem jLat_c : CS jLat 1 [.ref 1000] (some (.int 1)) := by
  refine CS.of rfl rfl (Nat.le_of_ble_eq_true rfl) rfl rfl ?_
  show V jLat (1, 0, 0, kpT, some (.int 1), [], 0, 0) 0 0 0 [some (.ref 1000)] [] []
  refine V.gCmp rfl (by decide +kernel) ?_
  refine V.if_eq (tgt := 17) 14 (by decide +kernel) (by decide +kernel) (fun h => absurd h (by decide)) (fun _ => ?_)
  refine V.blk [(.aload_n 0, 0, 0, 0, 0)] (by decide +kernel) (pc' := 7) (l' := [some (.ref 1000)]) (st' := [.ref 1000]) (hs' := []) rfl trivial rfl ?_
  refine V.gCod rfl rfl rfl (by decide +kernel) ?_
  refine V.if_ne (tgt := 17) 7 (by decide +kernel) (by decide +kernel) (fun _ => ?_) (fun h => absurd rfl h)
  refine V.blk [(.iconst 1, 0, 0, 0, 1), (.goto 4, 18, 0, 0, 0)] (by decide +kernel) (pc' := 18) (l' := [some (.ref 1000)]) (st' := [.int 1]) (hs' := []) rfl trivial rfl ?_
  exact V.zret (Or.inr rfl) rfl (Nat.le_refl _) (Nat.le_refl _) (by decide +kernel)
theorem jLnS_c : CS jLnS 2 [.ref 1000] (some (.int 9)) := by
  refine CS.of rfl rfl (Nat.le_of_ble_eq_true rfl) rfl rfl ?_
  show V jLnS (2, 0, 0, kpT, some (.int 9), [], 0, 0) 0 0 0 [some (.ref 1000)] [] []
  refine V.blk [(.aload_n 0, 0, 0, 0, 0)] (by decide +kernel) (pc' := 1) (l' := [some (.ref 1000)]) (st' := [.ref 1000]) (hs' := []) rfl trivial rfl ?_
  refine V.gVal rfl rfl rfl (by decide +kernel) ?_
  refine V.tLen rfl rfl (by decide +kernel) ?_
  refine V.blk [(.aload_n 0, 0, 0, 0, 0)] (by decide +kernel) (pc' := 6) (l' := [some (.ref 1000)]) (st' := [.ref 1000, .int 9]) (hs' := []) rfl trivial rfl ?_
  refine V.callVS (idx := 335) (as' := []) (rest := [.int 9]) jCod_c rfl rfl ok_jCod rfl lkS_335 rfl (Nat.le_of_ble_eq_true rfl) (Nat.le_refl _) (Nat.le_refl _) (Nat.le_of_ble_eq_true rfl) (by decide +kernel) ?_
  show V jLnS (2, 0, 0, kpT, some (.int 9), [], 0, 0) 0 0 9 [some (.ref 1000)] [.int 0, .int 9] []
  refine V.blk [(.ishr, 0, 0, 0, 0)] (by decide +kernel) (pc' := 10) (l' := [some (.ref 1000)]) (st' := [.int 9]) (hs' := []) rfl trivial rfl ?_
  exact V.iret rfl (Nat.le_refl _) (Nat.le_refl _) (by decide +kernel)
theorem jIx2_c (c : Int32) : CS jIx2 3 [.ref 1000, .int c, .int 0] (some (.int (ixL c))) := by
  refine CS.of rfl rfl (Nat.le_of_ble_eq_true rfl) rfl rfl ?_
  show V jIx2 (3, 0, 0, kpT, some (.int (ixL c)), [], 0, 0) 0 0 0 [some (.ref 1000), some (.int c), some (.int 0)] [] []
  refine V.blk [(.aload_n 0, 0, 0, 0, 0)] (by decide +kernel) (pc' := 1) (l' := [some (.ref 1000), some (.int c), some (.int 0)]) (st' := [.ref 1000]) (hs' := []) rfl trivial rfl ?_
  refine V.callVS (idx := 492) (as' := []) (rest := []) jLat_c rfl rfl ok_jLat rfl lkS_492 rfl (Nat.le_of_ble_eq_true rfl) (Nat.le_refl _) (Nat.le_refl _) (Nat.le_of_ble_eq_true rfl) (by decide +kernel) ?_
  show V jIx2 (3, 0, 0, kpT, some (.int (ixL c)), [], 0, 0) 0 0 4 [some (.ref 1000), some (.int c), some (.int 0)] [.int 1] []
  refine V.if_eq (tgt := 23) 19 (by decide +kernel) (by decide +kernel) (fun h => absurd h (by decide)) (fun _ => ?_)
  refine V.blk [(.aload_n 0, 0, 0, 0, 0)] (by decide +kernel) (pc' := 8) (l' := [some (.ref 1000), some (.int c), some (.int 0)]) (st' := [.ref 1000]) (hs' := []) rfl trivial rfl ?_
  refine V.gVal rfl rfl rfl (by decide +kernel) ?_
  refine V.blk [(.iload_n 1, 0, 0, 0, 0), (.iload_n 2, 0, 0, 0, 0), (.aload_n 0, 0, 0, 0, 0)] (by decide +kernel) (pc' := 14) (l' := [some (.ref 1000), some (.int c), some (.int 0)]) (st' := [.ref 1000, .int 0, .int c, .ref 1001]) (hs' := []) rfl trivial rfl ?_
  refine V.callVS (idx := 505) (as' := []) (rest := [.int 0, .int c, .ref 1001]) jLnS_c rfl rfl ok_jLnS rfl lkS_505 rfl (Nat.le_of_ble_eq_true rfl) (Nat.le_refl _) (Nat.le_refl _) (Nat.le_of_ble_eq_true rfl) (by decide +kernel) ?_
  show V jIx2 (3, 0, 0, kpT, some (.int (ixL c)), [], 0, 0) 0 0 17 [some (.ref 1000), some (.int c), some (.int 0)] [.int 9, .int 0, .int c, .ref 1001] []
  refine V.callSS (idx := 637) (as' := [.ref 1001, .int c, .int 0, .int 9]) (rest := []) (jIxL_c c) rfl rfl ok_jIxL lkS_637 rfl (Nat.le_of_ble_eq_true rfl) (Nat.le_refl _) (Nat.le_refl _) (Nat.le_of_ble_eq_true rfl) (by decide +kernel) ?_
  show V jIx2 (3, 0, 0, kpT, some (.int (ixL c)), [], 0, 0) 0 0 20 [some (.ref 1000), some (.int c), some (.int 0)] [.int (ixL c)] []
  refine V.blk [(.goto 16, 36, 0, 0, 0)] (by decide +kernel) (pc' := 36) (l' := [some (.ref 1000), some (.int c), some (.int 0)]) (st' := [.int (ixL c)]) (hs' := []) rfl trivial rfl ?_
  exact V.iret rfl (Nat.le_refl _) (Nat.le_refl _) (by decide +kernel)
theorem jIx1_c (c : Int32) : CS jIx1 4 [.ref 1000, .int c] (some (.int (ixL c))) := by
  refine CS.of rfl rfl (Nat.le_of_ble_eq_true rfl) rfl rfl ?_
  show V jIx1 (4, 0, 0, kpT, some (.int (ixL c)), [], 0, 0) 0 0 0 [some (.ref 1000), some (.int c)] [] []
  refine V.blk [(.aload_n 0, 0, 0, 0, 0), (.iload_n 1, 0, 0, 0, 0), (.iconst 0, 0, 0, 0, 0)] (by decide +kernel) (pc' := 3) (l' := [some (.ref 1000), some (.int c)]) (st' := [.int 0, .int c, .ref 1000]) (hs' := []) rfl trivial rfl ?_
  refine V.callVS (idx := 633) (as' := [.int c, .int 0]) (rest := []) (jIx2_c c) rfl rfl ok_jIx2 rfl lkS_633 rfl (Nat.le_of_ble_eq_true rfl) (Nat.le_refl _) (Nat.le_refl _) (Nat.le_of_ble_eq_true rfl) (by decide +kernel) ?_
  exact V.iret rfl (Nat.le_refl _) (Nat.le_refl _) (by decide +kernel)
theorem jB_small : ∀ n : Nat, n < 256 → jB (Int32.ofNat n) = (if n < 128 then Int32.ofNat n else Int32.ofInt ((n : Int) - 256)) := by decide +kernel
theorem ixL_small : ∀ n : Nat, n < 256 → ixL (Int32.ofNat n) = jIdx (Int32.ofNat n) := by decide +kernel
theorem jC_nat (x : Int32) : ∃ n : Nat, n < 65536 ∧ jC x = Int32.ofNat n := by
  refine ⟨(x.toUInt32 % 65536).toNat, ?_, ?_⟩
  · rw [UInt32.toNat_mod]
    exact Nat.mod_lt _ (by decide)
  · unfold jC
    rw [← UInt32.toInt32_ofNat', UInt32.ofNat_toNat]
theorem ofNat_ne {n k : Nat} (hn : n < 65536) (hk : k < 256) (h : 256 ≤ n) : ¬ Int32.ofNat n = Int32.ofNat k := by
  intro e
  have h1 := congrArg Int32.toInt e
  rw [nI_toInt (n := n) (by omega) |> fun h => (show (Int32.ofNat n).toInt = (n : Int) from h), nI_toInt (n := k) (by omega) |> fun h => (show (Int32.ofNat k).toInt = (k : Int) from h)] at h1
  omega
theorem ixL_eq (x : Int32) : ixL (jC x) = jIdx (jC x) := by
  obtain ⟨n, hn, e⟩ := jC_nat x
  rw [e]
  by_cases h : n < 256
  · exact ixL_small n h
  · have hc : canE (Int32.ofNat n) = 0 := by
      unfold canE
      have h1 : ¬ Int32.ofNat n < 0 := nI_pos (n := n) (by omega)
      have h2 : ¬ Int32.ofNat n ≤ 255 := nI_ge (a := 255) (b := n) (by omega) (by omega)
      rw [if_neg h1, if_neg h2]
    have h3 : ∀ k : Nat, k < 256 → ¬ Int32.ofNat n = Int32.ofNat k := fun k hk => ofNat_ne hn hk (by omega)
    unfold ixL jIdx
    rw [if_pos hc, if_neg (show ¬ Int32.ofNat n = 102 from h3 102 (by decide)), if_neg (show ¬ Int32.ofNat n = 103 from h3 103 (by decide)), if_neg (show ¬ Int32.ofNat n = 110 from h3 110 (by decide)), if_neg (show ¬ Int32.ofNat n = 109 from h3 109 (by decide)), if_neg (show ¬ Int32.ofNat n = 115 from h3 115 (by decide)), if_neg (show ¬ Int32.ofNat n = 113 from h3 113 (by decide)), if_neg (show ¬ Int32.ofNat n = 106 from h3 106 (by decide)), if_neg (show ¬ Int32.ofNat n = 100 from h3 100 (by decide)), if_neg (show ¬ Int32.ofNat n = 119 from h3 119 (by decide))]
/-- behind a call that touches nothing -/
theorem call_pure {p : Program} {la : Launch} {e : Env} {R : Room} {s : State} {m : MethodId} {args : Array Value} {below : List Frame} {meth : Method} {c : Code} {H : Heap} {locs : List Loc} {cells slots pc : Nat} {ls : Array Slot} {stk rest : List Value} {Q : State → Prop}
    {G : GX} {ad ad' : Nat → Nat} {A : Nat → Prop} {hs : List ce} {v0 : Int32} {av : Array Value} (hP : va_P G.1 clsL (cz G ad hs) H) (hS : va_S A s.heap H locs) (hA : ∀ q, s.heap.size ≤ q → A q)
    (hr : va_Run p la e R s m args below meth c H locs cells slots 0 0 (F0 m pc ls stk) rest (Vq G (some (.int v0)) [] kpT ad' (va_A (cz G ad' []) H.size) av) (va_A (cz G ad' []) H.size))
    (k : ∀ (H1 : Heap) (locs1 : List Loc), va_P G.1 clsL (cz G ad hs) H1 → va_S A s.heap H1 locs1 → W p la e R s m args below meth c H1 locs1 cells slots Q (F0 m (pc + 3) ls (.int v0 :: rest))) :
    W p la e R s m args below meth c H locs cells slots Q (F0 m pc ls stk) := by
  intro T hT X
  obtain ⟨v, st₀, t, T', L, h0, X', hL, e1, e2, ⟨⟨ad1, hk, hv, hP1, hD1⟩, hz, hkk⟩, st⟩ := hr T hT X
  have hv2 : v = some (.int v0) := Outcome.returned.inj hv
  subst hv2
  rw [h0] at hz hkk
  have hno : ∀ q : Nat, q < H.size → ¬ va_A (cz G ad' []) H.size q := by
    intro q hq h
    rcases h with ⟨k, e, h⟩ | h
    · simp [cz] at h
    · omega
  obtain ⟨t2, a1, b1⟩ := k T'.heap (locs ++ L) (by rw [e1]; exact fun i q hq => (hP i q hq).kept (hkk q.1 (hP i q hq).lt (hno _ (hP i q hq).lt)))
    ⟨Nat.le_trans hS.1 (by rw [e1]; exact hz), fun q h1 h2 => by rw [e1, hkk q (Nat.lt_of_lt_of_le h1 hS.1) (hno q (Nat.lt_of_lt_of_le h1 hS.1))]; exact hS.2.1 q h1 h2, fun q hq => by
      rcases List.mem_append.mp hq with h | h
      · exact hS.2.2 q h
      · rcases hL q h with ⟨k, e, h⟩ | h
        · simp [cz] at h
        · exact hA _ (Nat.le_trans hS.1 h)⟩ T' rfl X'
  exact ⟨t2, st t2 a1, b1⟩
set_option maxHeartbeats 1000000 in
theorem V.indexOf {M : MD} {Z : VZ} {cells slots pc : Nat} {l : List (Option Value)} {st : List Value} {hs : List ce} {x : Int32} (hl : l[2]? = some (some (.int x))) (hdp : 7 ≤ Z.1) (hC : cells ≤ Z.2.1) (hL : slots ≤ Z.2.2.1) (ho : M.1 = 4) (hrest : (st.map fun v => v.category).sum ≤ 8)
    (h1 : decode M.2.2.1 pc = .ok (.ldc 103, 2)) (h2 : decode M.2.2.1 (pc + 2) = .ok (.iload_n 2, 1)) (h3 : decode M.2.2.1 (pc + 3) = .ok (.i2c, 1)) (h4 : decode M.2.2.1 (pc + 4) = .ok (.invokevirtual 105, 3))
    (k : V M Z cells slots (pc + 7) l (.int (jIdx (jC x)) :: st) hs) : V M Z cells slots pc l st hs := by
  intro G p la e s m args below meth c ad0 A hA cx ad ls H locs hkp hll hP hD hS
  obtain ⟨hx, hb, hml, hown, hts, hr, hlk, hnm, hK, hX⟩ := id cx
  have hown2 : s.vm.findClass "DesertJars$Law" = some m.cls := by rw [ho] at hown; exact hown
  refine va_ldcS hx hb hown2 hX.2.2.1 h1 ?_
  refine lv_iload_n hx hb h2 rfl (hll.2.2.2 2 (.int x) hl) ?_
  refine lv_i2c hx hb h3 rfl ?_
  have hpre := call_pre (G := G) (hc := []) (hs := []) (H := H) (locs := locs) (ρ := fun j => j) (ad := fun k => if k = 1000 then G.2.2 0 else G.2.2 1) (as' := [.ref 1000, .int (jC x)]) (A := A) (Sub.self []) (fun k q hq => by simp [cz] at hq) ⟨fun i j p q hi => by simp [cz] at hi, fun k q hq => by simp [cz] at hq⟩ hS hA hK hX
  have hrv := vk_recv (i := 0) hX.2.2.2.1 (by decide) hS
  refine call_pure (ad' := fun k => if k = 1000 then G.2.2 0 else G.2.2 1) (v0 := jIdx (jC x)) (rest := st.map (cv ad)) hP hS hA (va_runV (As := [.int (jC x)]) (b := G.2.2 0) (n := 1) ⟨hx, hb, hml, hown, hts⟩ (by rw [← ixL_eq]; exact jIx1_c (jC x) G la (fun k => if k = 1000 then G.2.2 0 else G.2.2 1) H.size (if_pos rfl) (if_neg (by decide))) (cwV 1 hts (wsV_good ok_jIx1 (by rw [ho]; exact lkW_105)) rfl rfl rfl ⟨rfl, ok_jIx1.1.2.2.1⟩ ⟨(show 4 + 1 ≤ Z.1 by omega), ?_⟩) ⟨hpre.1, hrv, hpre.2⟩ rfl rfl hll.1 rfl (lv_room (by rw [map_cat]; exact hrest)) h4 ⟨hC, hL⟩) (fun H1 locs1 hP1 hS1 => ?_)
  · show 8 + (2 + 11) + (40 * 4 + 2080) ≤ 40 * Z.1 + 2080
    omega
  · exact k G p la e s m args below meth c ad0 A hA cx ad ls H1 locs1 hkp hll hP1 hD hS1
