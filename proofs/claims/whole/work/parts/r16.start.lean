/-! THE CLAIM OUT OF ONE WALK OF THE LAW'S BODY. Your part is whole_start (and what it stands on); all else here is the same for every law, but numbers. -/
def R_law : String := "DesertJarsLaw"
def lw_P (b : Addr) (xs : List Int32) (args : Array Value) (s : State) : Prop := args = #[.ref b] ∧ s.IntsAt b xs ∧ xs.length ≤ 384 ∧ (Jvm.Cond.and given_1 narrow_1).before args s = true
def lw_Q (_ : Array Value) (s : State) (o : Outcome) (t : State) : Prop := o = .returned (some (.int 1)) ∧ Framed s o t [] 522958 7533376
def lw_Z (below : List Frame) (a : Array Value) (s : State) : State → Prop := fun t => ∃ o, t.status = .running ∧ Ended t below o ∧ lw_Q a s o t
/-- the law's own end, with 1 on the stack, nothing written that was there before, its room as the claim has it -/
theorem lw_ret {p : Program} {l : Launch} {e : Env} {s : State} {m : MethodId} {below : List Frame} {meth : Method} {c : Code} {b : Nat} (hx : p.tables.exec = Jvm.exec) (hb : c.code = code) (hr : meth.sig.returnType = ret) (hlocks : meth.locks = false) {pc : Nat} {H : Heap} {ls : Array Slot} (hdg : decode code pc = .ok (.ireturn, 1)) : W p l e room_1 s m #[Value.ref b] below meth c H [] 522958 7533376 (lw_Z below #[Value.ref b] s) (F0 m pc ls [.int 1]) := by
  intro T hT X
  obtain ⟨fs, hret, hrun, hended, hW, hframe⟩ := X.leave (v := some (.int 1)) (hlocks := hlocks) (fun h => by rw [hr] at h; cases h)
  have hmeth' : T.vm.method? m = some meth := X.method'
  refine ⟨T.setFrames fs, ?_, .returned (some (.int 1)), hrun, hended, rfl, ⟨_, rfl⟩, hW, hframe⟩
  jvm_step X.here [X.here.top, hx, hb, hdg, hmeth', hr, ret, narrow_b1]
  (try refine ⟨rfl, ?_⟩); (try refine ⟨rfl, ?_⟩)
  first | (intro acts; rw [hret _ acts rfl rfl rfl]) | rw [hret _ _ rfl rfl rfl]
  exact Steps.refl _
/-- what holds at the law's entry: the machine, the code, the tables' words (any of lw_tbl by 'hts w (by decide +kernel)'), the script of L ints xs at the cell b, what the Statement gives of the start (any of its parts by flat_of_before) -/
def lw_At (p : Program) (s : State) (m : MethodId) (meth : Method) (c : Code) (b L : Nat) (xs : Nat → Int32) : Prop :=
  p.tables.exec = Jvm.exec ∧ c.code = code ∧ meth.sig.returnType = ret ∧ c.maxLocals = 4 ∧ s.vm.findClass R_law = some m.cls ∧ (∀ w ∈ lw_tbl, w.before #[Value.ref b] s = true) ∧ va_X b L xs s s.heap ∧ b < s.heap.size ∧ meth.locks = false ∧ (Jvm.Cond.and given_1 narrow_1).before #[Value.ref b] s = true

def iPos : List Nat := [150, 317, 71, 64, 114, 347, 187, 247, 241, 381, 32, 24, 1196]
theorem iAll : ∀ c, c < 13 → tables_1[iPos.getD c 0]? = some (Cond.instantiable (clD c).1 (clD c).2.2) := by decide +kernel
theorem arr_of {s : State} {args : Array Value} {ty : FieldType} (h : (Cond.arrayClass ty).before args s = true) (hra : ∀ (U : State) (cA : ClassId), U.vm.findClass ("[" ++ ty.toString) = some cA → va_RA U cA ty) : ∃ cA : ClassId, ArrOfT s cA ty ∧ va_RA s cA ty := by
  obtain ⟨c, k, comp, h1, h2, h3⟩ := Cond.arrayClass_spec h
  exact ⟨c, fun n z => ⟨fun k h => (by cases h), k, h2, comp, h3⟩, hra s c h1⟩
theorem arr_over {s : State} (h : va_AO "DesertJars$Land" s) : ∃ cA : ClassId, ArrOfT s cA (.object "DesertJars$Land") ∧ va_RA s cA (.object "DesertJars$Land") := by
  obtain ⟨comp, c, k, h1, h2, h3, h4, h5⟩ := Cond.arrayOver_spec h
  exact ⟨c, fun n z => ⟨fun k h => (by cases h), k, h3, comp, h4⟩, k, comp, h3, h4, h1, h5⟩
theorem end_of {below : List Frame} {args : Array Value} {s : State} {G : GX} {ad0 : Nat → Nat} {t : State} (h : MQ below (Vq G (some (.int 1)) [] kpS ad0 (fun q => s.heap.size ≤ q)) args s 522958 7533376 (fun q => s.heap.size ≤ q) t) : lw_Z below args s t := by
  obtain ⟨o, h1, h2, ⟨⟨ad, -, h3, -, -⟩, -⟩, L, ⟨f1, f2, f3, f4, f5, f6, f7, f8⟩, hL⟩ := h
  refine ⟨o, h1, h2, h3, f1, f2, f3, f4, f5, f6, f7, fun a c hac => ?_⟩
  obtain ⟨c', g1, g2, g3, g4⟩ := f8 a c hac
  refine ⟨c', g1, g2, g3, fun i _ => g4 i (fun hm => ?_)⟩
  have := hL _ hm
  have hlt := (Array.getElem?_eq_some_iff.mp hac).1
  exact absurd this (Nat.not_le.mpr hlt)
set_option maxHeartbeats 4000000 in
theorem whole_of {p : Program} {e : Env} {s : State} {m : MethodId} {below : List Frame} {meth : Method} {c : Code} (l : Launch) {b L : Nat} {xs : Nat → Int32} (C0 : lw_At p s m meth c b L xs) (hV : V (mLaw b L xs) ZL 0 0 0 [some (.ref 1000), none, none, none] [] []) : W p l e room_1 s m #[Value.ref b] below meth c s.heap [] 0 0 (lw_Z below #[Value.ref b] s) (entryFrame m ([Value.ref b] : List Value).toArray 4) := by
  obtain ⟨hx, hb, hr, hml, hown, hts, hX, hbl, hlocks, hgv⟩ := id C0
  have hts2 : ∀ w ∈ tbl, w.before #[Value.ref b] s = true := fun w hw => hts w (List.mem_filter.mp hw).1
  have htab : ∀ w ∈ tables_1, w.before #[Value.ref b] s = true := fun w hw => hts w (List.mem_append_right _ hw)
  have hfl := flat_of_before _ hgv
  have hno : ∀ a : Nat, a < s.heap.size → ¬ (fun q : Nat => s.heap.size ≤ q) a := fun a h => Nat.not_le.mpr h
  have hkn : ∀ c : Nat, ∃ q : ClassId × (Nat → Nat), c < 13 → u_Kn s (clD c).1 (clD c).2.1 (clD c).2.2 q.1 q.2 := by
    intro c
    by_cases h : c < 13
    · obtain ⟨cC, iS, hk⟩ := u_known (n := (clD c).2.2) hts2 (clI c h) (htab _ (List.mem_of_getElem? (iAll c h)))
      exact ⟨(cC, iS), fun _ => hk⟩
    · exact ⟨(0, fun _ => 0), fun h2 => absurd h2 h⟩
  obtain ⟨dd, hdd⟩ := Classical.axiomOfChoice hkn
  have hAO : va_AO "DesertJars$Land" s := va_AO.of (htab _ (List.mem_of_getElem? (i := 70) (by decide +kernel)))
  obtain ⟨t0, a0, b0⟩ := arr_of (ty := .int) (hts2 _ ac_int) (fun _ _ h => h)
  obtain ⟨t1, a1, b1⟩ := arr_of (ty := .byte) (hts2 _ ac_byte) (fun _ _ h => h)
  obtain ⟨t2, a2, b2⟩ := arr_of (ty := .boolean) (hts2 _ ac_boolean) (fun _ _ h => h)
  obtain ⟨t3, a3, b3⟩ := arr_of (ty := .long) (hts2 _ ac_long) (fun _ _ h => h)
  obtain ⟨t4, a4, b4⟩ := arr_over hAO
  obtain ⟨adK, adV, hSs, hEv⟩ := vk_Sof (args := #[Value.ref b]) (s := s) (N := 1) (tm := fun _ => .string "DesertJars$Law" 103) (len := [9]) (byt := [[102, 103, 110, 109, 115, 113, 106, 100, 119]]) (A := fun q : Nat => s.heap.size ≤ q)
    (fun i hi => by have : i = 0 := by omega
                    subst this; decide) (fun i hi => hfl _ (by decide +kernel)) (fun i hi => hfl _ (by decide +kernel)) (fun i hi => hfl _ (by decide +kernel))
    (fun i hi => by have : i = 0 := by omega
                    subst this; exact hfl _ (by decide +kernel))
    (fun i hi j hj => by have : i = 0 := by omega
                         subst this
                         have h9 : j < 9 := hj
                         have hc : j = 0 ∨ j = 1 ∨ j = 2 ∨ j = 3 ∨ j = 4 ∨ j = 5 ∨ j = 6 ∨ j = 7 ∨ j = 8 := by omega
                         rcases hc with rfl | rfl | rfl | rfl | rfl | rfl | rfl | rfl | rfl <;> exact hfl _ (by decide +kernel))
    (fun i j hi hj hne => by omega) hno
  have hSs2 : vk_S 1 [9] [[102, 103, 110, 109, 115, 113, 106, 100, 119]] (fun _ => adK 0) (fun _ => adV 0) (fun q : Nat => s.heap.size ≤ q) s s.heap := ⟨fun i hi => by
    have : i = 0 := by omega
    subst this
    exact hSs.1 0 (by decide), fun i j hi hj _ => by omega⟩
  have hRr : vk_R "DesertJars$Law" 103 "fgnmsqjdw" (adK 0) s := vk_R.of (htab _ (List.mem_of_getElem? (i := 544) (by decide +kernel))) (hEv 0 (by decide))
  have hCz : va_Z "java/lang/String" "COMPACT_STRINGS" "Z" (.int 1) (fun q : Nat => s.heap.size ≤ q) s s.heap := va_Zof (htab _ (List.mem_of_getElem? (i := 558) (by decide +kernel))) (htab _ (List.mem_of_getElem? (i := 15) (by decide +kernel))) (va_eqt (hfl _ (by decide +kernel))) hno
  let G : GX := ((fun c => (dd c).1, fun c => (dd c).2), (fun t => if t = 0 then t0 else if t = 1 then t1 else if t = 2 then t2 else if t = 3 then t3 else t4), fun k => if k = 0 then adK 0 else adV 0)
  have hK : va_K G.1 clsL (tysG G) s := by
    refine ⟨fun c q hq => ?_, fun k q hq => ?_⟩
    · have hc : c < 13 := (List.getElem?_eq_some_iff.mp hq).1
      have h2 := clG c hc
      rw [hq] at h2
      cases h2
      exact hdd c hc
    · have hk : k < 5 := (List.getElem?_eq_some_iff.mp hq).1
      have hc : k = 0 ∨ k = 1 ∨ k = 2 ∨ k = 3 ∨ k = 4 := by omega
      rcases hc with rfl | rfl | rfl | rfl | rfl <;> cases hq
      · exact ⟨a0, b0⟩
      · exact ⟨a1, b1⟩
      · exact ⟨a2, b2⟩
      · exact ⟨a3, b3⟩
      · exact ⟨a4, b4⟩
  have hXF : XF G (fun q : Nat => s.heap.size ≤ q) s s.heap := ⟨fun w hw => by
    obtain ⟨x1, x2, x3, x4, rfl⟩ := nestW_is hw
    exact va_Nw.of rfl (htab _ (List.mem_filter.mp hw).1), hAO, hRr, hSs2, hCz⟩
  have hl := lv_entry ([.ref b]) (n := 4) (Nat.le_of_ble_eq_true rfl)
  rw [lg_entry_eq]
  have h9 := hV G p l e s m #[Value.ref b] below meth c (fun _ => b) (fun q : Nat => s.heap.size ≤ q) (fun _ h => h) ⟨hx, hb, hml, hown, hts2, hr, hlocks, ⟨?_, rfl, hX, hbl, hno b hbl⟩, hK, hXF⟩ (fun _ => b) _ s.heap [] (fun _ _ => rfl) ⟨hl.1, rfl, hl.2.1, fun i v hi => ?_⟩ (fun k q hq => by simp [cz] at hq) ⟨fun i j p q hi => by simp [cz] at hi, fun k q hq => by simp [cz] at hq⟩ va_S.rf
  · intro T hT X
    obtain ⟨t, q1, q2⟩ := h9 T hT X
    exact ⟨t, q1, end_of q2⟩
  · exact fun h => absurd (show x.name = "<init>" from h) (by decide)
  · have hi0 : i = 0 ∧ v = .ref 1000 := by
      match i, hi with
      | 0, hi => simp at hi; exact ⟨rfl, hi.symm⟩
      | 1, hi => simp at hi
      | 2, hi => simp at hi
      | 3, hi => simp at hi
      | n + 4, hi => simp at hi
    obtain ⟨rfl, rfl⟩ := hi0
    exact hl.2.2 (0, .ref b) (by simp [lv_args])

