/-! THE LIBRARY OF THIS PROOF: an abstract machine over local worlds, sound for the machine.
A world is a list of cells; an abstract reference is a place in that list; 'ad' gives the place's address. -/
abbrev ce : Type := (Nat × vp_A) ⊕ (Nat × List Value)
abbrev GX : Type := va_G × (Nat → ClassId) × (Nat → Nat)
/-- a method: its owner's number, its name, its bytes, how many locals, what it returns, what else its walk stands on -/
abbrev MD : Type := Nat × MethodName × ByteArray × Nat × Option FieldType × (GX → State → (Nat → Nat) → (Nat → Prop) → Prop)
def pT : GX → State → (Nat → Nat) → (Nat → Prop) → Prop := fun _ _ _ _ => True
def cv (ad : Nat → Nat) : Value → Value
  | .ref k => .ref (ad k)
  | .int x => .int x
  | .long x => .long x
  | .float x => .float x
  | .double x => .double x
  | .null => .null
  | .retAddr x => .retAddr x
def rfL (fs : List Value) (j : Nat) : Option Nat := match fs[j]? with
  | some (.ref a) => some a
  | _ => none
/-- a cell; what has the number 13 in place of a class is an array of references -/
def cE (G : GX) (ad : Nat → Nat) : ce → va_E
  | .inl (t, x) => .inl (G.2.1 t, x)
  | .inr (ci, fs) => match Nat.blt ci 13 with
    | true => .inr (ci, fs.map (cv ad))
    | false => .inl (G.2.1 4, fs.length, .inr (.inr (.inr (.inr (rfL (fs.map (cv ad)))))))
theorem cE_o {G : GX} {ad : Nat → Nat} {ci : Nat} {fs : List Value} (h : ci < 13) : cE G ad (.inr (ci, fs)) = .inr (ci, fs.map (cv ad)) := by
  have : Nat.blt ci 13 = true := by simpa [Nat.blt_eq] using h
  simp [cE, this]
def cz (G : GX) (ad : Nat → Nat) (hs : List ce) : va_W := hs.mapIdx (fun k c => (ad k, cE G ad c))
theorem cz_get (G : GX) (ad : Nat → Nat) (hs : List ce) (k : Nat) : (cz G ad hs)[k]? = (hs[k]?).map (fun c => (ad k, cE G ad c)) := by
  simp [cz]
theorem cz_at {G : GX} {ad : Nat → Nat} {hs : List ce} {k : Nat} {c : ce} (h : hs[k]? = some c) : (cz G ad hs)[k]? = some (ad k, cE G ad c) := by
  rw [cz_get, h]; rfl
theorem cz_o {G : GX} {ad : Nat → Nat} {hs : List ce} {k ci : Nat} {fs : List Value} (h : hs[k]? = some (.inr (ci, fs))) (hc : ci < 13) : (cz G ad hs)[k]? = some (ad k, .inr (ci, fs.map (cv ad))) := by
  rw [cz_at h, cE_o hc]
theorem cz_set (G : GX) (ad : Nat → Nat) (hs : List ce) (k : Nat) (c : ce) : (cz G ad hs).set k (ad k, cE G ad c) = cz G ad (hs.set k c) := by
  apply List.ext_getElem?
  intro i
  rw [cz_get, List.getElem?_set, List.getElem?_set]
  by_cases h : k = i
  · subst h
    simp only [if_true]
    by_cases h2 : k < hs.length
    · simp [cz, h2]
    · simp [cz, h2]
  · simp only [h, if_false]
    rw [cz_get]
theorem cz_len (G : GX) (ad : Nat → Nat) (hs : List ce) : (cz G ad hs).length = hs.length := by simp [cz]
def tysG (G : GX) : List (ClassId × FieldType) := [(G.2.1 0, .int), (G.2.1 1, .byte), (G.2.1 2, .boolean), (G.2.1 3, .long), (G.2.1 4, .object "DesertJars$Land")]
/-- nest links of the constructors -/
def nestW : List Cond := tables_1.filter (fun w => match w with
  | .methodLinkNest .. => true
  | _ => false)
/-- what holds beside the tables: nest links, the array of lands, the String constant -/
def XF (G : GX) (A : Nat → Prop) (U : State) (H : Heap) : Prop :=
  (∀ w ∈ nestW, va_Nw w U) ∧ va_AO "DesertJars$Land" U ∧ vk_R "DesertJars$Law" 103 "fgnmsqjdw" (G.2.2 0) U ∧ vk_S 1 [9] [[102, 103, 110, 109, 115, 113, 106, 100, 119]] (fun _ => G.2.2 0) (fun _ => G.2.2 1) A U H ∧ va_Z "java/lang/String" "COMPACT_STRINGS" "Z" (.int 1) A U H
theorem nestW_is {w : Cond} (h : w ∈ nestW) : ∃ a i x b, w = .methodLinkNest a i x b := by
  have h1 := (List.mem_filter.mp h).2
  cases w <;> first | exact ⟨_, _, _, _, rfl⟩ | (simp at h1)
theorem XF.warm {G : GX} {A : Nat → Prop} {s U : State} {H : Heap} (hW : s.WarmedH U.vm) (h : XF G A s H) : XF G A U H := by
  obtain ⟨h1, h2, h3, h4, h5⟩ := h
  refine ⟨fun w hw => ?_, h2.moved hW.alike, h3.warm hW, h4.moved hW.alike, h5.moved hW.alike⟩
  obtain ⟨a, i, x, b, rfl⟩ := nestW_is hw
  exact va_Nw.warmM hW (h1 _ hw)
theorem XF.same {G : GX} {A : Nat → Prop} {s U : State} {H : Heap} (hv : U.vm = s.vm) (h : XF G A s H) : XF G A U H := by
  obtain ⟨h1, h2, h3, h4, h5⟩ := h
  have hal : s.vm.Alike U.vm := by rw [hv]; exact Vm.Alike.refl _
  refine ⟨fun w hw => ?_, h2.moved hal, h3.same hv, h4.moved hal, h5.moved hal⟩
  obtain ⟨a, i, x, b, rfl⟩ := nestW_is hw
  exact va_Nw.same rfl hv.symm (h1 _ hw)
theorem XF.kept {G : GX} {A : Nat → Prop} {s : State} {H H1 : Heap} (h : XF G A s H) (hq : ∀ a : Nat, a < H.size → ¬ A a → H1[a]? = H[a]?) : XF G A s H1 := by
  obtain ⟨h1, h2, h3, h4, h5⟩ := h
  exact ⟨h1, h2, h3, h4.kept hq, h5.kept hq⟩
theorem XF.narrow {G : GX} {A B : Nat → Prop} {s : State} {H : Heap} (h : XF G A s H) (hAB : ∀ q, B q → A q) : XF G B s H := by
  obtain ⟨h1, h2, h3, h4, h5⟩ := h
  exact ⟨h1, h2, h3, h4.narrow hAB, h5.narrow hAB⟩
def rmD (d mc ms : Nat) : Room := { frames := d, cells := mc, slots := ms, locals := 40 * d + 2080 }
def wM (M : MD) : List Cond := .code M.2.1 M.2.2.1 M.2.2.2.1 M.2.2.2.2.1 :: tbl
/-- what a method's walk stands on -/
def Vcx (G : GX) (M : MD) (p : Program) (s : State) (m : MethodId) (args : Array Value) (meth : Method) (c : Code) (ad0 : Nat → Nat) (A : Nat → Prop) : Prop :=
  p.tables.exec = Jvm.exec ∧ c.code = M.2.2.1 ∧ c.maxLocals = M.2.2.2.1 ∧ s.vm.findClass (ownL.getD M.1 "") = some m.cls ∧ (∀ w ∈ tbl, w.before args s = true) ∧ meth.sig.returnType = M.2.2.2.2.1 ∧ meth.locks = false ∧ ((M.2.1.name = "<init>" → meth.name = "<init>") ∧ M.2.2.2.2.2 G s ad0 A) ∧ va_K G.1 clsL (tysG G) s ∧ XF G A s s.heap
def kpt (kp : Nat → Bool) (ad0 ad : Nat → Nat) : Prop := ∀ k, kp k = true → ad k = ad0 k
def kpT : Nat → Bool := fun _ => true
/-- the locals -/
def lr (ad : Nat → Nat) (ls : Array Slot) (n : Nat) (l : List (Option Value)) : Prop := ls.size = n ∧ l.length = n ∧ lv_wf ls ∧ ∀ (i : Nat) (v : Value), l[i]? = some (some v) → ls[i]? = some (.val (cv ad v))
/-- a method's end -/
def Vq (G : GX) (r : Option Value) (hsf : List ce) (kp : Nat → Bool) (ad0 : Nat → Nat) (A : Nat → Prop) : Array Value → State → Outcome → State → Prop := fun _ st oc t =>
  (∃ ad : Nat → Nat, kpt kp ad0 ad ∧ oc = .returned (r.map (cv ad)) ∧ va_P G.1 clsL (cz G ad hsf) t.heap ∧ va_D A (cz G ad hsf)) ∧ va_F A st t
/-- the aim of a walk: depth, room for cells and slots, places that stay, the answer, the world at last, how many cells and slots are made -/
abbrev VZ : Type := Nat × Nat × Nat × (Nat → Bool) × Option Value × List ce × Nat × Nat
/-- from this frame the method comes to its aim -/
def V (M : MD) (Z : VZ) (cells slots : Nat) (pc : Nat) (l : List (Option Value)) (st : List Value) (hs : List ce) : Prop :=
  ∀ (G : GX) (p : Program) (la : Launch) (e : Env) (s : State) (m : MethodId) (args : Array Value) (below : List Frame) (meth : Method) (c : Code) (ad0 : Nat → Nat) (A : Nat → Prop), (∀ q, s.heap.size ≤ q → A q) → Vcx G M p s m args meth c ad0 A →
    ∀ (ad : Nat → Nat) (ls : Array Slot) (H : Heap) (locs : List Loc), kpt Z.2.2.2.1 ad0 ad → lr ad ls M.2.2.2.1 l → va_P G.1 clsL (cz G ad hs) H → va_D A (cz G ad hs) → va_S A s.heap H locs →
    W p la e (rmD Z.1 Z.2.1 Z.2.2.1) s m args below meth c H locs cells slots (MQ below (Vq G Z.2.2.2.2.1 Z.2.2.2.2.2.1 Z.2.2.2.1 ad0 A) args s Z.2.2.2.2.2.2.1 Z.2.2.2.2.2.2.2 A) (F0 m pc ls (st.map (cv ad)))
/-- a method's contract: from the world hs with these arguments it answers r, with the world hsf -/
def CR (M : MD) (d rc rs mc ms : Nat) (kp : Nat → Bool) (as : List Value) (hs : List ce) (r : Option Value) (hsf : List ce) : Prop :=
  ∀ (G : GX) (la : Launch) (ad : Nat → Nat) (sz : Nat), Met la M.2.1 (wM M) (rmD d rc rs)
    (va_Pc (as.map (cv ad)) (fun U => U.heap.size = sz ∧ va_P G.1 clsL (cz G ad hs) U.heap ∧ (va_K G.1 clsL (tysG G) U ∧ XF G (va_A (cz G ad hs) sz) U U.heap) ∧ va_D (fun _ => True) (cz G ad hs)))
    (Vq G r hsf kp ad (va_A (cz G ad hs) sz)) mc ms (va_A (cz G ad hs) sz)
/-- with room for just what is made -/
abbrev C (M : MD) (d mc ms : Nat) (kp : Nat → Bool) (as : List Value) (hs : List ce) (r : Option Value) (hsf : List ce) : Prop := CR M d mc ms mc ms kp as hs r hsf
theorem lv_args_map (ad : Nat → Nat) : ∀ (as : List Value) (k : Nat), (∀ v ∈ as, v.category = 1) → ∀ (i : Nat) (v : Value), as[i]? = some v → (k + i, cv ad v) ∈ lv_args k (as.map (cv ad)) := by
  intro as
  induction as with
  | nil => intro k _ i v h; simp at h
  | cons a as ih =>
    intro k hc i v h
    have hca : (cv ad a).category = 1 := by
      have := hc a List.mem_cons_self
      cases a <;> first | rfl | exact this
    cases i with
    | zero =>
      simp at h
      subst h
      simp [lv_args]
    | succ i =>
      simp at h
      have h2 := ih (k + 1) (fun v hv => hc v (List.mem_cons_of_mem _ hv)) i v h
      simp only [List.map_cons, lv_args, hca]
      refine List.mem_cons_of_mem _ ?_
      have e : k + 1 + i = k + (i + 1) := by omega
      rw [e] at h2
      simpa using h2
theorem lg_sl_len (ad : Nat → Nat) : ∀ (as : List Value), (∀ v ∈ as, v.category = 1) → (lg_sl (as.map (cv ad))).length = as.length := by
  intro as
  induction as with
  | nil => intro _; rfl
  | cons a as ih =>
    intro hc
    have hca : (cv ad a).category = 1 := by
      have := hc a List.mem_cons_self
      cases a <;> first | rfl | exact this
    have h2 := ih (fun v hv => hc v (List.mem_cons_of_mem _ hv))
    simp only [lg_sl] at h2 ⊢
    simp [hca, h2]
theorem C.of {M : MD} {d rc rs mc ms : Nat} {kp : Nat → Bool} {as : List Value} {hs : List ce} {r : Option Value} {hsf : List ce} (hy : plainName M.2.1.cls = true) (ho : ownL.getD M.1 "" = M.2.1.cls) (hl : as.length ≤ M.2.2.2.1) (hc : as.all (fun v => decide (v.category = 1)) = true) (hpt : M.2.2.2.2.2 = pT)
    (h : V M (d, rc, rs, kp, r, hsf, mc, ms) 0 0 0 (as.map some ++ List.replicate (M.2.2.2.1 - as.length) none) [] hs) : CR M d rc rs mc ms kp as hs r hsf := by
  intro G la ad sz
  refine Met.ofW (cc := M.2.2.1) (maxL := M.2.2.2.1) (ret := M.2.2.2.2.1) (ws' := tbl) hy rfl ?_
  intro p e s m args below meth c s₁ B hml hv
  obtain ⟨rfl, hsz, hP, ⟨hK, hX⟩, hD0⟩ := hv
  have hts := atoms_spec (ws := wM M) B.pre
  have hown : s.vm.findClass M.2.1.cls = some m.cls := findClass_of_methodNamed B.named
  have hin : meth.name = M.2.1.name := (name_of_methodNamed B.named B.method).1
  subst hsz
  have hc2 : ∀ v ∈ as, v.category = 1 := fun v hv => by
    have := List.all_eq_true.mp hc v hv
    simpa using this
  rw [lg_entry_eq]
  refine h G p la e s m (as.map (cv ad)).toArray below meth c ad (va_A (cz G ad hs) s.heap.size) (fun q hq => Or.inr hq) ⟨B.exec, B.bytes, hml, by rw [ho]; exact hown, fun w hw => hts w (List.mem_cons_of_mem _ hw), B.returns, B.notSynchronized, ⟨fun h => hin.trans h, by rw [hpt]; exact trivial⟩, hK, hX⟩ ad _ s.heap [] (fun _ _ => rfl) ?_ hP hD0.self va_S.rf
  have he := lv_entry (as.map (cv ad)) (n := M.2.2.2.1) (by rw [lg_sl_len ad as hc2]; exact hl)
  refine ⟨he.1, by simp; omega, he.2.1, fun i v hi => ?_⟩
  have hi2 : as[i]? = some v := by
    rw [List.getElem?_append] at hi
    split at hi
    · rw [List.getElem?_map] at hi
      cases h9 : as[i]? with
      | none => rw [h9] at hi; simp at hi
      | some w => rw [h9] at hi; simp at hi; rw [hi]
    · rw [List.getElem?_replicate] at hi
      split at hi <;> simp at hi
  have := lv_args_map ad as 0 hc2 i v hi2
  rw [Nat.zero_add] at this
  exact he.2.2 _ this
