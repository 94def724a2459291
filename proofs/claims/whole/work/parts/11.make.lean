/-! RENAMING, MAKING OF ARRAYS AND OBJECTS -/
def inB (bd : List Nat) (k : Nat) : Bool := match bd with
  | [] => false
  | x :: r => match Nat.beq x k with
    | true => true
    | false => inB r k
theorem inB_mem : ∀ {bd : List Nat} {k : Nat}, inB bd k = true ↔ k ∈ bd := by
  intro bd k
  induction bd with
  | nil => simp [inB]
  | cons x r ih =>
    unfold inB
    cases h : Nat.beq x k with
    | true =>
      have := Nat.eq_of_beq_eq_true h
      simp [this]
    | false =>
      have h2 : ¬ x = k := Nat.ne_of_beq_eq_false h
      simp only [ih, List.mem_cons]
      constructor
      · exact fun z => Or.inr z
      · rintro (z | z)
        · exact absurd z.symm h2
        · exact z
theorem inB_not {bd : List Nat} {k : Nat} : inB bd k = false ↔ k ∉ bd := by
  rw [← inB_mem]; simp
def rok (bd : List Nat) : Value → Bool
  | .ref k => !(inB bd k)
  | _ => true
def ook (bd : List Nat) : Option Value → Bool
  | some v => rok bd v
  | none => true
def cok (bd : List Nat) : ce → Bool
  | .inl _ => true
  | .inr (_, fs) => fs.all (rok bd)
/-- places that stay: those below n but for some, and those from 1000 on -/
def kpN (n : Nat) (bs : List Nat) : Nat → Bool := fun k => (Nat.blt k n && !(inB bs k)) || Nat.ble 1000 k
theorem kpN_all {n : Nat} {bs : List Nat} {f : Nat → Bool} (h : (List.range n).all (fun k => inB bs k || f k) = true) (h2 : ∀ k, 1000 ≤ k → f k = true) {k : Nat} (hk : kpN n bs k = true) : f k = true := by
  unfold kpN at hk
  rw [Bool.or_eq_true] at hk
  rcases hk with hk | hk
  · rw [Bool.and_eq_true, Bool.not_eq_true'] at hk
    have h1 := List.all_eq_true.mp h k (List.mem_range.mpr (by simpa [Nat.blt_eq] using hk.1))
    rw [hk.2] at h1
    simpa using h1
  · exact h2 k (Nat.le_of_ble_eq_true hk)
theorem cv_ok {bd : List Nat} {ad ad1 : Nat → Nat} (h : ∀ k, k ∉ bd → ad1 k = ad k) {v : Value} (hv : rok bd v = true) : cv ad1 v = cv ad v := by
  cases v with
  | ref k =>
    have : k ∉ bd := by
      rw [← inB_not]
      simpa [rok] using hv
    show Value.ref (ad1 k) = Value.ref (ad k)
    rw [h k this]
  | _ => rfl
theorem map_cv_ok {bd : List Nat} {ad ad1 : Nat → Nat} (h : ∀ k, k ∉ bd → ad1 k = ad k) {st : List Value} (hv : st.all (rok bd) = true) : st.map (cv ad1) = st.map (cv ad) :=
  List.map_congr_left fun _ hm => cv_ok h (List.all_eq_true.mp hv _ hm)
theorem cE_ok {G : GX} {bd : List Nat} {ad ad1 : Nat → Nat} (h : ∀ k, k ∉ bd → ad1 k = ad k) {c : ce} (hv : cok bd c = true) : cE G ad1 c = cE G ad c := by
  rcases c with ⟨t, x⟩ | ⟨ci, fs⟩
  · rfl
  · have e := map_cv_ok h (show fs.all (rok bd) = true from hv)
    simp only [cE, e]
theorem lr_ok {ad ad1 : Nat → Nat} {ls : Array Slot} {n : Nat} {l : List (Option Value)} {bd : List Nat} (h : ∀ k, k ∉ bd → ad1 k = ad k) (hv : l.all (ook bd) = true) (hl : lr ad ls n l) : lr ad1 ls n l := by
  refine ⟨hl.1, hl.2.1, hl.2.2.1, fun i v hi => ?_⟩
  have hm : some v ∈ l := List.mem_of_getElem? hi
  rw [cv_ok h (show rok bd v = true from List.all_eq_true.mp hv _ hm)]
  exact hl.2.2.2 i v hi
theorem Sub.listJ {hs hc : List ce} {is : List Nat} (h1 : is.map (fun i => hs[i]?) = hc.map (fun c => some (rE (fun j => is.getD j j) c))) (hn : va_nd is = true) : Sub (fun j => is.getD j j) hc hs := by
  have hlen : is.length = hc.length := by
    have := congrArg List.length h1
    simpa using this
  have hget : ∀ j, j < hc.length → is[j]? = some (is.getD j j) := by
    intro j hj
    rw [List.getD_eq_getElem?_getD, List.getElem?_eq_getElem (by omega)]; rfl
  refine ⟨fun i j hi hj hij => va_nd_inj is hn i j (is.getD i i) (hget i hi) (by rw [show is.getD i i = is.getD j j from hij]; exact hget j hj), fun j c hj => ?_⟩
  have hjl := (List.getElem?_eq_some_iff.mp hj).1
  have h2 := congrArg (fun L => L[j]?) h1
  simp only [List.getElem?_map, hget j hjl, hj, Option.map_some] at h2
  exact Option.some.inj h2
/-- places are named anew; what isn't named any more is forgotten -/
theorem V.ren {M : MD} {Z : VZ} {cells slots pc : Nat} {l1 l2 : List (Option Value)} {st1 st2 : List Value} {hs1 hs2 : List ce} (is : List Nat) (h1 : is.map (fun i => hs1[i]?) = hs2.map (fun c => some (rE (fun j => is.getD j j) c))) (hn : va_nd is = true)
    (hl : l2.map (Option.map (cv (fun j => is.getD j j))) = l1) (hst : st2.map (cv (fun j => is.getD j j)) = st1) (hk : ∀ k, Z.2.2.2.1 k = true → is.getD k k = k) (k : V M Z cells slots pc l2 st2 hs2) : V M Z cells slots pc l1 st1 hs1 := by
  intro G p la e s m args below meth c ad0 A hA cx ad ls H locs hkp hl1 hP hD hS
  have hSub := Sub.listJ h1 hn
  have h9 := k G p la e s m args below meth c ad0 A hA cx (fun j => ad (is.getD j j)) ls H locs (fun k hk2 => by
    show ad (is.getD k k) = ad0 k
    rw [hk k hk2]; exact hkp k hk2) ?_ (hSub.P hP) (hSub.D hD) hS
  · have e3 : st1.map (cv ad) = st2.map (cv (fun j => ad (is.getD j j))) := by
      rw [← hst, List.map_map]
      apply List.map_congr_left
      intro v _
      exact cv_cv ad _ v
    rw [e3]; exact h9
  · refine ⟨hl1.1, ?_, hl1.2.2.1, fun i v hi => ?_⟩
    · rw [← hl1.2.1, ← hl, List.length_map]
    · have : l1[i]? = some (some (cv (fun j => is.getD j j) v)) := by
        rw [← hl, List.getElem?_map, hi]; rfl
      have h3 := hl1.2.2.2 i _ this
      rw [cv_cv] at h3
      exact h3
theorem cz_app {G : GX} {ad ad1 : Nat → Nat} {hs : List ce} {c : ce} {q : Nat} (h : ∀ k, k ∉ [hs.length] → ad1 k = ad k) (hq : ad1 hs.length = q) (hw : hs.all (cok [hs.length]) = true) : cz G ad1 (hs ++ [c]) = cz G ad hs ++ [(q, cE G ad1 c)] := by
  apply List.ext_getElem?
  intro k
  rw [cz_get, List.getElem?_append, List.getElem?_append, cz_len]
  by_cases hk : k < hs.length
  · simp only [hk, if_true]
    rw [cz_get, List.getElem?_eq_getElem hk]
    have h2 := cE_ok (G := G) h (List.all_eq_true.mp hw hs[k] (List.getElem_mem hk))
    simp only [Option.map_some, h2]
    rw [h k (by simp; omega)]
  · simp only [hk, if_false]
    by_cases hk2 : k - hs.length = 0
    · have hk3 : k = hs.length := by omega
      subst hk3
      simp [hq]
    · have : ∀ {α : Type} (x : α), [x][k - hs.length]? = none := fun x => List.getElem?_eq_none (by simp; omega)
      rw [this, this]; rfl
section MKA
variable {M : MD} {Z : VZ} {cells slots pc idx : Nat} {l : List (Option Value)} {st : List Value} {hs : List ce}
set_option maxHeartbeats 1000000 in
theorem V.newA {n : Int32} {N t : Nat} {ty : FieldType} {atype : ArrayType} {a0 : vp_A} (harr : Cond.arrayClass (newarray.typeOf atype) ∈ tbl) (hty : newarray.typeOf atype = ty) (ht : ∀ G : GX, (tysG G)[t]? = some (G.2.1 t, ty)) (hra : ∀ (U : State) (cA : ClassId), va_RA U cA ty → U.vm.findClass ("[" ++ ty.toString) = some cA)
    (ha : ∀ cA : ClassId, vp_cell cA a0 = arrV cA N (fun _ => defaultValue ty)) (hn : ¬ n < 0) (hN : n.toNatClampNeg = N) (hbytes : N * componentBytes ty ≤ 536870912) (hc : cells + 1 ≤ Z.2.1) (hsl : slots + N ≤ Z.2.2.1)
    (hlo : l.all (ook [hs.length]) = true) (hso : st.all (rok [hs.length]) = true) (hwo : hs.all (cok [hs.length]) = true) (hkp0 : Z.2.2.2.1 hs.length = false) (hd : decode M.2.2.1 pc = .ok (.newarray atype, 2))
    (k : V M Z (cells + 1) (slots + N) (pc + 2) l (.ref hs.length :: st) (hs ++ [.inl (t, a0)])) : V M Z cells slots pc l (.int n :: st) hs := by
  intro G p la e s m args below meth c ad0 A hA cx ad ls H locs hkp hl hP hD hS
  obtain ⟨hx, hb, hml, hown, hts, hr, hlk, hnm, hK, hX⟩ := id cx
  refine va_newa hx hb (hts _ harr) hty hK hP hD hS hA (a0 := a0) ha hn hN hbytes hc hsl hd (fun q cA H1 hK1 hP1 hD1 hS1 => ?_)
  have hcA : cA = G.2.1 t := by
    have f1 := hra s cA (hK1.2 5 (cA, ty) rfl).2
    have f2 := hra s (G.2.1 t) (hK.2 t _ (ht G)).2
    exact Option.some.inj (f1.symm.trans f2)
  subst hcA
  have hoff : ∀ k, k ∉ [hs.length] → (fun k => if k = hs.length then q else ad k) k = ad k := fun k hk => if_neg (by simpa using hk)
  have hcz := cz_app (G := G) (ad := ad) (c := .inl (t, a0)) (q := q) hoff (if_pos rfl) hwo
  have h9 := k G p la e s m args below meth c ad0 A hA cx (fun k => if k = hs.length then q else ad k) ls H1 locs ?_ (lr_ok hoff hlo hl) (by rw [hcz]; exact hP1) (by rw [hcz]; exact hD1) hS1
  · have e3 : ((Value.ref hs.length :: st).map (cv (fun k => if k = hs.length then q else ad k))) = Value.ref q :: st.map (cv ad) := by
      rw [List.map_cons, map_cv_ok hoff hso]
      show Value.ref (if hs.length = hs.length then q else ad hs.length) :: _ = _
      rw [if_pos rfl]
    rw [e3] at h9
    exact h9
  · intro k hk
    by_cases h : k = hs.length
    · subst h; rw [hkp0] at hk; cases hk
    · show (if k = hs.length then q else ad k) = ad0 k
      rw [if_neg h]; exact hkp k hk
set_option maxHeartbeats 1000000 in
theorem V.newO {ci : Nat} {fs : List Value} (hci : ci < 13) (hcl : Cond.classLink (ownL.getD M.1 "") idx (clD ci).1 ∈ tbl) (hin : Cond.instantiable (clD ci).1 (clD ci).2.2 ∈ tbl) (hini : Cond.initialized (clD ci).1 ∈ tbl) (hfs : ∀ j, j < (clD ci).2.2 → defaultValue (clY ci j) = vp_V fs j) (hnr : fs.all (fun v => rok [] v && !(match v with | .ref _ => true | _ => false)) = true)
    (hc : cells + 1 ≤ Z.2.1) (hsl : slots + (clD ci).2.2 ≤ Z.2.2.1)
    (hlo : l.all (ook [hs.length]) = true) (hso : st.all (rok [hs.length]) = true) (hwo : hs.all (cok [hs.length]) = true) (hkp0 : Z.2.2.2.1 hs.length = false) (hd : decode M.2.2.1 pc = .ok (.new idx, 3))
    (k : V M Z (cells + 1) (slots + (clD ci).2.2) (pc + 3) l (.ref hs.length :: st) (hs ++ [.inr (ci, fs)])) : V M Z cells slots pc l st hs := by
  intro G p la e s m args below meth c ad0 A hA cx ad ls H locs hkp hl hP hD hS
  obtain ⟨hx, hb, hml, hown, hts, hr, hlk, hnm, hK, hX⟩ := id cx
  refine va_new (ci := ci) (C := (clD ci).1) (T := (clD ci).2.1) (N := (clD ci).2.2) hx hb hts (clI ci hci) (clY ci) (clT ci hci) hown (hts _ hcl) (hts _ hin) (hts _ hini) hK hP hD hS hA (clG ci hci) (fs := fs) hfs hc hsl hd (fun q H1 hP1 hD1 hS1 => ?_)
  have hoff : ∀ k, k ∉ [hs.length] → (fun k => if k = hs.length then q else ad k) k = ad k := fun k hk => if_neg (by simpa using hk)
  have hfs2 : fs.map (cv (fun k => if k = hs.length then q else ad k)) = fs := by
    have : ∀ v ∈ fs, cv (fun k => if k = hs.length then q else ad k) v = v := by
      intro v hv
      have h2 := List.all_eq_true.mp hnr v hv
      cases v <;> first | rfl | (simp at h2)
    rw [List.map_congr_left this, List.map_id']
  have hcz := cz_app (G := G) (ad := ad) (c := .inr (ci, fs)) (q := q) hoff (if_pos rfl) hwo
  rw [cE_o hci, hfs2] at hcz
  have h9 := k G p la e s m args below meth c ad0 A hA cx (fun k => if k = hs.length then q else ad k) ls H1 locs ?_ (lr_ok hoff hlo hl) (by rw [hcz]; exact hP1) (by rw [hcz]; exact hD1) hS1
  · have e3 : ((Value.ref hs.length :: st).map (cv (fun k => if k = hs.length then q else ad k))) = Value.ref q :: st.map (cv ad) := by
      rw [List.map_cons, map_cv_ok hoff hso]
      show Value.ref (if hs.length = hs.length then q else ad hs.length) :: _ = _
      rw [if_pos rfl]
    rw [e3] at h9
    exact h9
  · intro k hk
    by_cases h : k = hs.length
    · subst h; rw [hkp0] at hk; cases hk
    · show (if k = hs.length then q else ad k) = ad0 k
      rw [if_neg h]; exact hkp k hk
theorem rfL_nulls (f : Nat → Nat) (N : Nat) : rfL ((List.replicate N Value.null).map (cv f)) = fun _ => none := by
  funext j
  unfold rfL
  rw [List.getElem?_map, List.getElem?_replicate]
  split <;> first | rfl | (rename_i h; split at h <;> cases h)
set_option maxHeartbeats 1000000 in
theorem V.newQ {n : Int32} {N : Nat} (hcl : Cond.classLink (ownL.getD M.1 "") idx "DesertJars$Land" ∈ tbl) (hn : ¬ n < 0) (hN : n.toNatClampNeg = N) (hbytes : N * 4 ≤ 536870912) (hc : cells + 1 ≤ Z.2.1) (hsl : slots + N ≤ Z.2.2.1)
    (hlo : l.all (ook [hs.length]) = true) (hso : st.all (rok [hs.length]) = true) (hwo : hs.all (cok [hs.length]) = true) (hkp0 : Z.2.2.2.1 hs.length = false) (hd : decode M.2.2.1 pc = .ok (.anewarray idx, 3))
    (k : V M Z (cells + 1) (slots + N) (pc + 3) l (.ref hs.length :: st) (hs ++ [.inr (13, List.replicate N .null)])) : V M Z cells slots pc l (.int n :: st) hs := by
  intro G p la e s m args below meth c ad0 A hA cx ad ls H locs hkp hl hP hD hS
  obtain ⟨hx, hb, hml, hown, hts, hr, hlk, hnm, hK, hX⟩ := id cx
  refine va_newq hx hb hown (hts _ hcl) hX.2.1 hK hP hD hS hA hn hN hbytes hc hsl hd (fun q cA H1 hK1 hP1 hD1 hS1 => ?_)
  have hcA : cA = G.2.1 4 := by
    obtain ⟨_, _, _, _, _, f1⟩ := (hK1.2 5 (cA, .object "DesertJars$Land") rfl).2
    obtain ⟨_, _, _, _, _, f2⟩ := (hK.2 4 (G.2.1 4, .object "DesertJars$Land") rfl).2
    exact Option.some.inj (f1.symm.trans f2)
  subst hcA
  have hoff : ∀ k, k ∉ [hs.length] → (fun k => if k = hs.length then q else ad k) k = ad k := fun k hk => if_neg (by simpa using hk)
  have hcz := cz_app (G := G) (ad := ad) (c := .inr (13, List.replicate N .null)) (q := q) hoff (if_pos rfl) hwo
  have hce : cE G (fun k => if k = hs.length then q else ad k) (.inr (13, List.replicate N .null)) = .inl (G.2.1 4, N, .inr (.inr (.inr (.inr (fun _ => none))))) := by
    show (Sum.inl (G.2.1 4, (List.replicate N Value.null).length, _) : va_E) = _
    rw [rfL_nulls, List.length_replicate]
  rw [hce] at hcz
  have h9 := k G p la e s m args below meth c ad0 A hA cx (fun k => if k = hs.length then q else ad k) ls H1 locs ?_ (lr_ok hoff hlo hl) (by rw [hcz]; exact hP1) (by rw [hcz]; exact hD1) hS1
  · have e3 : ((Value.ref hs.length :: st).map (cv (fun k => if k = hs.length then q else ad k))) = Value.ref q :: st.map (cv ad) := by
      rw [List.map_cons, map_cv_ok hoff hso]
      show Value.ref (if hs.length = hs.length then q else ad hs.length) :: _ = _
      rw [if_pos rfl]
    rw [e3] at h9
    exact h9
  · intro k hk
    by_cases h : k = hs.length
    · subst h; rw [hkp0] at hk; cases hk
    · show (if k = hs.length then q else ad k) = ad0 k
      rw [if_neg h]; exact hkp k hk
theorem rfL_set {f : Nat → Nat} {fs : List Value} {i v : Nat} (hi : i < fs.length) : va_up (rfL (fs.map (cv f))) i (some (f v)) = rfL ((fs.set i (.ref v)).map (cv f)) := by
  funext j
  unfold va_up rfL
  rw [List.getElem?_map, List.getElem?_map, List.getElem?_set]
  by_cases h : j = i
  · subst h
    simp [hi, cv]
  · simp [h, Ne.symm h]
theorem V.aast {a v : Nat} {fs vs : List Value} {i : Int32} (he : hs[a]? = some (.inr (13, fs))) (hv : hs[v]? = some (.inr (2, vs))) (hin : ix i fs.length = true) (hd : decode M.2.2.1 pc = .ok (.aastore, 1))
    (k : V M Z cells slots (pc + 1) l st (hs.set a (.inr (13, fs.set i.toNatClampNeg (.ref v))))) : V M Z cells slots pc l (.ref v :: .int i :: .ref a :: st) hs := by
  intro G p la e s m args below meth c ad0 A hA cx ad ls H locs hkp hl hP hD hS
  obtain ⟨hx, hb, hml, hown, hts, hr, hlk, hnm, hK, hX⟩ := id cx
  have hlt : i.toNatClampNeg < fs.length := Nat.not_le.mp fun q => ix_in hin (Or.inr q)
  have e5 : ∀ (c1 : Nat), (ad a, (Sum.inl (G.2.1 4, fs.length, .inr (.inr (.inr (.inr (va_up (rfL (fs.map (cv ad))) i.toNatClampNeg (some (ad v))))))) : va_E)) = (ad a, cE G ad (.inr (13, fs.set i.toNatClampNeg (.ref v)))) := by
    intro _
    rw [rfL_set hlt]
    show _ = (ad a, (Sum.inl (G.2.1 4, (fs.set i.toNatClampNeg (Value.ref v)).length, _) : va_E))
    rw [List.length_set]
  exact va_astq hx hb hK hP hD hS a 4 v 2 (f := rfL (fs.map (cv ad))) (cz_at (G := G) (ad := ad) he) rfl (cz_o hv (by decide)) (clG 2 (by decide)) (ix_in hin) hd (fun H1 locs1 hP1 hD1 hS1 => k G p la e s m args below meth c ad0 A hA cx ad ls H1 locs1 hkp hl (by rw [e5 0, cz_set] at hP1; exact hP1) (by rw [e5 0, cz_set] at hD1; exact hD1) hS1)
theorem jdk_obj : Cond.instanceMethod Lib.objectInit ∈ tbl ∧ Cond.code Lib.objectInit ⟨#[0xb1]⟩ 1 none ∈ tbl := ⟨in_tbl (List.mem_of_getElem? (i := 29) (by decide +kernel)) rfl, in_tbl (List.mem_of_getElem? (i := 30) (by decide +kernel)) rfl⟩
theorem V.objI {a : Nat} (h1 : 1 ≤ Z.1) (hlk0 : Cond.methodLink (ownL.getD M.1 "") idx Lib.objectInit ∈ tbl) (hrest : (st.map fun v => v.category).sum ≤ 8) (hd : decode M.2.2.1 pc = .ok (.invokespecial idx, 3))
    (k : V M Z cells slots (pc + 3) l st hs) : V M Z cells slots pc l (.ref a :: st) hs := by
  intro G p la e s m args below meth c ad0 A hA cx ad ls H locs hkp hl hP hD hS
  obtain ⟨hx, hb, hml, hown, hts, hr, hlk, hnm, hK, hX⟩ := id cx
  refine W.objInit hx hb hown (hts _ hlk0) (hts _ jdk_obj.1) (hts _ jdk_obj.2) rfl (hl.1.trans hml.symm) (a := ad a) (rest := st.map (cv ad)) rfl hd h1 ?_ (k G p la e s m args below meth c ad0 A hA cx ad ls H locs hkp hl hP hD hS)
  show 2 * 0 + _ + 12 ≤ 40 * Z.1 + 2080
  rw [map_cat]
  omega
end MKA
