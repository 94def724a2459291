/-! MORE RULES: fewer locals, max, min, arraycopy, switches -/
def msk : List Bool → List (Option Value) → List (Option Value)
  | b :: bs, v :: vs => (match b with
    | true => v
    | false => none) :: msk bs vs
  | _, _ => []
theorem msk_get : ∀ (bs : List Bool) (l : List (Option Value)) (i : Nat) (v : Value), (msk bs l)[i]? = some (some v) → l[i]? = some (some v) := by
  intro bs
  induction bs with
  | nil => intro l i v h; cases l <;> simp [msk] at h
  | cons b bs ih =>
    intro l i v h
    cases l with
    | nil => simp [msk] at h
    | cons a l =>
      cases i with
      | zero =>
        cases b <;> simp [msk] at h
        simp [h]
      | succ i =>
        simp [msk] at h
        simpa using ih l i v h
theorem V.weak {M : MD} {Z : VZ} {cells slots pc : Nat} {l l' : List (Option Value)} {st : List Value} {hs : List ce} (bs : List Bool) (h : msk bs l = l') (hq : l'.length = l.length) (k : V M Z cells slots pc l' st hs) : V M Z cells slots pc l st hs := by
  intro G p la e s m args below meth c ad0 A hA cx ad ls H locs hkp hl hP hD hS
  refine k G p la e s m args below meth c ad0 A hA cx ad ls H locs hkp ⟨hl.1, ?_, hl.2.2.1, fun i v hi => hl.2.2.2 i v ?_⟩ hP hD hS
  · rw [hq]; exact hl.2.1
  · rw [← h] at hi
    exact msk_get bs l i v hi
def sm {α β γ : Type} (x : α ⊕ β) (f : α → Option γ) (g : β → Option γ) : Option γ := match x with
  | .inl a => f a
  | .inr b => g b
theorem sm_l {α β γ : Type} {a : α} {f : α → Option γ} {g : β → Option γ} {y : γ} (h : sm (.inl a) f g = some y) : f a = some y := h
theorem sm_r {α β γ : Type} {b : β} {f : α → Option γ} {g : β → Option γ} {y : γ} (h : sm (.inr b) f g = some y) : g b = some y := h
def isB (v : Int32) : Bool := decide (v = 0) || decide (v = 1)
theorem isB_or {v : Int32} (h : isB v = true) : v = 0 ∨ v = 1 := by
  unfold isB at h
  simpa using h
def jmax (x y : Int32) : Int32 := if x < y then y else x
def jmin (x y : Int32) : Int32 := if y < x then y else x
def cpOk (sp dp n : Int32) (n0 n1 : Nat) : Bool := (!decide (sp < 0)) && ((!decide (dp < 0)) && ((!decide (n < 0)) && (decide (sp.toNatClampNeg + n.toNatClampNeg ≤ n0) && decide (dp.toNatClampNeg + n.toNatClampNeg ≤ n1))))
theorem jdk_max : Cond.static Lib.Math.max.name ∈ tbl ∧ Cond.initialized "java/lang/Math" ∈ tbl ∧ Cond.code Lib.Math.max.name Lib.Math.max.code 2 (some .int) ∈ tbl := ⟨in_tbl (List.mem_of_getElem? (i := 574) (by decide +kernel)) rfl, in_tbl (List.mem_of_getElem? (i := 17) (by decide +kernel)) rfl, in_tbl (List.mem_of_getElem? (i := 575) (by decide +kernel)) rfl⟩
theorem jdk_min : Cond.static Lib.Math.min.name ∈ tbl ∧ Cond.initialized "java/lang/Math" ∈ tbl ∧ Cond.code Lib.Math.min.name Lib.Math.min.code 2 (some .int) ∈ tbl := ⟨in_tbl (List.mem_of_getElem? (i := 577) (by decide +kernel)) rfl, in_tbl (List.mem_of_getElem? (i := 17) (by decide +kernel)) rfl, in_tbl (List.mem_of_getElem? (i := 578) (by decide +kernel)) rfl⟩
theorem jdk_copy : Cond.native arraycopyName ∈ tbl ∧ Cond.static arraycopyName ∈ tbl ∧ Cond.initialized "java/lang/System" ∈ tbl := ⟨in_tbl (List.mem_of_getElem? (i := 698) (by decide +kernel)) rfl, in_tbl (List.mem_of_getElem? (i := 697) (by decide +kernel)) rfl, in_tbl (List.mem_of_getElem? (i := 21) (by decide +kernel)) rfl⟩
section MR
variable {M : MD} {Z : VZ} {cells slots pc idx : Nat} {l : List (Option Value)} {st : List Value} {hs : List ce}
theorem V.mmax {x y : Int32} (h1 : 1 ≤ Z.1) (hC : cells ≤ Z.2.1) (hL : slots ≤ Z.2.2.1) (hlk0 : Cond.methodLink (ownL.getD M.1 "") idx Lib.Math.max.name ∈ tbl) (hrest : (st.map fun v => v.category).sum ≤ 8) (hd : decode M.2.2.1 pc = .ok (.invokestatic idx, 3))
    (k : V M Z cells slots (pc + 3) l (.int (jmax x y) :: st) hs) : V M Z cells slots pc l (.int y :: .int x :: st) hs := by
  intro G p la e s m args below meth c ad0 A hA cx ad ls H locs hkp hl hP hD hS
  obtain ⟨hx, hb, hml, hown, hts, hr, hlk, hnm, hK, hX⟩ := id cx
  refine va_mmax hx hb (hml.trans hl.1.symm) hown (hts _ hlk0) (hts _ jdk_max.1) (hts _ jdk_max.2.1) (hts _ jdk_max.2.2) h1 ?_ hC hL hd (k G p la e s m args below meth c ad0 A hA cx ad ls H locs hkp hl hP hD hS)
  rw [map_cat]
  show _ ≤ 40 * Z.1 + 2080
  omega
theorem V.mmin {x y : Int32} (h1 : 1 ≤ Z.1) (hC : cells ≤ Z.2.1) (hL : slots ≤ Z.2.2.1) (hlk0 : Cond.methodLink (ownL.getD M.1 "") idx Lib.Math.min.name ∈ tbl) (hrest : (st.map fun v => v.category).sum ≤ 8) (hd : decode M.2.2.1 pc = .ok (.invokestatic idx, 3))
    (k : V M Z cells slots (pc + 3) l (.int (jmin x y) :: st) hs) : V M Z cells slots pc l (.int y :: .int x :: st) hs := by
  intro G p la e s m args below meth c ad0 A hA cx ad ls H locs hkp hl hP hD hS
  obtain ⟨hx, hb, hml, hown, hts, hr, hlk, hnm, hK, hX⟩ := id cx
  refine va_mmin hx hb (hml.trans hl.1.symm) hown (hts _ hlk0) (hts _ jdk_min.1) (hts _ jdk_min.2.1) (hts _ jdk_min.2.2) h1 ?_ hC hL hd (k G p la e s m args below meth c ad0 A hA cx ad ls H locs hkp hl hP hD hS)
  rw [map_cat]
  show _ ≤ 40 * Z.1 + 2080
  omega
theorem V.copy {a0 a n0 n1 : Nat} {f g : Nat → Int32} {sp dp n : Int32} (he0 : hs[a0]? = some (.inl (0, n0, .inl f))) (he1 : hs[a]? = some (.inl (0, n1, .inl g))) (hok : cpOk sp dp n n0 n1 = true) (h1 : 1 ≤ Z.1) (hlk0 : Cond.methodLink (ownL.getD M.1 "") idx arraycopyName ∈ tbl) (hrest : (st.map fun v => v.category).sum ≤ 8) (hd : decode M.2.2.1 pc = .ok (.invokestatic idx, 3))
    (k : V M Z cells slots (pc + 3) l st (hs.set a (.inl (0, n1, .inl (va_cpy f g sp.toNatClampNeg dp.toNatClampNeg n.toNatClampNeg))))) : V M Z cells slots pc l (.int n :: .int dp :: .ref a :: .int sp :: .ref a0 :: st) hs := by
  intro G p la e s m args below meth c ad0 A hA cx ad ls H locs hkp hl hP hD hS
  obtain ⟨hx, hb, hml, hown, hts, hr, hlk, hnm, hK, hX⟩ := id cx
  unfold cpOk at hok
  simp only [Bool.and_eq_true, Bool.not_eq_true', decide_eq_false_iff_not, decide_eq_true_eq] at hok
  obtain ⟨o1, o2, o3, o4, o5⟩ := hok
  refine va_copyi hx hb (hml.trans hl.1.symm) hown (hts _ hlk0) (hts _ jdk_copy.1) (hts _ jdk_copy.2.1) (hts _ jdk_copy.2.2) hK hP hD hS a0 a 0 0 (cz_at (G := G) (ad := ad) he0) (cz_at (G := G) (ad := ad) he1) rfl rfl rfl o1 o2 o3 o4 o5 (fun _ _ => rfl) h1 ?_ hd (fun H1 locs1 hP1 hD1 hS1 => k G p la e s m args below meth c ad0 A hA cx ad ls H1 locs1 hkp hl (by rw [← cE_i G ad, cz_set] at hP1; exact hP1) (by rw [← cE_i G ad, cz_set] at hD1; exact hD1) hS1)
  rw [map_cat]
  show _ + (7 + 11) ≤ 40 * Z.1 + 2080
  omega
end MR
def allNe (x : Int32) : List Int32 → Prop
  | [] => True
  | a :: as => ¬ x = a ∧ allNe x as
theorem allNe_mem {x : Int32} : ∀ (L : List Int32), allNe x L → ∀ k ∈ L, ¬ x = k := by
  intro L
  induction L with
  | nil => intro _ k hk; cases hk
  | cons a L ih =>
    intro h k hk
    rcases List.mem_cons.mp hk with rfl | hk
    · exact h.1
    · exact ih h.2 k hk
theorem sw_out {x : Int32} {lo hi : Int} {n : Nat} (L : List Int32) (hL : L.map (fun k => k.toInt) = (List.range n).map (fun k : Nat => lo + (k : Int))) (hn : hi + 1 = lo + n) (h : allNe x L) : x.toInt < lo ∨ hi < x.toInt := by
  by_cases h1 : x.toInt < lo
  · exact Or.inl h1
  · by_cases h2 : hi < x.toInt
    · exact Or.inr h2
    · exfalso
      have h3 : x.toInt ∈ (List.range n).map (fun k : Nat => lo + (k : Int)) := by
        refine List.mem_map.mpr ⟨(x.toInt - lo).toNat, List.mem_range.mpr (by omega), by omega⟩
      rw [← hL] at h3
      obtain ⟨k, hk, hk2⟩ := List.mem_map.mp h3
      exact allNe_mem L h k hk (Int32.toInt_inj.mp hk2.symm)
