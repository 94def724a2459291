/-! ALL LAYINGS IN VAIN: the reference -/
def chR (n : Nat) (d : Nat → Nat) (t : Nat) : Nat → List Nat
  | 0 => []
  | c + 1 => if totS (deR n d c) n = t then c :: chR n d t c else chR n d t c
theorem chR_mem {n : Nat} {d : Nat → Nat} {t x : Nat} : ∀ {c : Nat}, x ∈ chR n d t c ↔ x < c ∧ totS (deR n d x) n = t := by
  intro c
  induction c with
  | zero => simp [chR]
  | succ c ih =>
    show x ∈ (if totS (deR n d c) n = t then c :: chR n d t c else chR n d t c) ↔ _
    by_cases e : totS (deR n d c) n = t
    · rw [if_pos e, List.mem_cons, ih]
      constructor
      · rintro (z | z)
        · rw [z]; exact ⟨Nat.lt_succ_self _, e⟩
        · exact ⟨by omega, z.2⟩
      · rintro ⟨z1, z2⟩
        by_cases y : x = c
        · exact Or.inl y
        · exact Or.inr ⟨by omega, z2⟩
    · rw [if_neg e, ih]
      constructor
      · exact fun z => ⟨by omega, z.2⟩
      · rintro ⟨z1, z2⟩
        by_cases y : x = c
        · subst y; exact absurd z2 e
        · exact ⟨by omega, z2⟩
theorem chR_nodup {n : Nat} {d : Nat → Nat} {t : Nat} : ∀ c, (chR n d t c).Nodup := by
  intro c
  induction c with
  | zero => exact List.nodup_nil
  | succ c ih =>
    show (if totS (deR n d c) n = t then c :: chR n d t c else chR n d t c).Nodup
    by_cases e : totS (deR n d c) n = t
    · rw [if_pos e]
      exact List.nodup_cons.mpr ⟨fun z => by have := (chR_mem.mp z).1; omega, ih⟩
    · rw [if_neg e]; exact ih
/-- what is told of all done: the most jars, the layings that have them, the greatest -/
def VRs (n : Nat) (nx d : Nat → Nat) (w : Nat) (done : Nat → Prop) (T : Nat) (LV : List Nat) (G : Nat) : Prop :=
  LV.Nodup ∧ (∀ c, c ∈ LV ↔ done c ∧ vaS n nx d w (deR n d c) ∧ totS (deR n d c) n = T) ∧ (∀ c, done c → vaS n nx d w (deR n d c) → totS (deR n d c) n ≤ T) ∧ G ∈ LV ∧ ∀ c ∈ LV, cCS n d (deR n d c) ≤ cCS n d (deR n d G)
def VRo (n : Nat) (nx d : Nat → Nat) (w : Nat) (done : Nat → Prop) (σ : Int32 × Int32 × Int32) : Prop :=
  ((∀ c, done c → ¬ vaS n nx d w (deR n d c)) ∧ σ.1 = -1) ∨ ∃ T LV G, VRs n nx d w done T LV G ∧ σ = (nI T, nI LV.length, nI G)
section LVA
variable {n : Nat} {nx d : Nat → Nat} {w : Nat} {sh wi nextTo : Nat → Int32}
theorem VRs.congr {done done' : Nat → Prop} {T G : Nat} {LV : List Nat} (e : ∀ c, done c ↔ done' c) (h : VRs n nx d w done T LV G) : VRs n nx d w done' T LV G := by
  have : done = done' := funext (fun c => propext (e c))
  rw [← this]; exact h
theorem VRo.congr {done done' : Nat → Prop} {σ : Int32 × Int32 × Int32} (e : ∀ c, done c ↔ done' c) (h : VRo n nx d w done σ) : VRo n nx d w done' σ := by
  have : done = done' := funext (fun c => propext (e c))
  rw [← this]; exact h
/-- one more that isn't in vain -/
theorem VRo.skip {done : Nat → Prop} {σ : Int32 × Int32 × Int32} {c0 : Nat} (h : VRo n nx d w done σ) (hv : ¬ vaS n nx d w (deR n d c0)) : VRo n nx d w (fun c => done c ∨ c = c0) σ := by
  rcases h with ⟨h1, h2⟩ | ⟨T, LV, G, ⟨h1, h2, h3, h4, h5⟩, h6⟩
  · exact Or.inl ⟨fun c hc => by
      rcases hc with z | z
      · exact h1 c z
      · rw [z]; exact hv, h2⟩
  · refine Or.inr ⟨T, LV, G, ⟨h1, fun c => ?_, fun c hc hvc => ?_, h4, h5⟩, h6⟩
    · rw [h2 c]
      constructor
      · exact fun z => ⟨Or.inl z.1, z.2⟩
      · rintro ⟨z | z, y⟩
        · exact ⟨z, y⟩
        · subst z; exact absurd y.1 hv
    · rcases hc with z | z
      · exact h3 c z hvc
      · subst z; exact absurd hvc hv
/-- one more that is in vain -/
theorem counts_ok (hn : n ≤ 12) (hs : totS d n ≤ 16) (hb : BTs n d sh wi) {done : Nat → Prop} {σ : Int32 × Int32 × Int32} {c0 t : Nat} (hc0 : c0 < 2 ^ totS d n) (ht : totS (deR n d c0) n = t) (ht64 : t < 64) (hdone : ∀ c, done c → c < 2 ^ totS d n ∧ totS (deR n d c) n ≤ t) (hnew : ¬ done c0) (hv : vaS n nx d w (deR n d c0)) (h : VRo n nx d w done σ) :
    ∃ σ', Mo_countsVain (nI n) sh wi σ.1 σ.2.1 σ.2.2 (nI c0) (nI t) = some σ' ∧ VRo n nx d w (fun c => done c ∨ c = c0) σ' := by
  have h16 : 2 ^ totS d n ≤ 2 ^ 16 := Nat.pow_le_pow_right (by omega) hs
  -- a new most
  have fresh : ¬ nI t ≤ σ.1 → (∀ c, done c → vaS n nx d w (deR n d c) → totS (deR n d c) n < t) → ∃ σ', Mo_countsVain (nI n) sh wi σ.1 σ.2.1 σ.2.2 (nI c0) (nI t) = some σ' ∧ VRo n nx d w (fun c => done c ∨ c = c0) σ' := fun hle hlt => by
    have hgr := isGreater_ok hn hs hb (deR_box (n := n) (d := d) c0) (deR_box (n := n) (d := d) c0)
    rw [if_neg (Nat.lt_irrefl _), cR_de hc0] at hgr
    refine ⟨(nI t, 0 + 1, nI c0), ?_, Or.inr ⟨t, [c0], c0, ⟨by simp, fun c => ?_, fun c hc hvc => ?_, by simp, fun c hc => ?_⟩, rfl⟩⟩
    · unfold Mo_countsVain Mo_countsVain_J23
      rw [if_neg hle, ob_eq hgr, if_pos rfl]
    · rw [List.mem_singleton]
      constructor
      · rintro rfl; exact ⟨Or.inr rfl, hv, ht⟩
      · rintro ⟨z | z, y1, y2⟩
        · have := hlt c z y1; omega
        · exact z
    · rcases hc with z | z
      · have := hlt c z hvc; omega
      · rw [z, ht]; exact Nat.le_refl _
    · rw [List.mem_singleton.mp hc]; exact Nat.le_refl _
  rcases h with ⟨h1, h2⟩ | ⟨T, LV, G, ⟨h1, h2, h3, h4, h5⟩, h6⟩
  · refine fresh (fun z => ?_) (fun c hc hvc => absurd hvc (h1 c hc))
    rw [h2] at z
    have := Int32.le_iff_toInt_le.mp z
    rw [nI_toInt (by omega)] at this
    have e : (-1 : Int32).toInt = -1 := by decide
    omega
  · obtain ⟨g1, g2, g3⟩ := (h2 G).mp h4
    obtain ⟨d1, d2⟩ := hdone G g1
    by_cases hle : t ≤ T
    · have hT : T = t := by omega
      subst hT
      have hgr := isGreater_ok hn hs hb (deR_box (n := n) (d := d) c0) (deR_box (n := n) (d := d) G)
      rw [cR_de hc0, cR_de d1] at hgr
      have hnin : ¬ c0 ∈ LV := fun z => hnew ((h2 c0).mp z).1
      have hmem : ∀ c, c ∈ c0 :: LV ↔ (done c ∨ c = c0) ∧ vaS n nx d w (deR n d c) ∧ totS (deR n d c) n = T := fun c => by
        rw [List.mem_cons, h2 c]
        constructor
        · rintro (z | z)
          · rw [z]; exact ⟨Or.inr rfl, hv, ht⟩
          · exact ⟨Or.inl z.1, z.2⟩
        · rintro ⟨z | z, y⟩
          · exact Or.inr ⟨z, y⟩
          · exact Or.inl z
      have hmax : ∀ c, (done c ∨ c = c0) → vaS n nx d w (deR n d c) → totS (deR n d c) n ≤ T := fun c hc hvc => by
        rcases hc with z | z
        · exact h3 c z hvc
        · rw [z, ht]; exact Nat.le_refl _
      have hle' : nI T ≤ σ.1 := by rw [h6]; exact (nI_leN (by omega) (by omega)).mpr (Nat.le_refl _)
      have hlen : nI LV.length + 1 = nI (c0 :: LV).length := nI_ad _ 1
      by_cases hg : cCS n d (deR n d G) < cCS n d (deR n d c0)
      · rw [if_pos hg] at hgr
        refine ⟨(nI T, nI LV.length + 1, nI c0), ?_, Or.inr ⟨T, c0 :: LV, c0, ⟨List.nodup_cons.mpr ⟨hnin, h1⟩, hmem, hmax, List.mem_cons_self, fun c hc => ?_⟩, by rw [hlen]⟩⟩
        · unfold Mo_countsVain Mo_countsVain_J23
          rw [if_pos hle', h6, ob_eq hgr, if_neg one_ne0]
        · rcases List.mem_cons.mp hc with z | z
          · rw [z]; exact Nat.le_refl _
          · have := h5 c z; omega
      · rw [if_neg hg] at hgr
        refine ⟨(nI T, nI LV.length + 1, nI G), ?_, Or.inr ⟨T, c0 :: LV, G, ⟨List.nodup_cons.mpr ⟨hnin, h1⟩, hmem, hmax, List.mem_cons_of_mem _ h4, fun c hc => ?_⟩, by rw [hlen]⟩⟩
        · unfold Mo_countsVain Mo_countsVain_J23
          rw [if_pos hle', h6, ob_eq hgr, if_pos rfl]
        · rcases List.mem_cons.mp hc with z | z
          · rw [z]; omega
          · exact h5 c z
    · refine fresh (fun z => ?_) (fun c hc hvc => by have := h3 c hc hvc; omega)
      rw [h6] at z
      have := (nI_leN (by omega) (by omega)).mp z
      omega
theorem bool_nar : vp_nar .boolean 1 = 1 ∧ vp_nar .boolean 0 = 0 := by decide
/-- isV is right for the layings of fewer than t jars -/
def VOK (n : Nat) (nx d : Nat → Nat) (w : Nat) (done : Nat → Prop) (isV : Nat → Int32) : Prop := ∀ c, done c → (isV c = 0 ↔ ¬ vaS n nx d w (deR n d c))
theorem chain_vain (hG : GoodG n nx) (hx : ∀ w, w < 12 → nextTo w = nI (nx w)) (hw : w < n) (hs : totS d n ≤ 16) (hb : BTs n d sh wi) {t : Nat} (ht : t < 64) {nextIn : Nat → Int32} {x0 : Int32} (hch : ChF nextIn x0 (chR n d t (2 ^ totS d n))) {isV : Nat → Int32} {σ : Int32 × Int32 × Int32}
    (hV : VOK n nx d w (fun c => c < 2 ^ totS d n ∧ totS (deR n d c) n < t) isV) (hR : VRo n nx d w (fun c => c < 2 ^ totS d n ∧ totS (deR n d c) n < t) σ) :
    ∃ isV' σ', lp (Mo_laysVain_L100 (nI w) (nI t) nextTo (nI n) sh wi nextIn) (x0, isV, σ) = some (isV', σ') ∧ VOK n nx d w (fun c => c < 2 ^ totS d n ∧ totS (deR n d c) n < t + 1) isV' ∧ VRo n nx d w (fun c => c < 2 ^ totS d n ∧ totS (deR n d c) n < t + 1) σ' := by
  have n12 := hG.1
  have h16 : 2 ^ totS d n ≤ 2 ^ 16 := Nat.pow_le_pow_right (by omega) hs
  have hnd := chR_nodup (n := n) (d := d) (t := t) (2 ^ totS d n)
  obtain ⟨⟨isV', σ'⟩, r1, r2, r3⟩ := lp_inv (f := Mo_laysVain_L100 (nI w) (nI t) nextTo (nI n) sh wi nextIn)
    (fun k s => ∃ pre r, chR n d t (2 ^ totS d n) = pre ++ r ∧ pre.length = k ∧ ChF nextIn s.1 r ∧ VOK n nx d w (fun c => (c < 2 ^ totS d n ∧ totS (deR n d c) n < t) ∨ c ∈ pre) s.2.1 ∧ VRo n nx d w (fun c => (c < 2 ^ totS d n ∧ totS (deR n d c) n < t) ∨ c ∈ pre) s.2.2) (chR n d t (2 ^ totS d n)).length
    (fun r => VOK n nx d w (fun c => (c < 2 ^ totS d n ∧ totS (deR n d c) n < t) ∨ c ∈ chR n d t (2 ^ totS d n)) r.1 ∧ VRo n nx d w (fun c => (c < 2 ^ totS d n ∧ totS (deR n d c) n < t) ∨ c ∈ chR n d t (2 ^ totS d n)) r.2)
    (by
      rintro k ⟨s1, iv, σ1⟩ hk ⟨pre, r, e1, e2, e3, e4, e5⟩
      left
      cases r with
      | nil => exfalso; rw [e1, List.append_nil] at hk; omega
      | cons c r =>
        obtain ⟨f1, f2⟩ := e3
        have f1 : s1 = nI c := f1
        subst f1
        obtain ⟨hc, hct⟩ := chR_mem.mp (show c ∈ chR n d t (2 ^ totS d n) by rw [e1]; simp)
        have hnot : ¬ ((c < 2 ^ totS d n ∧ totS (deR n d c) n < t) ∨ c ∈ pre) := by
          rintro (z | z)
          · omega
          · rw [e1, List.nodup_append] at hnd
            exact hnd.2.2 c z c (List.mem_cons_self) rfl
        have hpre : ∀ y, y ∈ pre → y < 2 ^ totS d n ∧ totS (deR n d y) n = t := fun y hy => chR_mem.mp (by rw [e1]; exact List.mem_append_left _ hy)
        have hcl : nI c = nI (cRS n d (deR n d c)) := by rw [cR_de hc]
        have hbx := deR_box (n := n) (d := d) c
        have hvain := isInVain_ok hG hx hw hs hb hbx (isV := iv) (fun a b ha hbb hab h2 hbw hlt => by
          have hbg := box_go hG hbx ha hbb hab h2 hlt
          have h3 := cR_lt hbg
          have h4 := go_totN (n := n) (m := (a, a, b)) (g := deR n d c) ⟨ha, ha, hbb⟩ (ok_same.mpr h2)
          have h5 := e4 (cRS n d (goS (deR n d c) (a, a, b))) (Or.inl ⟨h3, by rw [de_cR hbg]; omega⟩)
          rw [de_cR hbg] at h5
          exact h5)
        rw [cR_de hc] at hvain
        have hnext : ∀ (iv' : Nat → Int32) (σ2 : Int32 × Int32 × Int32), Mo_laysVain_L100_J137 (nI w) (nI t) (nI c) nextTo (nI n) sh wi nextIn iv' σ2.1 σ2.2.1 σ2.2.2 = some (.inl (nextIn c, iv', σ2)) := fun iv' σ2 => by
          unfold Mo_laysVain_L100_J137
          rw [gd_eq (ixN (by omega) (by omega)), nI_clamp (show c < 2 ^ 31 by omega)]
        have hhead : ∀ x1, Mo_isInVain nextTo (nI n) sh wi iv (nI c) (nI w) = some x1 → Mo_laysVain_L100 (nI w) (nI t) nextTo (nI n) sh wi nextIn (nI c, iv, σ1) = if vp_nar .boolean x1 = 0 then some (.inl (nextIn c, upd iv c (vp_nar .boolean x1), σ1)) else ob (Mo_countsVain (nI n) sh wi σ1.1 σ1.2.1 σ1.2.2 (nI c) (nI t)) fun x4 => some (.inl (nextIn c, upd iv c (vp_nar .boolean x1), x4)) := fun x1 hx1 => by
          unfold Mo_laysVain_L100
          show (if nI c = -1 then _ else _) = _
          rw [if_neg (nI_neM (by omega))]
          dsimp only
          have hix : ix (nI c) 65536 = true := ixN (by omega) (by omega)
          rw [ob_eq hx1, gd_eq hix, gd_eq hix, nI_clamp (show c < 2 ^ 31 by omega), upd_at]
          simp only [hnext]
        have hdn : ∀ y, ((y < 2 ^ totS d n ∧ totS (deR n d y) n < t) ∨ y ∈ pre ++ [c]) ↔ (((y < 2 ^ totS d n ∧ totS (deR n d y) n < t) ∨ y ∈ pre) ∨ y = c) := fun y => by
          rw [List.mem_append, List.mem_singleton, or_assoc]
        rcases hvain with ⟨v1, v2⟩ | ⟨v1, v2⟩
        · obtain ⟨σ2, g1, g2⟩ := counts_ok (w := w) (nx := nx) n12 hs hb hc hct ht (fun y hy => by
            rcases hy with z | z
            · exact ⟨z.1, by omega⟩
            · have := hpre y z; exact ⟨this.1, by omega⟩) hnot v2 e5
          refine ⟨(nextIn c, upd iv c (vp_nar .boolean 1), σ2), ?_, pre ++ [c], r, by rw [e1]; simp, by rw [List.length_append, e2]; rfl, f2, fun y hy => ?_, g2.congr (fun y => (hdn y).symm)⟩
          · rw [hhead 1 v1, bool_nar.1, if_neg one_ne0, ob_eq g1]
          · show upd iv c (vp_nar .boolean 1) y = 0 ↔ _
            rcases (hdn y).mp hy with z | z
            · rw [upd_ne (fun e => hnot (by rw [← e]; exact z))]
              exact e4 y z
            · rw [z, upd_at, bool_nar.1]
              exact ⟨fun q => absurd q one_ne0, fun q => absurd v2 q⟩
        · refine ⟨(nextIn c, upd iv c (vp_nar .boolean 0), σ1), ?_, pre ++ [c], r, by rw [e1]; simp, by rw [List.length_append, e2]; rfl, f2, fun y hy => ?_, (e5.skip v2).congr (fun y => (hdn y).symm)⟩
          · rw [hhead 0 v1, bool_nar.2, if_pos rfl]
          · show upd iv c (vp_nar .boolean 0) y = 0 ↔ _
            rcases (hdn y).mp hy with z | z
            · rw [upd_ne (fun e => hnot (by rw [← e]; exact z))]
              exact e4 y z
            · rw [z, upd_at, bool_nar.2]
              exact ⟨fun _ => v2, fun _ => rfl⟩)
    (by
      rintro ⟨s1, iv, σ1⟩ ⟨pre, r, e1, e2, e3, e4, e5⟩
      have hr : r = [] := by
        cases r with
        | nil => rfl
        | cons i r => exfalso; have := congrArg List.length e1; rw [List.length_append, e2] at this; simp at this
      subst hr
      rw [List.append_nil] at e1
      refine ⟨(iv, σ1), ?_, by rw [e1]; exact e4, by rw [e1]; exact e5⟩
      unfold Mo_laysVain_L100
      exact if_pos e3)
    0 (x0, isV, σ) (Nat.zero_le _) ⟨[], _, rfl, rfl, hch, fun c hc => hV c (by simpa using hc), hR.congr (fun c => by simp)⟩
  have hdn : ∀ c, ((c < 2 ^ totS d n ∧ totS (deR n d c) n < t) ∨ c ∈ chR n d t (2 ^ totS d n)) ↔ (c < 2 ^ totS d n ∧ totS (deR n d c) n < t + 1) := fun c => by
    rw [chR_mem]
    constructor
    · rintro (z | z)
      · exact ⟨z.1, by omega⟩
      · exact ⟨z.1, by omega⟩
    · rintro ⟨z1, z2⟩
      by_cases e : totS (deR n d c) n = t
      · exact Or.inr ⟨z1, e⟩
      · exact Or.inl ⟨z1, by omega⟩
  exact ⟨isV', σ', r1, fun c hc => r2 c ((hdn c).mpr hc), r3.congr hdn⟩
/-- all of them -/
def VRa (n : Nat) (nx d : Nat → Nat) (w : Nat) (T : Nat) (LV : List Nat) (G : Nat) : Prop := VRs n nx d w (fun c => c < 2 ^ totS d n) T LV G
theorem laysVain_ok (hG : GoodG n nx) (hx : ∀ w, w < 12 → nextTo w = nI (nx w)) (hw : w < n) {ways far : Nat → Int32} (hr : RW n nx ways) (hf : RW n nx far) (sh0 wi0 ni0 he0 iv0 : Nat → Int32) (bi0 vm vy vg : Int32) :
    ∃ why sh ni he iv wi bi vm' vy' vg', Numbers_refusalAt (nI n) ways (nI w) = some why ∧ Mo_laysVain nextTo (nI n) far sh0 wi0 ni0 he0 iv0 bi0 vm vy vg (nI w) = some (why, sh, wi, ni, he, iv, bi, vm', vy', vg') ∧
      (why = -2 ∨ why = -4 ∨ (why = 0 ∧ AllD n nx w ∧ totS (dnS n nx w) n ≤ 16 ∧ BTs n (dnS n nx w) sh wi ∧ ∃ T LV G, VRa n nx (dnS n nx w) w T LV G ∧ T < 64 ∧ vm' = nI T ∧ vy' = nI LV.length ∧ vg' = nI G)) := by
  have n12 := hG.1
  obtain ⟨why, sh, wi, bi, q1, q2, q3⟩ := refuse_ok hG hw hr hf sh0 wi0 bi0
  rcases q3 with rfl | rfl | ⟨rfl, hall, hs, hbi, hb⟩
  · refine ⟨-2, sh, ni0, he0, iv0, wi, bi, vm, vy, vg, q1, ?_, Or.inl rfl⟩
    unfold Mo_laysVain
    rw [ob_eq q2, if_neg (show ¬ (-2 : Int32) = 0 by decide)]
  · refine ⟨-4, sh, ni0, he0, iv0, wi, bi, vm, vy, vg, q1, ?_, Or.inr (Or.inl rfl)⟩
    unfold Mo_laysVain
    rw [ob_eq q2, if_neg (show ¬ (-4 : Int32) = 0 by decide)]
  · generalize hd : dnS n nx w = d at *
    have h16 : 2 ^ totS d n ≤ 2 ^ 16 := Nat.pow_le_pow_right (by omega) hs
    have hlev : ∀ v, v < n → lev n nx w (d v) v = true := fun v hv => by rw [← hd]; exact (hall v hv).1
    have h64 : ∀ c, totS (deR n d c) n < 64 := fun c => box_tot hG hw hlev hs (deR_box c)
    -- heads
    have hL14 : lp (Mo_laysVain_L14 (nI w)) (0, he0) = some (filled he0 (-1) 64) := by
      have := lp_run (f := Mo_laysVain_L14 (nI w)) (fun k => (nI k, filled he0 (-1) k)) 64 (r := filled he0 (-1) 64) (fun k hk => ?_) ?_
      · rw [filled_zero] at this; exact this
      · show (if nI k < 64 then _ else _) = _
        rw [if_pos (show nI k < 64 from (nI_ltN (b := 64) (by omega) (by omega)).mpr hk), gd_eq (ixN hk (by omega))]
        show some (Sum.inl (nI k + nI 1, upd (filled he0 (-1) k) (nI k).toNatClampNeg (-1))) = _
        rw [nI_clamp (by omega), nI_ad, filled_succ]
      · show (if nI 64 < 64 then _ else _) = _
        rw [if_neg (by decide)]
    -- chains
    have hbit : (1 : Int32) <<< (bi &&& 31) = nI (2 ^ totS d n) := by rw [hbi, shl_nI (by omega)]
    obtain ⟨⟨ni, he⟩, c1, c2⟩ := lp_inv (f := Mo_laysVain_L35 (nI w) (nI n) sh wi bi) (fun k s => s.1 = nI k ∧ ∀ t, t < 64 → ChF s.2.1 (s.2.2 t) (chR n d t k)) (2 ^ totS d n) (fun r => ∀ t, t < 64 → ChF r.1 (r.2 t) (chR n d t (2 ^ totS d n)))
      (by
        rintro k ⟨s1, ni, he⟩ hk ⟨e1, e2⟩
        have e1 : s1 = nI k := e1
        subst e1
        left
        have ht := h64 k
        refine ⟨(nI k + 1, upd ni k (he (totS (deR n d k) n)), upd he (totS (deR n d k) n) (nI k)), ?_, nI_ad k 1, fun t htt => ?_⟩
        · unfold Mo_laysVain_L35
          show (if nI k < (1 : Int32) <<< (bi &&& 31) then _ else _) = _
          rw [hbit, if_pos ((nI_ltN (by omega) (by omega)).mpr hk)]
          dsimp only
          rw [ob_eq (totalBy_ok n12 hs hb (by omega)), gd_eq (ixN ht (by omega)), gd_eq (ixN (by omega) (by omega)), gd_eq (ixN ht (by omega)), nI_clamp (show k < 2 ^ 31 by omega), nI_clamp (show totS (deR n d k) n < 2 ^ 31 by omega)]
        · show ChF (upd ni k _) (upd he _ _ t) (if totS (deR n d k) n = t then k :: chR n d t k else chR n d t k)
          have hcg : ChF (upd ni k (he (totS (deR n d k) n))) (he t) (chR n d t k) := ChF_congr (fun i hi => upd_ne (by have := (chR_mem.mp hi).1; omega)) (e2 t htt)
          by_cases e : totS (deR n d k) n = t
          · rw [if_pos e, e, upd_at]
            rw [e] at hcg
            exact ⟨rfl, by rw [upd_at]; exact hcg⟩
          · rw [if_neg e, upd_ne (fun z => e z.symm)]
            exact hcg)
      (by
        rintro ⟨s1, ni, he⟩ ⟨e1, e2⟩
        have e1 : s1 = nI (2 ^ totS d n) := e1
        subst e1
        refine ⟨(ni, he), ?_, e2⟩
        unfold Mo_laysVain_L35
        show (if nI (2 ^ totS d n) < (1 : Int32) <<< (bi &&& 31) then _ else _) = _
        rw [hbit]
        exact if_neg (fun z => by have := (nI_ltN (by omega) (by omega)).mp z; omega))
      0 (0, ni0, filled he0 (-1) 64) (Nat.zero_le _) ⟨rfl, fun t ht => by
        show ChF ni0 (filled he0 (-1) 64 t) []
        unfold filled
        rw [if_pos ht]; rfl⟩
    have c2 : ∀ t, t < 64 → ChF ni (he t) (chR n d t (2 ^ totS d n)) := c2
    -- totals
    obtain ⟨⟨iv, σ⟩, g1, g2⟩ := lp_inv (f := Mo_laysVain_L86 (nI w) nextTo (nI n) sh wi ni he) (fun k s => s.1 = nI k ∧ VOK n nx d w (fun c => c < 2 ^ totS d n ∧ totS (deR n d c) n < k) s.2.1 ∧ VRo n nx d w (fun c => c < 2 ^ totS d n ∧ totS (deR n d c) n < k) s.2.2) 64 (fun r => VRo n nx d w (fun c => c < 2 ^ totS d n ∧ totS (deR n d c) n < 64) r.2)
      (by
        rintro k ⟨s1, iv, σ⟩ hk ⟨e1, e2, e3⟩
        have e1 : s1 = nI k := e1
        subst e1
        left
        obtain ⟨iv', σ', y1, y2, y3⟩ := chain_vain hG hx hw hs hb hk (c2 k hk) e2 e3
        refine ⟨(nI k + 1, iv', σ'), ?_, nI_ad k 1, y2, y3⟩
        unfold Mo_laysVain_L86
        show (if nI k < 64 then _ else _) = _
        rw [if_pos (show nI k < 64 from (nI_ltN (b := 64) (by omega) (by omega)).mpr hk), gd_eq (ixN hk (by omega))]
        show ob (lp (Mo_laysVain_L100 (nI w) (nI k) nextTo (nI n) sh wi ni) (he (nI k).toNatClampNeg, iv, σ)) _ = _
        rw [nI_clamp (show k < 2 ^ 31 by omega), ob_eq y1])
      (by
        rintro ⟨s1, iv, σ⟩ ⟨e1, e2, e3⟩
        have e1 : s1 = nI 64 := e1
        subst e1
        refine ⟨(iv, σ), ?_, e3⟩
        unfold Mo_laysVain_L86
        show (if nI 64 < 64 then _ else _) = _
        rw [if_neg (by decide)])
      0 (0, iv0, -1, vy, vg) (Nat.zero_le _) ⟨rfl, fun c hc => by omega, Or.inl ⟨fun c hc => by omega, rfl⟩⟩
    have g2 : VRo n nx d w (fun c => c < 2 ^ totS d n ∧ totS (deR n d c) n < 64) σ := g2
    have g3 : VRo n nx d w (fun c => c < 2 ^ totS d n) σ := g2.congr (fun c => ⟨fun z => z.1, fun z => ⟨z, h64 c⟩⟩)
    have hres : Mo_laysVain nextTo (nI n) far sh0 wi0 ni0 he0 iv0 bi0 vm vy vg (nI w) = some (0, sh, wi, ni, he, iv, bi, σ) := by
      unfold Mo_laysVain
      rw [ob_eq q2, if_pos rfl, ob_eq hL14]
      dsimp only
      rw [ob_eq c1]
      dsimp only
      rw [ob_eq g1]
    rcases g3 with ⟨z1, -⟩ | ⟨T, LV, G, z1, z2⟩
    · exfalso
      have hz : deR n d 0 = z0S := by
        funext v
        unfold deR z0S
        split
        · rw [Nat.zero_div, Nat.zero_mod]
        · rfl
      exact z1 0 (Nat.pow_pos (by omega)) (by rw [hz]; exact va_zero)
    · refine ⟨0, sh, ni, he, iv, wi, bi, _, _, _, q1, hres, Or.inr (Or.inr ⟨rfl, hall, hs, hb, T, LV, G, z1, ?_, by rw [z2], by rw [z2], by rw [z2]⟩)⟩
      obtain ⟨-, -, y⟩ := (z1.2.1 G).mp z1.2.2.2.1
      rw [← y]; exact h64 G
end LVA
