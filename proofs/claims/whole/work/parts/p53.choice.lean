/-! TESTS in brackets, read by both -/
/-- the jumps that wait above w -/
def JS (waitsAt : Nat → Int32) (w pa po : Nat) : Prop := pa ≤ 250 ∧ po ≤ 250 ∧ (po ≠ 0 → waitsAt w = nI (12 * 1048576 + (po - 1))) ∧ (pa ≠ 0 → waitsAt (w + cnt po) = nI (11 * 1048576 + (pa - 1)))
def landed (said : Nat → Int32) (p kd c : Nat) : Nat → Int32 := if p = 0 then said else upd said (p - 1) (nI (kd * 1048576 + c))
theorem landed_0 {said : Nat → Int32} {kd c : Nat} : landed said 0 kd c = said := if_pos rfl
theorem landed_ne {said : Nat → Int32} {p kd c k : Nat} (h : p = 0 ∨ k ≠ p - 1) : landed said p kd c k = said k := by
  unfold landed
  by_cases e : p = 0
  · rw [if_pos e]
  · rw [if_neg e, upd_ne (by omega)]
theorem kd_mod {kd ar : Nat} (hk : kd < 20) (ha : ar < 1048576) : nI (kd * 1048576 + ar) % 1048576 = nI ar := by
  have e : nI (kd * 1048576 + ar) % nI 1048576 = nI ((kd * 1048576 + ar) % 1048576) := nI_modN (by omega) (by decide) (by decide)
  rw [show (kd * 1048576 + ar) % 1048576 = ar by omega] at e
  exact e
section LS
variable {waitsAt : Nat → Int32}
theorem land_step {v1 : Int32} {w t kd c : Nat} {said : Nat → Int32} (hw : w < 260) (ht : t < 260) (h : waitsAt w = nI (kd * 1048576 + t)) (hs : said t = nI (kd * 1048576 + 0)) (hk : kd = 11 ∨ (kd = 12 ∧ ¬ v1 = 0)) : Mo_lands_L0 v1 (nI c) waitsAt (nI (w + 1), said) = some (.inl (nI w, upd said t (nI (kd * 1048576 + c)))) := by
  have htop := waitTop_eq hw h (by omega) (show t < 1048576 by omega)
  have hJ : Mo_lands_L0_J22 v1 (nI c) (nI (w + 1)) said waitsAt = some (.inl (nI w, upd said t (nI (kd * 1048576 + c)))) := by
    unfold Mo_lands_L0_J22
    rw [show nI (w + 1) - 1 = nI w from nI_subN (b := 1) (by omega), gd_eq (ixN hw (by decide)), nI_clamp (show w < 2 ^ 31 by omega), h, kd_mod (by omega) (show t < 1048576 by omega), gd_eq (ixN ht (by decide)), gd_eq (ixN ht (by decide)), nI_clamp (by omega), hs, kd_div (by omega) (by decide), big, nI_ad]
  unfold Mo_lands_L0
  refine (ob_eq htop).trans ?_
  rcases hk with rfl | ⟨rfl, hv⟩
  · exact (if_pos rfl).trans hJ
  · exact (if_neg (by decide)).trans ((if_neg hv).trans ((ob_eq htop).trans ((if_pos rfl).trans hJ)))
theorem land_end {v1 c : Int32} {w kd : Nat} {said : Nat → Int32} (hw : w ≤ 260) (hk : kd < 20) (h : TopK waitsAt w kd) (h11 : kd ≠ 11) (h12 : v1 = 0 ∨ kd ≠ 12) : Mo_lands_L0 v1 c waitsAt (nI w, said) = some (.inr (nI w, said)) := by
  have htop := topK hw hk h
  unfold Mo_lands_L0
  refine (ob_eq htop).trans ((if_neg (show ¬ nI kd = 11 from neN (b := 11) (by omega) (by decide) h11)).trans ?_)
  by_cases hv : v1 = 0
  · exact if_pos hv
  · exact (if_neg hv).trans ((ob_eq htop).trans (if_neg (show ¬ nI kd = 12 from neN (b := 12) (by omega) (by decide) (h12.resolve_left hv))))
theorem topK_js {w pa po : Nat} (hj : JS waitsAt w pa po) (hb : TopK waitsAt w 13) : ∃ kd, (kd = 11 ∨ kd = 12 ∨ kd = 13) ∧ TopK waitsAt (w + cnt po + cnt pa) kd := by
  obtain ⟨j1, j2, j3, j4⟩ := hj
  by_cases ea : pa = 0
  · by_cases eo : po = 0
    · rw [ea, eo, cnt_0, Nat.add_zero]; exact ⟨13, by omega, hb⟩
    · rw [ea, cnt_0, cnt_1 eo]
      refine ⟨12, by omega, by omega, po - 1, by omega, ?_⟩
      rw [show w + 1 + 0 - 1 = w by omega]; exact j3 eo
  · rw [cnt_1 ea]
    refine ⟨11, by omega, by omega, pa - 1, by omega, ?_⟩
    rw [show w + cnt po + 1 - 1 = w + cnt po by omega]; exact j4 ea
theorem lands0 {w pa po c : Nat} {said : Nat → Int32} (hj : JS waitsAt w pa po) (hb : TopK waitsAt w 13) (hw : w + 2 ≤ 260) (hs : pa ≠ 0 → said (pa - 1) = nI (11 * 1048576 + 0)) : Mo_lands (nI c) (nI (w + cnt po + cnt pa)) said waitsAt 0 = some (nI (w + cnt po), landed said pa 11 c) := by
  obtain ⟨j1, j2, j3, j4⟩ := hj
  have co := cnt_le po
  have hend : ∀ sd : Nat → Int32, Mo_lands_L0 0 (nI c) waitsAt (nI (w + cnt po), sd) = some (.inr (nI (w + cnt po), sd)) := by
    intro sd
    by_cases eo : po = 0
    · rw [eo, cnt_0, Nat.add_zero]
      exact land_end (by omega) (by decide) hb (by decide) (Or.inl rfl)
    · refine land_end (kd := 12) (by omega) (by decide) ⟨by rw [cnt_1 eo]; omega, po - 1, by omega, ?_⟩ (by decide) (Or.inl rfl)
      rw [cnt_1 eo, show w + 1 - 1 = w by omega]; exact j3 eo
  unfold Mo_lands
  by_cases ea : pa = 0
  · rw [ea, cnt_0, Nat.add_zero, landed_0]
    exact (ob_eq (lp_inr (hend said))).trans rfl
  · have hst := land_step (v1 := 0) (c := c) (show w + cnt po < 260 by omega) (show pa - 1 < 260 by omega) (j4 ea) (hs ea) (Or.inl rfl)
    have e2 : landed said pa 11 c = upd said (pa - 1) (nI (11 * 1048576 + c)) := if_neg ea
    rw [cnt_1 ea, e2]
    exact (ob_eq (lp_inl hst (lp_inr (hend _)))).trans rfl
theorem lands1 {w pa po c : Nat} {said : Nat → Int32} (hj : JS waitsAt w pa po) (hb : TopK waitsAt w 13) (hw : w + 2 ≤ 260) (hs : pa ≠ 0 → said (pa - 1) = nI (11 * 1048576 + 0)) (hs2 : po ≠ 0 → said (po - 1) = nI (12 * 1048576 + 0)) (hne : pa ≠ po ∨ pa = 0) : Mo_lands (nI c) (nI (w + cnt po + cnt pa)) said waitsAt 1 = some (nI w, landed (landed said pa 11 c) po 12 c) := by
  obtain ⟨j1, j2, j3, j4⟩ := hj
  have co := cnt_le po
  have hend : ∀ sd : Nat → Int32, Mo_lands_L0 1 (nI c) waitsAt (nI w, sd) = some (.inr (nI w, sd)) := fun sd => land_end (by omega) (by decide) hb (by decide) (Or.inr (by decide))
  have h2 : ∀ sd : Nat → Int32, (po ≠ 0 → sd (po - 1) = nI (12 * 1048576 + 0)) → lp (Mo_lands_L0 1 (nI c) waitsAt) (nI (w + cnt po), sd) = some (nI w, landed sd po 12 c) := by
    intro sd hsd
    by_cases eo : po = 0
    · rw [eo, cnt_0, Nat.add_zero, landed_0]; exact lp_inr (hend sd)
    · have hst := land_step (v1 := 1) (c := c) (show w < 260 by omega) (show po - 1 < 260 by omega) (j3 eo) (hsd eo) (Or.inr ⟨rfl, one_ne0⟩)
      have e2 : landed sd po 12 c = upd sd (po - 1) (nI (12 * 1048576 + c)) := if_neg eo
      rw [cnt_1 eo, e2]
      exact lp_inl hst (lp_inr (hend _))
  unfold Mo_lands
  by_cases ea : pa = 0
  · rw [ea, cnt_0, Nat.add_zero, landed_0]
    exact (ob_eq (h2 said hs2)).trans rfl
  · have hst := land_step (v1 := 1) (c := c) (show w + cnt po < 260 by omega) (show pa - 1 < 260 by omega) (j4 ea) (hs ea) (Or.inl rfl)
    have e2 : landed said pa 11 c = upd said (pa - 1) (nI (11 * 1048576 + c)) := if_neg ea
    have h3 := h2 (landed said pa 11 c) (fun eo => by rw [landed_ne (by omega)]; exact hs2 eo)
    rw [e2] at h3 ⊢
    rw [cnt_1 ea]
    exact (ob_eq (lp_inl hst h3)).trans rfl
end LS
/-- the class's places of jumps that wait -/
def vp (P : Nat → Nat) (p : Nat) : Int32 := if p = 0 then -1 else nI (P (p - 1) + 1)
def cset (code : Nat → Int32) (P : Nat → Nat) (p s : Nat) : Nat → Int32 := if p = 0 then code else upd code (P (p - 1) + 1) (nI s)
theorem settle_eq {code : Nat → Int32} {P : Nat → Nat} {p s : Nat} (h : p ≠ 0 → P (p - 1) + 1 < 640) : Law_settle code (nI s) (vp P p) = some (cset code P p s) := by
  unfold Law_settle vp cset
  by_cases e : p = 0
  · rw [if_pos e, if_pos e]; exact if_pos (by decide)
  · rw [if_neg e, if_neg e, if_neg (nI_pos (by have := h e; omega)), if_pos (show nI (P (p - 1) + 1) < 640 from (nI_ltN (b := 640) (by have := h e; omega) (by decide)).mpr (h e)), gd_eq (ixN (h e) (by decide)), nI_clamp (by have := h e; omega)]
theorem settle_any (code : Nat → Int32) (s a : Int32) : ∃ code', Law_settle code s a = some code' := by
  unfold Law_settle
  by_cases h : a < 0
  · exact ⟨_, if_pos h⟩
  · by_cases h2 : a < 640
    · obtain ⟨e, hl⟩ := nI_nn h
      have h3 : a.toNatClampNeg < 640 := by
        rw [e] at h2
        have := (nI_ltN (b := 640) hl (by decide)).mp h2
        exact this
      have hix : ix a 640 = true := by rw [e]; exact ixN h3 (by decide)
      exact ⟨_, (if_neg h).trans ((if_pos h2).trans (gd_eq hix))⟩
    · exact ⟨_, (if_neg h).trans (if_neg h2)⟩
theorem cset_lt {code : Nat → Int32} {P : Nat → Nat} {p s y z : Nat} (h : p ≠ 0 → z ≤ P (p - 1)) (hy : y < z) : cset code P p s y = code y := by
  unfold cset
  by_cases e : p = 0
  · rw [if_pos e]
  · have := h e
    rw [if_neg e, upd_ne (by omega)]
/-- both land -/
theorem segX_both {code said : Nat → Int32} {P : Nat → Nat} {a b pa po : Nat} (h : SegX code said P a b pa po) (hb : b < 1048576) (h1 : pa ≠ 0 → a < pa ∧ pa ≤ b) (h2 : po ≠ 0 → a < po ∧ po ≤ b) (hne : pa ≠ po ∨ pa = 0) :
    SegX (cset code P pa (P b)) (landed said pa 11 b) P a b 0 po ∧ Seg (cset (cset code P pa (P b)) P po (P b)) (landed (landed said pa 11 b) po 12 b) P a b := by
  have g1 : SegX (cset code P pa (P b)) (landed said pa 11 b) P a b 0 po := by
    unfold cset landed
    by_cases e : pa = 0
    · rw [if_pos e, if_pos e]; rw [e] at h; exact h
    · rw [if_neg e, if_neg e]
      have := segX_land (kd := 11) (t := pa) h (h1 e) (Or.inl ⟨rfl, rfl⟩) hb hne
      rw [if_pos rfl] at this
      exact this
  refine ⟨g1, ?_⟩
  generalize cset code P pa (P b) = code1 at g1
  generalize landed said pa 11 b = said1 at g1
  unfold cset landed
  by_cases e : po = 0
  · rw [if_pos e, if_pos e]; rw [e] at g1; exact segX_seg g1
  · rw [if_neg e, if_neg e]
    have := segX_land (kd := 12) (t := po) g1 (h2 e) (Or.inr ⟨rfl, rfl, rfl⟩) hb (Or.inr rfl)
    rw [if_neg (by decide)] at this
    exact segX_seg this
theorem depX_both {said : Nat → Int32} {a b pa po : Nat} (h : DepX said a b pa po) (hb : b < 1048576) (h1 : pa ≠ 0 → a < pa ∧ pa ≤ b) (h2 : po ≠ 0 → a < po ∧ po ≤ b) : DepX (landed said pa 11 b) a b 0 po ∧ DepS (landed (landed said pa 11 b) po 12 b) a b 0 100 := by
  have g1 : DepX (landed said pa 11 b) a b 0 po := by
    unfold landed
    by_cases e : pa = 0
    · rw [if_pos e]; rw [e] at h; exact h
    · rw [if_neg e]
      have := depX_land (kd := 11) (t := pa) h (h1 e) (Or.inl ⟨rfl, rfl⟩) hb
      rw [if_pos rfl] at this
      exact this
  refine ⟨g1, ?_⟩
  generalize landed said pa 11 b = said1 at g1
  unfold landed
  by_cases e : po = 0
  · rw [if_pos e]; rw [e] at g1; exact depX_S g1
  · rw [if_neg e]
    have := depX_land (kd := 12) (t := po) g1 (h2 e) (Or.inr ⟨rfl, rfl, rfl⟩) hb
    rw [if_neg (by decide)] at this
    exact depX_S this
/-- what the reader of a test gives -/
def TestSpec (bytes tape : Nat → Int32) (E : Nat) (g : (Nat → Int32) → Int32 → Int32 → Int32 → (Nat → Int32) → Int32 → Int32 → Option (Int32 × Int32 × Int32 × (Nat → Int32) × Int32)) (a : Nat) : Prop :=
  ∀ (i c s w : Nat) (code said waitsAt : Nat → Int32) (P : Nat → Nat) (f num : Int32), i ≤ E → s ≤ 2 * i → c ≤ i → w ≤ i → 0 < w → P c = s → NoSign waitsAt w →
    (∃ q F code' s', q < 1000 ∧ s' ≤ 640 ∧ g bytes (nI E) (nI i) 0 code (nI s) (nI a) = some (0, nI q, F, code', nI s') ∧ ¬ F = 0 ∧ ∃ R, L40To tape E (nI i, f, num, nI a, nI c, nI w, said, waitsAt) R ∧ SBad F R) ∨
    ∃ j code' s' c' P' said' waitsAt' num', g bytes (nI E) (nI i) 0 code (nI s) (nI a) = some (nI E, nI j, 0, code', nI s') ∧ i < j ∧ j ≤ E ∧ s' + 2 * i ≤ s + 2 * j ∧ c ≤ c' ∧ c' + i ≤ c + j ∧ P' c' = s' ∧ (∀ k, k ≤ c → P' k = P k) ∧ (∀ y, y < s → code' y = code y) ∧ (∀ k, k < c → said' k = said k) ∧ (∀ y, y < w → waitsAt' y = waitsAt y) ∧ Seg code' said' P' c c' ∧ DepS said' c c' 0 100 ∧
      ∀ R, AftE tape E (nI j, nI a, nI c', nI w, said') f num' waitsAt' R → L40To tape E (nI i, f, num, nI a, nI c, nI w, said, waitsAt) R
/-- behind a closed bracket -/
def ClosedTo (tape : Nat → Int32) (E w : Nat) (x : S5) (f num : Int32) (waitsAt : Nat → Int32) (R : Int32 × S8) : Prop := (w = 0 ∧ R = (1, x.1, f, num, x.2.1, x.2.2.1, x.2.2.2.1, x.2.2.2.2, waitsAt)) ∨ (w ≠ 0 ∧ AftE tape E x f num waitsAt R)
section CH
variable {bytes tape : Nat → Int32} {E : Nat} {rt : (Nat → Int32) → Int32 → Int32 → Int32 → (Nat → Int32) → Int32 → Int32 → Option (Int32 × Int32 × Int32 × (Nat → Int32) × Int32)}
theorem dead12 {q k s : Nat} {F : Int32} (hq : q < 1000) (hk : k ≤ 240) (hs : s ≤ 640) (v1 v2 v3 : Int32) (code : Nat → Int32) :
    ∃ r code', lp (Law_readChoiceO_L12 rt v1 bytes) (v2, v3, nI k, 0, nI q, F, code, nI s) = some r ∧ (r = .inl (0, nI q, F, code', nI s) ∨ r = .inr (0, nI q, F, code', nI s)) := by
  by_cases h : k < 240
  · obtain ⟨c1, h1⟩ := settle_any code (nI s) v2
    obtain ⟨c2, h2⟩ := settle_any c1 (nI s) v3
    refine ⟨_, c2, lp_inr ?_, Or.inl rfl⟩
    unfold Law_readChoiceO_L12 Law_readChoiceO_L12_J48
    exact (if_pos ((nI_ltN (b := 240) (by omega) (by decide)).mpr h)).trans ((ob_eq (peek_dead (show q < 2 ^ 31 by omega))).trans ((ob_eq h1).trans ((if_neg (by decide)).trans ((ob_eq h2).trans ((if_neg (by decide)).trans (if_neg (by decide)))))))
  · refine ⟨_, code, lp_inr ?_, Or.inr rfl⟩
    unfold Law_readChoiceO_L12
    exact if_neg (fun z => h ((nI_ltN (b := 240) (by omega) (by decide)).mp z))
/-- one round of the class -/
theorem l12_jump (hT : TX bytes tape E) {j k s pa po kd : Nat} {P : Nat → Nat} (hj : j < 1000) (hk : k < 240) (hs : s + 1 < 640) (h : (ch bytes E j = 38 ∧ kd = 11) ∨ (ch bytes E j = 124 ∧ kd = 12)) (hpa : pa ≠ 0 → P (pa - 1) + 1 < 640) (hpo : po ≠ 0 → P (po - 1) + 1 < 640) (v1 : Int32) (code : Nat → Int32) {x1 : Int32 × Int32 × Int32 × (Nat → Int32) × Int32}
    (h1 : rt bytes (nI E) (nI (j + 1)) 0 (upd (upd (if kd = 11 then cset code P pa s else cset (cset code P pa s) P po s) s (if kd = 11 then 38 else 124)) (s + 1) 0) (nI (s + 1 + 1)) v1 = some x1) :
    Law_readChoiceO_L12 rt v1 bytes (vp P pa, vp P po, nI k, nI E, nI j, 0, code, nI s) = some (.inl (if kd = 11 then nI (s + 1) else -1, if kd = 11 then vp P po else nI (s + 1), nI (k + 1), x1.1, x1.2.1, x1.2.2.1, x1.2.2.2.1, x1.2.2.2.2)) := by
  have hp := peek_eq (bytes := bytes) hT.1 (show j < 2 ^ 31 by omega)
  have e1 : nI j + 1 = nI (j + 1) := nI_ad j 1
  have ek : nI k + 1 = nI (k + 1) := nI_ad k 1
  unfold Law_readChoiceO_L12
  refine (if_pos ((nI_ltN (b := 240) (by omega) (by decide)).mpr hk)).trans ((ob_eq hp).trans ((ob_eq (settle_eq hpa)).trans ?_))
  rcases h with ⟨hc, rfl⟩ | ⟨hc, rfl⟩
  · rw [if_pos rfl, if_pos rfl] at h1
    refine (if_pos hc).trans ?_
    unfold Law_readChoiceO_L12_J48 Law_readChoiceO_L12_J63 Law_readChoiceO_L12_J99 Tape_skip
    refine (if_pos hc).trans ?_
    rw [hc]
    refine (ob_eq (emit_eq (show s < 640 by omega) 38)).trans ((if_pos rfl).trans ((ob_eq (emit_eq hs 0)).trans ?_))
    show (ob (rt bytes (nI E) (nI j + 1) 0 _ _ v1) fun x1 => some (Sum.inl (nI (s + 1), vp P po, nI k + 1, x1.1, x1.2.1, x1.2.2.1, x1.2.2.2.1, x1.2.2.2.2))) = _
    rw [e1, ek]
    exact (ob_eq h1).trans rfl
  · rw [if_neg (by decide), if_neg (by decide)] at h1
    refine (if_neg (by rw [hc]; decide)).trans ((ob_eq (settle_eq hpo)).trans ?_)
    unfold Law_readChoiceO_L12_J48 Law_readChoiceO_L12_J63 Law_readChoiceO_L12_J99 Tape_skip
    refine (if_neg (by rw [hc]; decide)).trans ((if_pos hc).trans ?_)
    rw [hc]
    refine (ob_eq (emit_eq (show s < 640 by omega) 124)).trans ((if_neg (by decide)).trans ((ob_eq (emit_eq hs 0)).trans ?_))
    show (ob (rt bytes (nI E) (nI j + 1) 0 _ _ v1) fun x1 => some (Sum.inl (-1, nI (s + 1), nI k + 1, x1.1, x1.2.1, x1.2.2.1, x1.2.2.2.1, x1.2.2.2.2))) = _
    rw [e1, ek]
    exact (ob_eq h1).trans rfl
theorem l12_end (hT : TX bytes tape E) {j k s pa po : Nat} {P : Nat → Nat} (hj : j < 1000) (hk : k < 240) (h38 : ¬ ch bytes E j = 38) (h124 : ¬ ch bytes E j = 124) (hpa : pa ≠ 0 → P (pa - 1) + 1 < 640) (hpo : po ≠ 0 → P (po - 1) + 1 < 640) (v1 : Int32) (code : Nat → Int32) :
    Law_readChoiceO_L12 rt v1 bytes (vp P pa, vp P po, nI k, nI E, nI j, 0, code, nI s) = some (.inr (.inl (nI E, nI j, 0, cset (cset code P pa s) P po s, nI s))) := by
  have hp := peek_eq (bytes := bytes) hT.1 (show j < 2 ^ 31 by omega)
  unfold Law_readChoiceO_L12 Law_readChoiceO_L12_J48
  exact (if_pos ((nI_ltN (b := 240) (by omega) (by decide)).mpr hk)).trans ((ob_eq hp).trans ((ob_eq (settle_eq hpa)).trans ((if_neg h38).trans ((ob_eq (settle_eq hpo)).trans ((if_neg h38).trans (if_neg h124))))))
theorem br_spec (hT : TX bytes tape E) (hE : E ≤ 240) {a : Nat} (ha : a < 6) (hrt : TestSpec bytes tape E rt (a + 1)) {i0 c0 s0 w : Nat} {code0 said0 waits0 : Nat → Int32} {P0 : Nat → Nat} {f num0 : Int32} (hi0 : i0 ≤ E) (hs0 : s0 ≤ 2 * i0) (hc0 : c0 ≤ i0) (hw0 : w ≤ i0) (hP0 : P0 c0 = s0) (h40 : ch bytes E i0 = 40) :
    (∃ q F code' s', q < 1000 ∧ s' ≤ 640 ∧ Law_readInBracketsO rt bytes (nI E) (nI i0) 0 code0 (nI s0) (nI a) = some (0, nI q, F, code', nI s') ∧ ¬ F = 0 ∧ ∃ R, L40To tape E (nI (i0 + 1), f, num0, nI (a + 1), nI c0, nI (w + 1), said0, upd waits0 w (nI (13 * 1048576))) R ∧ SBad F R) ∨
    ∃ j code' s' c' P' said' waitsAt' num', Law_readInBracketsO rt bytes (nI E) (nI i0) 0 code0 (nI s0) (nI a) = some (nI E, nI j, 0, code', nI s') ∧ i0 < j ∧ j ≤ E ∧ s' + 2 * i0 ≤ s0 + 2 * j ∧ c0 ≤ c' ∧ c' + i0 ≤ c0 + j ∧ P' c' = s' ∧ (∀ k, k ≤ c0 → P' k = P0 k) ∧ (∀ y, y < s0 → code' y = code0 y) ∧ (∀ k, k < c0 → said' k = said0 k) ∧ (∀ y, y < w → waitsAt' y = waits0 y) ∧ Seg code' said' P' c0 c' ∧ DepS said' c0 c' 0 100 ∧
      ∀ R, ClosedTo tape E w (nI j, nI a, nI c', nI w, said') f num' waitsAt' R → L40To tape E (nI (i0 + 1), f, num0, nI (a + 1), nI c0, nI (w + 1), said0, upd waits0 w (nI (13 * 1048576))) R := by
  have hiE : i0 < E := by
    rcases ch_cases hT i0 with z | ⟨z, -⟩
    · rw [z] at h40; exact absurd h40 (by decide)
    · exact z
  have hpk := peek_eq (bytes := bytes) hT.1 (show i0 < 2 ^ 31 by omega)
  have hop : Law_opens (nI E) (nI i0) 0 (nI a) = some (1, nI E, nI (i0 + 1), 0) := by
    unfold Law_opens Tape_skip
    rw [if_pos (show nI a < 6 from (nI_ltN (b := 6) (by omega) (by decide)).mpr ha), show nI i0 + 1 = nI (i0 + 1) from nI_ad i0 1]; rfl
  -- the class behind its loop
  have hgo : ∀ {x1 t : Int32 × Int32 × Int32 × (Nat → Int32) × Int32} {r : (Int32 × Int32 × Int32 × (Nat → Int32) × Int32) ⊕ (Int32 × Int32 × Int32 × (Nat → Int32) × Int32)} {y : Int32 × Int32 × Int32 × Int32}, rt bytes (nI E) (nI (i0 + 1)) 0 code0 (nI s0) (nI (a + 1)) = some x1 → lp (Law_readChoiceO_L12 rt (nI (a + 1)) bytes) (-1, -1, 0, x1.1, x1.2.1, x1.2.2.1, x1.2.2.2.1, x1.2.2.2.2) = some r → (r = .inl t ∨ r = .inr t) → Tape_take bytes t.1 t.2.1 t.2.2.1 41 = some y → Law_readInBracketsO rt bytes (nI E) (nI i0) 0 code0 (nI s0) (nI a) = some (y.2.1, y.2.2.1, y.2.2.2, t.2.2.2.1, t.2.2.2.2) := by
    intro x1 t r y h1 h2 h3 h4
    have hch : Law_readChoiceO rt bytes (nI E) (nI (i0 + 1)) 0 code0 (nI s0) (nI (a + 1)) = some t := by
      unfold Law_readChoiceO
      refine (ob_eq h1).trans ((ob_eq h2).trans ?_)
      rcases h3 with rfl | rfl <;> rfl
    unfold Law_readInBracketsO
    refine (ob_eq hpk).trans ((if_pos h40).trans ((ob_eq hop).trans ((if_neg one_ne0).trans ?_)))
    rw [show nI a + 1 = nI (a + 1) from nI_ad a 1]
    exact (ob_eq hch).trans ((ob_eq h4).trans rfl)
  have htkd : ∀ {q : Nat} {F : Int32}, q < 1000 → ¬ F = 0 → Tape_take bytes 0 (nI q) F 41 = some (0, 0, nI q, F) := by
    intro q F hq hF
    unfold Tape_take
    rw [ob_eq (peek_dead (show q < 2 ^ 31 by omega)), if_neg (by decide), ob_eq (failN hF _ _)]
  have hN1 : NoSign (upd waits0 w (nI (13 * 1048576))) (w + 1) := Or.inr ⟨13, 0, by decide, by omega, by omega, by rw [show w + 1 - 1 = w by omega, upd_at]⟩
  rcases hrt (i0 + 1) c0 s0 (w + 1) code0 said0 (upd waits0 w (nI (13 * 1048576))) P0 f num0 (by omega) (by omega) (by omega) (by omega) (by omega) hP0 hN1 with ⟨q, F, code', s', hq, hs', g1, g2, g3⟩ | ⟨j, code1, s1, c1, P1, said1, waits1, num1, g1, g2, g3, g4, g5, g6, g7, g8, g9, g10, g11, g12, g12d, g13⟩
  · left
    obtain ⟨r, code2, k1, k2⟩ := dead12 (rt := rt) (bytes := bytes) (F := F) hq (show 0 ≤ 240 by omega) hs' (nI (a + 1)) (-1) (-1) code'
    exact ⟨q, F, code2, s', hq, hs', hgo g1 k1 k2 (htkd hq g2), g2, g3⟩
  · have hloop := lp_inv2 (f := Law_readChoiceO_L12 rt (nI (a + 1)) bytes) (fun k st => ∃ (j c s pa po : Nat) (P : Nat → Nat) (code said waitsAt : Nat → Int32) (num : Int32), st = (vp P pa, vp P po, nI k, nI E, nI j, 0, code, nI s) ∧ i0 + 1 + 2 * k < j ∧ j ≤ E ∧ s + 2 * (i0 + 1) ≤ s0 + 2 * j ∧ c0 ≤ c ∧ c + (i0 + 1) ≤ c0 + j ∧ P c = s ∧ (∀ k, k ≤ c0 → P k = P0 k) ∧ (∀ y, y < s0 → code y = code0 y) ∧ (∀ k, k < c0 → said k = said0 k) ∧ (∀ y, y < w + 1 → waitsAt y = upd waits0 w (nI (13 * 1048576)) y) ∧ SegX code said P c0 c pa po ∧ DepX said c0 c pa po ∧ (pa ≠ 0 → c0 < pa ∧ pa ≤ c) ∧ (po ≠ 0 → c0 < po ∧ po ≤ c) ∧ (pa ≠ po ∨ pa = 0) ∧ JS waitsAt (w + 1) pa po ∧
        ∀ R, AftE tape E (nI j, nI (a + 1), nI c, nI (w + 1 + cnt po + cnt pa), said) f num waitsAt R → L40To tape E (nI (i0 + 1), f, num0, nI (a + 1), nI c0, nI (w + 1), said0, upd waits0 w (nI (13 * 1048576))) R)
      240 (fun r => (∃ q F code' s', q < 1000 ∧ s' ≤ 640 ∧ (r = .inl (0, nI q, F, code', nI s') ∨ r = .inr (0, nI q, F, code', nI s')) ∧ ¬ F = 0 ∧ ∃ R, L40To tape E (nI (i0 + 1), f, num0, nI (a + 1), nI c0, nI (w + 1), said0, upd waits0 w (nI (13 * 1048576))) R ∧ SBad F R) ∨
        ∃ (j c s pa po : Nat) (P : Nat → Nat) (code said waitsAt : Nat → Int32) (num : Int32), r = .inl (nI E, nI j, 0, cset (cset code P pa s) P po s, nI s) ∧ i0 + 1 < j ∧ j ≤ E ∧ ¬ ch bytes E j = 38 ∧ ¬ ch bytes E j = 124 ∧ s + 2 * (i0 + 1) ≤ s0 + 2 * j ∧ c0 ≤ c ∧ c + (i0 + 1) ≤ c0 + j ∧ P c = s ∧ (∀ k, k ≤ c0 → P k = P0 k) ∧ (∀ y, y < s0 → code y = code0 y) ∧ (∀ k, k < c0 → said k = said0 k) ∧ (∀ y, y < w + 1 → waitsAt y = upd waits0 w (nI (13 * 1048576)) y) ∧ SegX code said P c0 c pa po ∧ DepX said c0 c pa po ∧ (pa ≠ 0 → c0 < pa ∧ pa ≤ c) ∧ (po ≠ 0 → c0 < po ∧ po ≤ c) ∧ (pa ≠ po ∨ pa = 0) ∧ JS waitsAt (w + 1) pa po ∧
          ∀ R, AftE tape E (nI j, nI (a + 1), nI c, nI (w + 1 + cnt po + cnt pa), said) f num waitsAt R → L40To tape E (nI (i0 + 1), f, num0, nI (a + 1), nI c0, nI (w + 1), said0, upd waits0 w (nI (13 * 1048576))) R)
      ?_ ?_ 0 (-1, -1, 0, nI E, nI j, 0, code1, nI s1) (Nat.zero_le _) ⟨j, c1, s1, 0, 0, P1, code1, said1, waits1, num1, rfl, by omega, g3, by omega, g5, by omega, g7, g8, g9, g10, g11, segX_of g12, depX_of g12d, fun z => absurd rfl z, fun z => absurd rfl z, Or.inr rfl, ⟨by omega, by omega, fun z => absurd rfl z, fun z => absurd rfl z⟩, g13⟩
    · obtain ⟨r, r1, r2⟩ := hloop
      rcases r2 with ⟨q, F, code', s', k1, k2, k3, k4, k5⟩ | ⟨j', c, s, pa, po, P, code, said, waitsAt, num, rfl, k1, k2, k3, k4, k5, k6, k7, k8, k9, k10, k11, k12, k13, k13d, k14, k15, k16, k17, k18⟩
      · exact Or.inl ⟨q, F, code', s', k1, k2, hgo g1 r1 k3 (htkd k1 k4), k4, k5⟩
      · have hpj := peek_eq (bytes := bytes) hT.1 (show j' < 2 ^ 31 by omega)
        have h13 : TopK waitsAt (w + 1) 13 := ⟨by omega, 0, by decide, by rw [show w + 1 - 1 = w by omega, k12 w (by omega), upd_at]⟩
        obtain ⟨kd, hkd, htop⟩ := topK_js k17 h13
        have ca := cnt_le pa
        have co := cnt_le po
        by_cases h41 : ch bytes E j' = 41
        · right
          have hjE : j' < E := by
            rcases ch_cases hT j' with z | ⟨z, -⟩
            · rw [z] at h41; exact absurd h41 (by decide)
            · exact z
          have htk : Tape_take bytes (nI E) (nI j') 0 41 = some (1, nI E, nI (j' + 1), 0) := by
            unfold Tape_take
            rw [ob_eq hpj, if_pos h41, show nI j' + 1 = nI (j' + 1) from nI_ad j' 1]
          have hsX := segX_both k13 (by omega) k14 k15 k16
          rw [k8] at hsX
          have hln := lands1 (c := c) k17 h13 (show w + 1 + 2 ≤ 260 by omega) (fun e => ((k13 (pa - 1) (by have := k14 e; omega) (by have := k14 e; omega)).1 (by have := k14 e; omega)).1) (fun e => ((k13 (po - 1) (by have := k15 e; omega) (by have := k15 e; omega)).2.1 (by have := k15 e; omega)).1) k16
          have hPle : ∀ p, (p ≠ 0 → c0 < p ∧ p ≤ c) → p ≠ 0 → s0 ≤ P (p - 1) := by
            intro p hp e
            obtain ⟨e1, e2⟩ := hp e
            have := k9 c0 (Nat.le_refl _)
            have mono : ∀ m x, c0 ≤ x → x + m ≤ c → P x + m ≤ P (x + m) := by
              intro m
              induction m with
              | zero => intro x _ _; exact Nat.le_refl _
              | succ m ih =>
                intro x g1 g2
                have := ih x g1 (by omega)
                have := segX_step k13 (k := x + m) (by omega) (by omega)
                rw [show x + (m + 1) = x + m + 1 by omega]; omega
            have := mono (p - 1 - c0) c0 (Nat.le_refl _) (by omega)
            rw [show c0 + (p - 1 - c0) = p - 1 by omega] at this
            omega
          refine ⟨j' + 1, _, s, c, P, landed (landed said pa 11 c) po 12 c, waitsAt, num, hgo g1 r1 (Or.inl rfl) htk, by omega, by omega, by omega, k6, by omega, k8, k9, fun y hy => ?_, fun k hk => ?_, fun y hy => (k12 y (by omega)).trans (upd_ne (by omega)), hsX.2, (depX_both k13d (by omega) k14 k15).2, fun R hR => k18 R (afte_none (kd := kd) (by omega) (by omega) htop (by omega) ?_)⟩
          · show cset (cset code P pa s) P po s y = _
            rw [cset_lt (hPle po k15) hy, cset_lt (hPle pa k14) hy]; exact k10 y hy
          · rw [landed_ne (by rcases Nat.eq_zero_or_pos po with e | e; exact Or.inl e; have := k15 (by omega); omega), landed_ne (by rcases Nat.eq_zero_or_pos pa with e | e; exact Or.inl e; have := k14 (by omega); omega)]; exact k11 k hk
          · rcases hR with ⟨e, rfl⟩ | ⟨e, hR⟩
            · subst e
              exact aftc_done hT (by omega) (by omega) h41 hln
            · exact aftc_close hT (by omega) (by omega) (by omega) h41 hln e hR
        · left
          have htk : Tape_take bytes (nI E) (nI j') 0 41 = some (0, 0, nI j', flt 1 j') := by
            unfold Tape_take
            rw [ob_eq hpj, if_neg h41, ob_eq (fail0 _ _ _)]; rfl
          exact ⟨j', flt 1 j', _, s, by omega, by omega, hgo g1 r1 (Or.inl rfl) htk, flt_ne (by omega) (by omega), _, k18 _ (afte_none (kd := kd) (by omega) (by omega) htop (by omega) (aftc_bad hT (by omega) h41 k3 k4)), rfl, rfl⟩
    · rintro k st hk ⟨j', c, s, pa, po, P, code, said, waitsAt, num, rfl, k1, k2, k5, k6, k7, k8, k9, k10, k11, k12, k13, k13d, k14, k15, k16, k17, k18⟩
      have h13 : TopK waitsAt (w + 1) 13 := ⟨by omega, 0, by decide, by rw [show w + 1 - 1 = w by omega, k12 w (by omega), upd_at]⟩
      obtain ⟨kdt, hkd, htop⟩ := topK_js k17 h13
      have ca := cnt_le pa
      have co := cnt_le po
      have mono : ∀ m x, c0 ≤ x → x + m ≤ c → P x + m ≤ P (x + m) := by
        intro m
        induction m with
        | zero => intro x _ _; exact Nat.le_refl _
        | succ m ih =>
          intro x g1 g2
          have := ih x g1 (by omega)
          have := segX_step k13 (k := x + m) (by omega) (by omega)
          rw [show x + (m + 1) = x + m + 1 by omega]; omega
      have hPlt : ∀ p, (p ≠ 0 → c0 < p ∧ p ≤ c) → p ≠ 0 → s0 ≤ P (p - 1) ∧ P (p - 1) + 1 < 640 := by
        intro p hp e
        obtain ⟨e1, e2⟩ := hp e
        have := k9 c0 (Nat.le_refl _)
        have a1 := mono (p - 1 - c0) c0 (Nat.le_refl _) (by omega)
        rw [show c0 + (p - 1 - c0) = p - 1 by omega] at a1
        have a2 := mono (c - (p - 1)) (p - 1) (by omega) (by omega)
        rw [show p - 1 + (c - (p - 1)) = c by omega] at a2
        omega
      by_cases hjmp : ch bytes E j' = 38 ∨ ch bytes E j' = 124
      · obtain ⟨kd, hkd2⟩ : ∃ kd, (ch bytes E j' = 38 ∧ kd = 11) ∨ (ch bytes E j' = 124 ∧ kd = 12) := by
          rcases hjmp with h | h
          · exact ⟨11, Or.inl ⟨h, rfl⟩⟩
          · exact ⟨12, Or.inr ⟨h, rfl⟩⟩
        have hjE : j' < E := by
          rcases ch_cases hT j' with z | ⟨z, -⟩
          · rw [z] at hjmp; exact absurd hjmp (by decide)
          · exact z
        have hsX := segX_both k13 (by omega) k14 k15 k16
        rw [k8] at hsX
        -- what has landed, in both
        have hland : ∃ (po2 : Nat) (codeL saidL : Nat → Int32), (po2 = if kd = 11 then po else 0) ∧ SegX codeL saidL P c0 c 0 po2 ∧ codeL = (if kd = 11 then cset code P pa s else cset (cset code P pa s) P po s) ∧ Mo_lands (nI c) (nI (w + 1 + cnt po + cnt pa)) said waitsAt (if kd = 12 then 1 else 0) = some (nI (w + 1 + cnt po2), saidL) ∧ (∀ y, y < s0 → codeL y = code y) ∧ (∀ k, k < c0 → saidL k = said k) ∧ DepX saidL c0 c 0 po2 := by
          have hA : pa ≠ 0 → said (pa - 1) = nI (11 * 1048576 + 0) := fun e => ((k13 (pa - 1) (by have := k14 e; omega) (by have := k14 e; omega)).1 (by have := k14 e; omega)).1
          have hO : po ≠ 0 → said (po - 1) = nI (12 * 1048576 + 0) := fun e => ((k13 (po - 1) (by have := k15 e; omega) (by have := k15 e; omega)).2.1 (by have := k15 e; omega)).1
          have lA : ∀ k, k < c0 → landed said pa 11 c k = said k := fun k hk => landed_ne (by rcases Nat.eq_zero_or_pos pa with e | e; exact Or.inl e; have := k14 (by omega); omega)
          have lO : ∀ (sd : Nat → Int32) k, k < c0 → landed sd po 12 c k = sd k := fun sd k hk => landed_ne (by rcases Nat.eq_zero_or_pos po with e | e; exact Or.inl e; have := k15 (by omega); omega)
          rcases hkd2 with ⟨-, rfl⟩ | ⟨-, rfl⟩
          · refine ⟨po, _, _, (if_pos rfl).symm, hsX.1, (if_pos rfl).symm, ?_, fun y hy => cset_lt (fun e => (hPlt pa k14 e).1) hy, lA, (depX_both k13d (by omega) k14 k15).1⟩
            rw [if_neg (by decide)]
            exact lands0 k17 h13 (by omega) hA
          · refine ⟨0, _, _, (if_neg (by decide)).symm, segX_of hsX.2, (if_neg (by decide)).symm, ?_, fun y hy => (cset_lt (fun e => (hPlt po k15 e).1) hy).trans (cset_lt (fun e => (hPlt pa k14 e).1) hy), fun k hk => (lO _ k hk).trans (lA k hk), depX_of (depX_both k13d (by omega) k14 k15).2⟩
            rw [if_pos rfl, cnt_0, Nat.add_zero]
            exact lands1 k17 h13 (by omega) hA hO k16
        obtain ⟨po2, codeL, saidL, n1, n2, n3, n4, n5, n6, n7⟩ := hland
        have co2 := cnt_le po2
        have hpo2 : po2 ≠ 0 → c0 < po2 ∧ po2 ≤ c := fun e => by
          by_cases e2 : kd = 11
          · rw [if_pos e2] at n1; rw [n1] at e ⊢; exact k15 e
          · rw [if_neg e2] at n1; omega
        have hkd11 : kd = 11 ∨ kd = 12 := by omega
        -- the jump itself, in both
        have hJc : Jmp (upd (upd codeL s (if kd = 11 then 38 else 124)) (s + 1) 0) (upd saidL c (nI (kd * 1048576 + 0))) (ext P c (s + 2)) c kd := by
          refine ⟨upd_at _ _ _, by rw [ext_gt, ext_le (Nat.le_refl _), k8], ?_⟩
          rw [ext_le (Nat.le_refl _), k8, upd_ne (by omega), upd_at]
        have hSX2 : SegX (upd (upd codeL s (if kd = 11 then 38 else 124)) (s + 1) 0) (upd saidL c (nI (kd * 1048576 + 0))) (ext P c (s + 2)) c0 (c + 1) (if kd = 11 then c + 1 else 0) (if kd = 11 then po2 else c + 1) := by
          have hk := segX_keep (code' := upd (upd codeL s (if kd = 11 then 38 else 124)) (s + 1) 0) (said' := upd saidL c (nI (kd * 1048576 + 0))) (P' := ext P c (s + 2)) n2 (fun y hy => by rw [upd_ne (by omega), upd_ne (by omega)]) (fun k hk => upd_ne (by omega)) (fun k hk => ext_le hk)
          intro k h1 h2
          by_cases e : k = c
          · subst e
            rcases hkd11 with rfl | rfl
            · exact ⟨fun _ => hJc, fun z => by rw [if_pos rfl] at z; have := hpo2 (by omega); omega, fun z => absurd (if_pos rfl).symm z⟩
            · exact ⟨fun z => by rw [if_neg (by decide)] at z; omega, fun _ => hJc, fun _ z => absurd (if_neg (by decide)).symm z⟩
          · obtain ⟨q1, q2, q3⟩ := hk k h1 (by omega)
            refine ⟨fun z => ?_, fun z => ?_, fun z1 z2 => ins_mono (by omega) (q3 (by omega) (fun y => ?_))⟩
            · rcases hkd11 with rfl | rfl
              · rw [if_pos rfl] at z; omega
              · rw [if_neg (by decide)] at z; omega
            · rcases hkd11 with rfl | rfl
              · rw [if_pos rfl] at z; exact q2 z
              · rw [if_neg (by decide)] at z; omega
            · rcases hkd11 with rfl | rfl
              · rw [if_pos rfl] at z2; exact z2 y
              · rw [if_neg (by decide)] at n1; omega
        -- what waits
        have hJS2 : JS (upd waitsAt (w + 1 + cnt po2) (nI (kd * 1048576 + c))) (w + 1) (if kd = 11 then c + 1 else 0) (if kd = 11 then po2 else c + 1) := by
          obtain ⟨u1, u2, u3, u4⟩ := k17
          rcases hkd11 with rfl | rfl
          · rw [if_pos rfl] at n1
            rw [if_pos rfl, if_pos rfl]
            refine ⟨by omega, by omega, fun e => ?_, fun _ => upd_at _ _ _⟩
            rw [upd_ne (by rw [cnt_1 e]; omega), n1]; exact u3 (by omega)
          · rw [if_neg (by decide)] at n1
            rw [if_neg (by decide), if_neg (by decide)]
            refine ⟨by omega, by omega, fun _ => ?_, fun z => absurd rfl z⟩
            rw [n1, cnt_0, Nat.add_zero, upd_at]; rfl
        have hW2 : w + 1 + cnt po2 + 1 = w + 1 + cnt (if kd = 11 then po2 else c + 1) + cnt (if kd = 11 then c + 1 else 0) := by
          rcases hkd11 with rfl | rfl
          · rw [if_pos rfl, if_pos rfl, cnt_1 (show c + 1 ≠ 0 by omega)]
          · rw [if_neg (by decide)] at n1
            rw [if_neg (by decide), if_neg (by decide), n1, cnt_0, cnt_1 (show c + 1 ≠ 0 by omega)]
        have hN2 : NoSign (upd waitsAt (w + 1 + cnt po2) (nI (kd * 1048576 + c))) (w + 1 + cnt po2 + 1) := Or.inr ⟨kd, c, by omega, by omega, by omega, by rw [show w + 1 + cnt po2 + 1 - 1 = w + 1 + cnt po2 by omega, upd_at]⟩
        have hback : ∀ {R}, L40To tape E (nI (j' + 1), f, num, nI (a + 1), nI (c + 1), nI (w + 1 + cnt po2 + 1), upd saidL c (nI (kd * 1048576 + 0)), upd waitsAt (w + 1 + cnt po2) (nI (kd * 1048576 + c))) R → L40To tape E (nI (i0 + 1), f, num0, nI (a + 1), nI c0, nI (w + 1), said0, upd waits0 w (nI (13 * 1048576))) R := fun {R} hR => k18 R (afte_none (kd := kdt) (by omega) (by omega) htop (by omega) (aftc_jump hT (by omega) (by omega) (by omega) hkd2 n4 hR))
        have hvp : ∀ {P' : Nat → Nat}, (∀ k, k ≤ c + 1 → P' k = ext P c (s + 2) k) → (if kd = 11 then nI (s + 1) else -1) = vp P' (if kd = 11 then c + 1 else 0) ∧ (if kd = 11 then vp P po else nI (s + 1)) = vp P' (if kd = 11 then po2 else c + 1) := by
          intro P' hP'
          have e1 : P' c = s := by rw [hP' c (by omega), ext_le (Nat.le_refl _), k8]
          rcases hkd11 with rfl | rfl
          · rw [if_pos rfl] at n1
            rw [if_pos rfl, if_pos rfl, if_pos rfl, if_pos rfl]
            constructor
            · unfold vp; rw [if_neg (by omega), show c + 1 - 1 = c by omega, e1]
            · unfold vp
              rw [n1]
              by_cases e : po = 0
              · rw [if_pos e, if_pos e]
              · rw [if_neg e, if_neg e, hP' (po - 1) (by have := k15 e; omega), ext_le (by have := k15 e; omega)]
          · rw [if_neg (by decide), if_neg (by decide), if_neg (by decide), if_neg (by decide)]
            constructor
            · rfl
            · unfold vp; rw [if_neg (by omega), show c + 1 - 1 = c by omega, e1]
        rcases hrt (j' + 1) (c + 1) (s + 2) (w + 1 + cnt po2 + 1) (upd (upd codeL s (if kd = 11 then 38 else 124)) (s + 1) 0) (upd saidL c (nI (kd * 1048576 + 0))) (upd waitsAt (w + 1 + cnt po2) (nI (kd * 1048576 + c))) (ext P c (s + 2)) f num (by omega) (by omega) (by omega) (by omega) (by omega) ext_gt hN2 with ⟨q, F, code', s', hq, hs', b1, b2, R, b3, b4⟩ | ⟨j2, code', s', c', P', said', waitsAt', num', b1, b2, b3, b4, b5, b6, b7, b8, b9, b10, b11, b12, b12d, b13⟩
        · rw [n3] at b1
          have hst := l12_jump hT (show j' < 1000 by omega) hk (show s + 1 < 640 by omega) hkd2 (fun e => (hPlt pa k14 e).2) (fun e => (hPlt po k15 e).2) (nI (a + 1)) code b1
          obtain ⟨r, code2, d1, d2⟩ := dead12 (rt := rt) (bytes := bytes) (F := F) hq (show k + 1 ≤ 240 by omega) hs' (nI (a + 1)) (if kd = 11 then nI (s + 1) else -1) (if kd = 11 then vp P po else nI (s + 1)) code'
          exact Or.inr ⟨r, lp_inl hst d1, Or.inl ⟨q, F, code2, s', hq, hs', d2, b2, R, hback b3, b4⟩⟩
        · rw [n3] at b1
          have hst := l12_jump hT (show j' < 1000 by omega) hk (show s + 1 < 640 by omega) hkd2 (fun e => (hPlt pa k14 e).2) (fun e => (hPlt po k15 e).2) (nI (a + 1)) code b1
          obtain ⟨v1, v2⟩ := hvp b8
          rw [v1, v2] at hst
          refine Or.inl ⟨_, hst, j2, c', s', (if kd = 11 then c + 1 else 0), (if kd = 11 then po2 else c + 1), P', code', said', waitsAt', num', rfl, by omega, b3, by omega, by omega, by omega, b7, fun k hk => (b8 k (by omega)).trans ((ext_le (by omega)).trans (k9 k hk)), fun y hy => ?_, fun k hk => (b10 k (by omega)).trans ((upd_ne (by omega)).trans ((n6 k hk).trans (k11 k hk))), fun y hy => (b11 y (by omega)).trans ((upd_ne (by omega)).trans (k12 y hy)), segX_app (segX_keep hSX2 (fun y hy => b9 y (by rw [ext_gt] at hy; exact hy)) (fun k hk => b10 k hk) (fun k hk => b8 k hk)) b12 b5 ?_ ?_, depX_jump (po2 := po2) (depX_keep n7 (fun k hk => (b10 k (by omega)).trans (upd_ne (by omega)))) k6 b5 ?_ ?_ b12d, ?_, ?_, ?_, ?_, fun R hR => hback (b13 R ?_)⟩
          · have := mono (c - c0) c0 (Nat.le_refl _) (by omega)
            have := k9 c0 (Nat.le_refl _)
            rw [show c0 + (c - c0) = c by omega] at *
            rw [b9 y (by omega), upd_ne (by omega), upd_ne (by omega)]
            exact (n5 y hy).trans (k10 y hy)
          · rcases hkd11 with rfl | rfl
            · rw [if_pos rfl]; omega
            · rw [if_neg (by decide)]; omega
          · rcases hkd11 with rfl | rfl
            · rw [if_pos rfl]; rcases Nat.eq_zero_or_pos po2 with e | e
              · omega
              · have := hpo2 (by omega); omega
            · rw [if_neg (by decide)]; omega
          · rcases hkd11 with rfl | rfl
            · rw [if_pos rfl, if_pos rfl]; exact Or.inl ⟨rfl, rfl⟩
            · rw [if_neg (by decide)] at n1
              rw [if_neg (by decide), if_neg (by decide)]; exact Or.inr ⟨rfl, rfl, n1⟩
          · rcases Nat.eq_zero_or_pos po2 with e | e
            · omega
            · have := hpo2 (by omega); omega
          · rcases hkd11 with rfl | rfl
            · rw [if_pos rfl]; exact fun _ => by omega
            · rw [if_neg (by decide)]; exact fun z => absurd rfl z
          · rcases hkd11 with rfl | rfl
            · rw [if_pos rfl]; exact fun z => by have := hpo2 z; omega
            · rw [if_neg (by decide)]; exact fun _ => by omega
          · rcases hkd11 with rfl | rfl
            · rw [if_pos rfl, if_pos rfl]; left; rcases Nat.eq_zero_or_pos po2 with e | e
              · omega
              · have := hpo2 (by omega); omega
            · rw [if_neg (by decide)]; exact Or.inr rfl
          · obtain ⟨u1, u2, u3, u4⟩ := hJS2
            have hco : cnt (if kd = 11 then po2 else c + 1) ≤ 1 := cnt_le _
            refine ⟨u1, u2, fun e => ?_, fun e => ?_⟩
            · rw [b11 (w + 1) (by have := cnt_1 e; have := cnt_le (if kd = 11 then c + 1 else 0); omega)]; exact u3 e
            · rw [b11 _ (by have := cnt_1 e; omega)]; exact u4 e
          · rw [hW2]; exact hR
      · have h38 : ¬ ch bytes E j' = 38 := fun z => hjmp (Or.inl z)
        have h124 : ¬ ch bytes E j' = 124 := fun z => hjmp (Or.inr z)
        exact Or.inr ⟨_, lp_inr (l12_end hT (by omega) hk h38 h124 (fun e => (hPlt pa k14 e).2) (fun e => (hPlt po k15 e).2) (nI (a + 1)) code), Or.inr ⟨j', c, s, pa, po, P, code, said, waitsAt, num, rfl, by omega, k2, h38, h124, k5, k6, k7, k8, k9, k10, k11, k12, k13, k13d, k14, k15, k16, k17, k18⟩⟩
    · rintro st ⟨j', c, s, pa, po, P, code, said, waitsAt, num, -, h1, h2, -⟩
      omega
end CH
