/-! THE NUMBER OF A WELL: both tell the same -/
theorem nodup_sub : ∀ {l l' : List Nat}, l.Nodup → (∀ x ∈ l, x ∈ l') → l.length ≤ l'.length := by
  intro l
  induction l with
  | nil => intro _ _ _; exact Nat.zero_le _
  | cons a l ih =>
    intro l' h hs
    rw [List.nodup_cons] at h
    have ha := hs a (List.mem_cons_self)
    have h1 := ih (l' := l'.erase a) h.2 (fun x hx => (List.mem_erase_of_ne (fun e => h.1 (by rw [← e]; exact hx))).mpr (hs x (List.mem_cons_of_mem _ hx)))
    rw [List.length_erase_of_mem ha] at h1
    have := List.length_pos_of_mem ha
    show l.length + 1 ≤ _
    omega
theorem nodup_same {l l' : List Nat} (h : l.Nodup) (h' : l'.Nodup) (e : ∀ x, x ∈ l ↔ x ∈ l') : l.length = l'.length :=
  Nat.le_antisymm (nodup_sub h (fun x hx => (e x).mp hx)) (nodup_sub h' (fun x hx => (e x).mpr hx))
section SAM
variable {n : Nat} {nx d : Nat → Nat} {w : Nat}
theorem VRa.uniq {T T' G G' : Nat} {LV LV' : List Nat} (h : VRa n nx d w T LV G) (h' : VRa n nx d w T' LV' G') : T = T' ∧ LV.length = LV'.length ∧ G = G' := by
  obtain ⟨a1, a2, a3, a4, a5⟩ := h
  obtain ⟨b1, b2, b3, b4, b5⟩ := h'
  have g1 := (a2 G).mp a4
  have g2 := (b2 G').mp b4
  have e1 := a3 G' g2.1 g2.2.1
  have e2 := b3 G g1.1 g1.2.1
  have eT : T = T' := by omega
  subst eT
  have hm : ∀ x, x ∈ LV ↔ x ∈ LV' := fun x => by rw [a2 x, b2 x]
  refine ⟨rfl, nodup_same a1 b1 hm, ?_⟩
  have c1 := a5 G' ((hm G').mpr b4)
  have c2 := b5 G ((hm G).mp a4)
  have := cC_inj (deR_box (n := n) (d := d) G) (deR_box (n := n) (d := d) G') (by omega)
  rw [← cR_de (n := n) (d := d) g1.1, ← cR_de (n := n) (d := d) g2.1, this]
/-- with fewer jars too -/
theorem va_down : ∀ (k : Nat) {g : Nat → Nat}, BxS n d g → vaS n nx d w g → ∀ m, totS g n = m + k → ∃ h, BxS n d h ∧ vaS n nx d w h ∧ totS h n = m := by
  intro k
  induction k with
  | zero => intro g hb hv m e; exact ⟨g, hb, hv, by omega⟩
  | succ k ih =>
    intro g hb hv m e
    obtain ⟨v, b1, b2, b3⟩ := last_ex hb.2 (by omega)
    have hval := lv_val b2
    have hadd : g = adS (lvS g v) v := by
      funext u
      rw [ad_val]
      have := hval u
      omega
    refine ih (g := lvS g v) ⟨fun u hu => by have := hval u; have := hb.1 u hu; omega, fun u hu => by have := hval u; have := hb.2 u hu; omega⟩ (va_mono (totS g n) (Nat.le_refl _) (fun u => by have := hval u; omega) hv) m ?_
    have := tot_ad (n := n) (g := lvS g v) b1
    rw [← hadd] at this
    omega
/-- what the class found is what the reference tells -/
theorem VRa.same {T G : Nat} {LV : List Nat} (h : VRa n nx d w T LV G) {L : List (Nat → Nat)} {a T' : Nat} (hb : ∀ g ∈ L, BxS n d g ∧ vaS n nx d w g) (hn : L.Nodup) (hL : LVs n nx d w L a T') (hno : ∀ g, BxS n d g → vaS n nx d w g → ¬ totS g n = T' + 1) :
    T = T' ∧ LV.length = L.length - a ∧ (∀ j, a ≤ j → j < L.length → cCS n d (L.getD j z0S) ≤ cCS n d (deR n d G)) ∧ ∃ j, a ≤ j ∧ j < L.length ∧ L.getD j z0S = deR n d G := by
  obtain ⟨a1, a2, a3, a4, a5⟩ := h
  obtain ⟨v1, v2, v3, v4⟩ := hL
  have g1 := (a2 G).mp a4
  have hLa := gF_mem v1
  have hT1 : T' ≤ T := by
    have h1 := a3 (cRS n d (L.getD a z0S)) (cR_lt (hb _ hLa).1) (by rw [de_cR (hb _ hLa).1]; exact (hb _ hLa).2)
    rw [de_cR (hb _ hLa).1, v3 a (Nat.le_refl _) v1] at h1
    exact h1
  have hT2 : T = T' := by
    by_cases z : T = T'
    · exact z
    · exfalso
      obtain ⟨g, b1, b2, b3⟩ := va_down (T - (T' + 1)) (deR_box (n := n) (d := d) G) g1.2.1 (T' + 1) (by rw [g1.2.2]; omega)
      exact hno g b1 b2 b3
  subst hT2
  have hmem : ∀ g, BxS n d g → vaS n nx d w g → totS g n = T → ∃ j, a ≤ j ∧ j < L.length ∧ L.getD j z0S = g := fun g b1 b2 b3 => by
    obtain ⟨j, j1, j2⟩ := mem_gF (v4 g b1 b2 (by omega))
    refine ⟨j, ?_, j1, j2⟩
    by_cases y : a ≤ j
    · exact y
    · have := v2 j (by omega)
      rw [j2] at this
      omega
  refine ⟨rfl, ?_, fun j j1 j2 => ?_, hmem _ (deR_box G) g1.2.1 g1.2.2⟩
  · have hnd : ((List.range (L.length - a)).map (fun i => cRS n d (L.getD (a + i) z0S))).Nodup := nodup_map_inj (fun i j hij hj e => by
      have h1 := cR_inj (hb _ (gF_mem (show a + i < L.length by omega))).1 (hb _ (gF_mem (show a + j < L.length by omega))).1 e
      have := nodup_at hn (show a + i < L.length by omega) (show a + j < L.length by omega) h1
      omega)
    have := nodup_same a1 hnd (fun x => by
      rw [a2 x, List.mem_map]
      constructor
      · rintro ⟨b1, b2, b3⟩
        obtain ⟨j, j1, j2, j3⟩ := hmem _ (deR_box x) b2 b3
        exact ⟨j - a, List.mem_range.mpr (by omega), by rw [show a + (j - a) = j by omega, j3, cR_de b1]⟩
      · rintro ⟨i, i1, i2⟩
        have i1 := List.mem_range.mp i1
        have hm := hb _ (gF_mem (show a + i < L.length by omega))
        rw [← i2]
        exact ⟨cR_lt hm.1, by rw [de_cR hm.1]; exact hm.2, by rw [de_cR hm.1]; exact v3 _ (by omega) (by omega)⟩)
    rw [this, List.length_map, List.length_range]
  · have hm := hb _ (gF_mem j2)
    have := a5 (cRS n d (L.getD j z0S)) ((a2 _).mpr ⟨cR_lt hm.1, by rw [de_cR hm.1]; exact hm.2, by rw [de_cR hm.1]; exact v3 j j1 j2⟩)
    rw [de_cR hm.1] at this
    exact this
end SAM
/-- what is kept of a well's number is right -/
def MWs (n : Nat) (nx : Nat → Nat) (w : Nat) (told lay rows : Nat → Int32) : Prop :=
  ∃ T LV G, AllD n nx w ∧ totS (dnS n nx w) n ≤ 16 ∧ VRa n nx (dnS n nx w) w T LV G ∧ T < 64 ∧ told w = nI (T + 1) ∧ lay w = nI LV.length ∧ ∀ v, v < n → rows (12 * w + v) = nI (deR n (dnS n nx w) G v)
def MNs (n : Nat) (nx : Nat → Nat) (told lay rows : Nat → Int32) : Prop := ∀ w, w < n → told w = 0 ∨ MWs n nx w told lay rows
def SZ2 (nf nm : Nat) : Prop := SZn nf nm ∧ (nf = 0 ∨ ∃ e, nf = 2 ^ e)
theorem SZ2.grow {nf nm S : Nat} (h : SZ2 nf nm) (hlt : nf < 2 ^ S) : 2 ^ S + (2 ^ S / 32 + 1) + 3 * nf ≤ 3 * 2 ^ S := by
  have h0 : 0 < 2 ^ S := Nat.pow_pos (by omega)
  rcases h.2 with z | ⟨e, z⟩
  · omega
  · subst z
    have hes : e < S := (Nat.pow_lt_pow_iff_right (by omega)).mp hlt
    have h1 : 2 ^ (e + 1) ≤ 2 ^ S := Nat.pow_le_pow_right (by omega) hes
    rw [Nat.pow_succ] at h1
    have h2 : 0 < 2 ^ e := Nat.pow_pos (by omega)
    omega
abbrev T18 := (Nat → Int32) × (Nat → Int32) × (Nat → Int32) × (Nat → Int32) × Nat × (Nat → Int32) × Nat × (Nat → Int32) × (Nat → Int32) × (Nat → Int32) × (Nat → Int32) × (Nat → Int32) × Int32 × Int32 × Int32 × Int32 × Nat × Nat
/-- sizes and what was made, from nf on -/
def SZw (n : Nat) (nx : Nat → Nat) (nf : Nat) (y : T18) : Prop :=
  MNs n nx y.1 y.2.1 y.2.2.1 ∧ SZ2 y.2.2.2.2.1 y.2.2.2.2.2.2.1 ∧ nf ≤ y.2.2.2.2.1 ∧ y.2.2.2.2.2.2.2.2.2.2.2.2.2.2.2.2.1 ≤ 2 ∧ y.2.2.2.2.2.2.2.2.2.2.2.2.2.2.2.2.2 + 3 * nf ≤ 3 * y.2.2.2.2.1
theorem ofWell_ok {n : Nat} {nx : Nat → Nat} {w : Nat} (hG : GoodG n nx) {next nextTo ways far : Nat → Int32} (hx : ∀ w, w < 12 → next w = nI (nx w)) (hx2 : ∀ w, w < 12 → nextTo w = nI (nx w)) (hr : RW n nx ways) (hf : RW n nx far) (hw : w < n) {bc bs : Nat} (hbc : 2 ≤ bc) {nf nm : Nat} (hbs : 196608 ≤ bs + 3 * nf) (hz : SZ2 nf nm) {told lay rows : Nat → Int32} (hMN : MNs n nx told lay rows)
    (fo ma sh0 fi0 two full change : Nat → Int32) (mv wn sz ls : Int32) (shm wim nim hem ivm : Nat → Int32) (bim vm vy vg : Int32) :
    ∃ why y x2, Mo_laysVain nextTo (nI n) far shm wim nim hem ivm bim vm vy vg (nI w) = some (why, x2) ∧ Numbers_refusalAt (nI n) ways (nI w) = some why ∧
      ((¬ why = 0 ∧ why < 0 ∧ Numbers_ofWell bc bs told lay rows fo nf ma nm sh0 fi0 two full change mv wn sz ls (nI n) next ways (nI w) = some (why, y) ∧ SZw n nx nf y) ∨
       (why = 0 ∧ ∃ (T : Nat) (LV : List Nat) (G : Nat), T < 64 ∧ Numbers_ofWell bc bs told lay rows fo nf ma nm sh0 fi0 two full change mv wn sz ls (nI n) next ways (nI w) = some (nI (T + 1), y) ∧ SZw n nx nf y ∧ y.1 w = nI (T + 1) ∧ y.2.1 w = nI LV.length ∧ (∀ v, v < n → y.2.2.1 (12 * w + v) = nI (deR n (dnS n nx w) G v)) ∧ totS (dnS n nx w) n ≤ 16 ∧ G < 2 ^ 16 ∧ BTs n (dnS n nx w) x2.1 x2.2.1 ∧ x2.2.2.2.2.2.2.1 = nI T ∧ x2.2.2.2.2.2.2.2 = (nI LV.length, nI G))) := by
  have n12 := hG.1
  obtain ⟨why, sh, ni, he, iv, wi, bi, vm', vy', vg', q1, q2, q3⟩ := laysVain_ok hG hx2 hw hr hf shm wim nim hem ivm bim vm vy vg
  have hsame : SZw n nx nf (told, lay, rows, fo, nf, ma, nm, sh0, fi0, two, full, change, mv, wn, sz, ls, 0, 0) := ⟨hMN, hz, Nat.le_refl _, Nat.zero_le _, by show 0 + 3 * nf ≤ 3 * nf; omega⟩
  have hwx : ix (nI w) 12 = true := ixN (by omega) (by omega)
  have hneg : ∀ y : Int32, why = y → ¬ y = 0 → y < 0 → ∃ why y x2, Mo_laysVain nextTo (nI n) far shm wim nim hem ivm bim vm vy vg (nI w) = some (why, x2) ∧ Numbers_refusalAt (nI n) ways (nI w) = some why ∧
      ((¬ why = 0 ∧ why < 0 ∧ Numbers_ofWell bc bs told lay rows fo nf ma nm sh0 fi0 two full change mv wn sz ls (nI n) next ways (nI w) = some (why, y) ∧ SZw n nx nf y) ∨
       (why = 0 ∧ ∃ (T : Nat) (LV : List Nat) (G : Nat), T < 64 ∧ Numbers_ofWell bc bs told lay rows fo nf ma nm sh0 fi0 two full change mv wn sz ls (nI n) next ways (nI w) = some (nI (T + 1), y) ∧ SZw n nx nf y ∧ y.1 w = nI (T + 1) ∧ y.2.1 w = nI LV.length ∧ (∀ v, v < n → y.2.2.1 (12 * w + v) = nI (deR n (dnS n nx w) G v)) ∧ totS (dnS n nx w) n ≤ 16 ∧ G < 2 ^ 16 ∧ BTs n (dnS n nx w) x2.1 x2.2.1 ∧ x2.2.2.2.2.2.2.1 = nI T ∧ x2.2.2.2.2.2.2.2 = (nI LV.length, nI G))) := fun y0 e h1 h2 => by
    subst e
    refine ⟨why, _, _, q2, q1, Or.inl ⟨h1, h2, ?_, hsame⟩⟩
    unfold Numbers_ofWell Numbers_ofWell_J19
    rw [ob_eq q1, if_neg h1, if_neg h1]
  rcases q3 with e | e | ⟨rfl, hall, hs, hbt, T, LV, G, hVR, hT, e1, e2, e3⟩
  · exact hneg _ e (by decide) (by decide)
  · exact hneg _ e (by decide) (by decide)
  · have h16 : 2 ^ totS (dnS n nx w) n ≤ 2 ^ 16 := Nat.pow_le_pow_right (by omega) hs
    have hG16 : G < 2 ^ 16 := by have := ((hVR.2.1 G).mp hVR.2.2.2.1).1; omega
    rcases hMN w hw with ht | ⟨T', LV', G', -, -, h3, h4, h5, h6, h7⟩
    · obtain ⟨L, a, T', fo', nf', ma', nm', sh', fi', two', full', change', mv', kc, ks, a1, a2, a3, a4, a5, a6, a7, a8, a9, a10, a11⟩ := mostInVain_ok hG hx hr hw hall hs (bc := bc) (bs := bs) hbc (nf := nf) (nm := nm) (fun hlt => by have := hz.grow hlt; omega) hz.1 fo ma sh0 fi0 two full change mv wn sz ls
      obtain ⟨b1, b2, b3, j0, b4, b5, b6⟩ := hVR.same a4.2.2.2.1 a4.2.2.2.2 a5 a6
      subst b1
      generalize hd : dnS n nx w = d at *
      have hnf2 : nf' ≤ 65536 := by rcases a2 with z | z <;> omega
      have hcG := cC_lt (deR_box (n := n) (d := d) G)
      -- the greatest
      have hbest : lp (Numbers_ofWell_L72 (nI w) fo' nf' (nI L.length)) (0, nI a) = some (nI (cCS n d (deR n d G))) := by
        obtain ⟨r, r1, r2⟩ := lp_inv (f := Numbers_ofWell_L72 (nI w) fo' nf' (nI L.length)) (fun x s => s.2 = nI (a + x) ∧ ∃ B, s.1 = nI B ∧ B ≤ cCS n d (deR n d G) ∧ ∀ j, a ≤ j → j < a + x → cCS n d (L.getD j z0S) ≤ B) (L.length - a) (fun r => r = nI (cCS n d (deR n d G)))
          (by
            rintro x ⟨s1, s2⟩ hx1 ⟨f1, B, f2, f3, f4⟩
            have f1 : s2 = nI (a + x) := f1
            have f2 : s1 = nI B := f2
            subst f1; subst f2
            left
            have hj : a + x < L.length := by omega
            have hle := b3 (a + x) (by omega) hj
            have hmx : jmax (nI B) (nI (cCS n d (L.getD (a + x) z0S))) = nI (max B (cCS n d (L.getD (a + x) z0S))) := by
              unfold jmax
              by_cases z : B < cCS n d (L.getD (a + x) z0S)
              · rw [if_pos ((nI_ltN (by omega) (by omega)).mpr z), Nat.max_eq_right (by omega)]
              · rw [if_neg (fun y => z ((nI_ltN (by omega) (by omega)).mp y)), Nat.max_eq_left (by omega)]
            refine ⟨(nI (max B (cCS n d (L.getD (a + x) z0S))), nI (a + x) + 1), ?_, nI_ad (a + x) 1, _, rfl, Nat.max_le.mpr ⟨f3, hle⟩, fun j j1 j2 => ?_⟩
            · unfold Numbers_ofWell_L72
              show (if nI (a + x) < nI L.length then _ else _) = _
              rw [if_pos ((nI_ltN (by omega) (by omega)).mpr hj)]
              dsimp only
              rw [gd_eq (ixN (by omega) (by omega)), nI_clamp (show a + x < 2 ^ 31 by omega), a4.2.1 (a + x) hj, hmx]
            · by_cases e : j = a + x
              · subst e; exact Nat.le_max_right _ _
              · exact Nat.le_trans (f4 j j1 (by omega)) (Nat.le_max_left _ _))
          (by
            rintro ⟨s1, s2⟩ ⟨f1, B, f2, f3, f4⟩
            have f1 : s2 = nI (a + (L.length - a)) := f1
            have f2 : s1 = nI B := f2
            subst f1; subst f2
            have := a5.1
            have h1 := f4 j0 b4 (by omega)
            rw [b6] at h1
            refine ⟨nI B, ?_, by rw [show B = cCS n d (deR n d G) by omega]⟩
            unfold Numbers_ofWell_L72
            exact if_neg (fun z => by have := (nI_ltN (by omega) (by omega)).mp z; omega))
          0 (0, nI a) (Nat.zero_le _) ⟨rfl, 0, rfl, Nat.zero_le _, fun j j1 j2 => by omega⟩
        rw [r1, r2]
      -- its row
      obtain ⟨rows', p1, p2, p3⟩ := lp_inv (f := Numbers_ofWell_L104 (nI w) (nI (cCS n d (deR n d G))) sh' fi' (nI n)) (fun k s => s.1 = nI k ∧ (∀ v, v < k → s.2 (12 * w + v) = nI (deR n d G v)) ∧ ∀ i, (i < 12 * w ∨ 12 * w + 12 ≤ i) → s.2 i = rows i) n (fun r => (∀ v, v < n → r (12 * w + v) = nI (deR n d G v)) ∧ ∀ i, (i < 12 * w ∨ 12 * w + 12 ≤ i) → r i = rows i)
        (by
          rintro k ⟨s1, ro⟩ hk ⟨f1, f2, f3⟩
          have f1 : s1 = nI k := f1
          subst f1
          left
          have hfk := fd_lt17 hs hk
          have hsk := shC_le (d := d) hk
          have dk := cC_dig (deR_box (n := n) (d := d) G) hk
          have hp20 : 0 < 2 ^ shC n d k := Nat.pow_pos (by omega)
          have hval : (nI (cCS n d (deR n d G)) &&& fi' k) >>> (sh' k &&& 31) = nI (deR n d G k) := by
            have hle : deR n d G k * 2 ^ shC n d k ≤ cCS n d (deR n d G) := by
              have h1 := and_field (cCS n d (deR n d G)) (d k) (shC n d k)
              rw [dk] at h1
              rw [← h1]; exact Nat.and_le_left
            rw [(a3 k hk).1, (a3 k hk).2, and_nI (by omega) (by omega), and_field, dk, pk_shrN (by omega) _ _ (sm32 _ (by omega)), Nat.mul_div_cancel _ hp20]
          refine ⟨(nI k + 1, upd ro (12 * w + k) (nI (deR n d G k))), ?_, nI_ad k 1, fun v hv => ?_, fun i hi => ?_⟩
          · unfold Numbers_ofWell_L104
            show (if nI k < nI n then _ else _) = _
            rw [if_pos ((nI_ltN (by omega) (by omega)).mpr hk)]
            dsimp only
            have hix : ix (nI k) 12 = true := ixN (by omega) (by omega)
            rw [gd_eq hix, gd_eq hix, row12 (by omega) (by omega), gd_eq (ixN (by omega) (by omega)), nI_clamp (show k < 2 ^ 31 by omega), nI_clamp (show 12 * w + k < 2 ^ 31 by omega), hval]
          · show upd ro (12 * w + k) _ (12 * w + v) = _
            by_cases e : v = k
            · subst e; rw [upd_at]
            · rw [upd_ne (by omega)]; exact f2 v (by omega)
          · show upd ro (12 * w + k) _ i = _
            rw [upd_ne (by omega)]; exact f3 i hi)
        (by
          rintro ⟨s1, ro⟩ ⟨f1, f2, f3⟩
          have f1 : s1 = nI n := f1
          subst f1
          refine ⟨ro, ?_, f2, f3⟩
          unfold Numbers_ofWell_L104
          exact if_neg (fun z => by have := (nI_ltN (by omega) (by omega)).mp z; omega))
        0 (0, rows) (Nat.zero_le _) ⟨rfl, fun v hv => by omega, fun i _ => rfl⟩
      have hsub : nI L.length - nI a = nI LV.length := by rw [nI_subN (by have := a5.1; omega), b2]
      have hks : ks + 3 * nf ≤ 3 * nf' := by
        rcases a11 with z | z
        · omega
        · have := hz.grow (S := totS d n) (by omega)
          rcases a2 with y | y
          · omega
          · rw [← z.2] at this; omega
      have hnf3 : 3 * nf' ≤ 196608 := by omega
      refine ⟨0, (upd told w (nI (T + 1)), upd lay w (nI LV.length), rows', fo', nf', ma', nm', sh', fi', two', full', change', mv', nI n, nI L.length, nI a, kc, ks), _, q2, q1, Or.inr ⟨rfl, T, LV, G, hT, ?_, ⟨?_, ⟨a2, ?_⟩, a8, a9, hks⟩, upd_at _ _ _, upd_at _ _ _, p2, hs, hG16, hbt, e1, by rw [e2, e3]⟩⟩
      · unfold Numbers_ofWell
        rw [ob_eq q1, if_pos rfl, gd_eq hwx, nI_clamp (show w < 2 ^ 31 by omega), ht, if_pos (by decide), Nat.sub_zero, Nat.sub_zero, ob_eq a1]
        dsimp only
        rw [gd_eq (cuOk_yes (by omega) (by omega)), gd_eq hwx, gd_eq hwx, ob_eq hbest]
        rw [ob_eq p1, gd_eq hwx, upd_at, hsub, Nat.zero_add, Nat.zero_add, show nI T + 1 = nI (T + 1) from nI_ad T 1]
      · intro u hu
        by_cases e : u = w
        · subst e
          right
          rw [← hd] at hVR p2
          refine ⟨T, LV, G, hall, by rw [hd]; exact hs, hVR, hT, upd_at _ _ _, upd_at _ _ _, p2⟩
        · rcases hMN u hu with z | ⟨T2, LV2, G2, z1, z2, z3, z4, z5, z6, z7⟩
          · left
            show upd told w _ u = 0
            rw [upd_ne e]; exact z
          · right
            refine ⟨T2, LV2, G2, z1, z2, z3, z4, ?_, ?_, fun v hv => ?_⟩
            · show upd told w _ u = _
              rw [upd_ne e]; exact z5
            · show upd lay w _ u = _
              rw [upd_ne e]; exact z6
            · show rows' (12 * u + v) = _
              rw [p3 _ (by omega)]; exact z7 v hv
      · rcases a11 with z | z
        · rw [z.1]; exact hz.2
        · exact Or.inr ⟨_, z.2⟩
    · obtain ⟨u1, u2, u3⟩ := h3.uniq hVR
      subst u1; subst u3
      refine ⟨0, _, _, q2, q1, Or.inr ⟨rfl, T', LV, G', hT, ?_, hsame, h5, by rw [← u2]; exact h6, h7, hs, hG16, hbt, e1, by rw [e2, e3]⟩⟩
      unfold Numbers_ofWell Numbers_ofWell_J19
      rw [ob_eq q1, if_pos rfl, gd_eq hwx, nI_clamp (show w < 2 ^ 31 by omega), h5, if_neg (fun z => by have := (nI_leN (b := 0) (by omega) (by omega)).mp z; omega), if_pos rfl, gd_eq hwx]
