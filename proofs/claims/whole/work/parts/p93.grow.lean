/-! THE CLASS'S NUMBERS: in vain or not, growing by one jar -/
section GRW
variable {n : Nat} {nx d : Nat → Nat} {w : Nat}
theorem cC_go {g : Nat → Nat} {a b : Nat} (ha : a < n) (hb : b < n) (h2 : 2 ≤ g a) : cCS n d (goS g (a, a, b)) + 2 * 2 ^ shC n d a = cCS n d g + 2 ^ shC n d b := by
  rw [go_mv]
  unfold mvS
  have e1 := cC_at (n := n) (d := d) (g := g) (v := a) (x := g a - 2) ha
  have e2 := cC_at (n := n) (d := d) (g := atS g a (g a - 2)) (v := b) (x := atS g a (g a - 2) b + 1) hb
  rw [Nat.add_mul, Nat.one_mul] at e2
  have e3 : g a * 2 ^ shC n d a = (g a - 2) * 2 ^ shC n d a + 2 * 2 ^ shC n d a := by rw [← Nat.add_mul, show g a - 2 + 2 = g a by omega]
  omega
theorem cC_ad {g : Nat → Nat} {v : Nat} (hv : v < n) : cCS n d (adS g v) = cCS n d g + 2 ^ shC n d v := by
  have := cC_at (n := n) (d := d) (g := g) (v := v) (x := g v + 1) hv
  rw [Nat.add_mul, Nat.one_mul] at this
  unfold adS
  omega
theorem tot_ad {g : Nat → Nat} {v : Nat} (hv : v < n) : totS (adS g v) n = totS g n + 1 := by
  have := (val_at (g := g) (w := v) (x := g v + 1) (k := n) hv).2
  unfold adS
  omega
theorem box_len (L : List (Nat → Nat)) (h1 : L.Nodup) (h2 : ∀ g ∈ L, BxS n d g) : L.length ≤ 2 ^ totS d n := by
  have h3 := nodup_map_on (φ := cCS n d) h1 (fun x hx y hy e => cC_inj (h2 x hx) (h2 y hy) e)
  have h4 := nodup_len (n := 2 ^ totS d n) h3 (fun q hq => by
    obtain ⟨p, p1, p2⟩ := List.mem_map.mp hq
    rw [← p2]; exact cC_lt (h2 p p1))
  rw [List.length_map] at h4
  exact h4
theorem isInVainC_ok (hG : GoodG n nx) (hw : w < n) (hlev : ∀ v, v < n → lev n nx w (d v) v = true) (hs : totS d n ≤ 16) {VL : List (Nat × Nat)} (hVL : ∀ p, p ∈ VL ↔ lgS n nx d p) (hlen : VL.length ≤ 132) {two full change : Nat → Int32} {mv : Int32} (hM : MVr n d VL two full change mv) {marks : Nat → Int32} {nm : Nat} (hnm : 2 ^ totS d n ≤ 32 * nm) (hnm2 : nm < 2 ^ 26) {g : Nat → Nat} (hb : BxS n d g)
    (hmk : ∀ a b, lgS n nx d (a, b) → 2 ≤ g a → g b + 1 < 2 ^ d b → (bitS marks (cCS n d (goS g (a, a, b))) = true ↔ vaS n nx d w (goS g (a, a, b)))) :
    (Numbers_isInVain marks nm two full change mv (nI (cCS n d g)) = some 1 ∧ vaS n nx d w g) ∨ (Numbers_isInVain marks nm two full change mv (nI (cCS n d g)) = some 0 ∧ ¬ vaS n nx d w g) := by
  have n12 := hG.1
  have hc := cC_lt hb
  have h16 : 2 ^ totS d n ≤ 2 ^ 16 := Nat.pow_le_pow_right (by omega) hs
  obtain ⟨r, r1, r2⟩ := lp_inv (f := Numbers_isInVain_L2 (nI (cCS n d g)) marks nm two full change mv) (fun k s => s = nI k ∧ ∀ i, i < k → 2 ≤ g (VL.getD i (0, 0)).1 → g (VL.getD i (0, 0)).2 + 1 < 2 ^ d (VL.getD i (0, 0)).2 ∧ vaS n nx d w (goS g ((VL.getD i (0, 0)).1, (VL.getD i (0, 0)).1, (VL.getD i (0, 0)).2))) VL.length
    (fun r => (r = Sum.inr () ∧ ∀ i, i < VL.length → 2 ≤ g (VL.getD i (0, 0)).1 → g (VL.getD i (0, 0)).2 + 1 < 2 ^ d (VL.getD i (0, 0)).2 ∧ vaS n nx d w (goS g ((VL.getD i (0, 0)).1, (VL.getD i (0, 0)).1, (VL.getD i (0, 0)).2))) ∨ (r = Sum.inl () ∧ ¬ vaS n nx d w g))
    (by
      rintro k s hk ⟨rfl, e2⟩
      obtain ⟨m1, m2, m3⟩ := hM.2 k hk
      have hmem : VL.getD k (0, 0) ∈ VL := by rw [List.getD_eq_getElem?_getD, List.getElem?_eq_getElem hk]; exact List.getElem_mem hk
      have hlg := (hVL _).mp hmem
      generalize hp : VL.getD k (0, 0) = p at *
      obtain ⟨a, b⟩ := p
      obtain ⟨ha, hbn, hab, hda⟩ := hlg
      have ha : a < n := ha
      have hbn : b < n := hbn
      have hab : (nx a).testBit b = true := hab
      have hda : 2 ≤ d a := hda
      dsimp only at m1 m2 m3
      have hfa := fd_lt17 hs ha
      have hfb := fd_lt17 hs hbn
      have hga := hb.1 a ha
      have hgb := hb.1 b hbn
      have da := cC_dig hb ha
      have db := cC_dig hb hbn
      have hsa := shC_le (d := d) ha
      have hsb := shC_le (d := d) hbn
      have hpa : 2 ^ shC n d a ≤ 2 ^ 16 := Nat.pow_le_pow_right (by omega) (by omega)
      have hpb : 2 ^ shC n d b ≤ 2 ^ 16 := Nat.pow_le_pow_right (by omega) (by omega)
      have hpa0 : 0 < 2 ^ shC n d a := Nat.pow_pos (by omega)
      have hpb0 : 0 < 2 ^ shC n d b := Nat.pow_pos (by omega)
      have hless : less (fdS (d a) (shC n d a)) (2 ^ shC n d a) < 2 ^ 16 := less_lt hfa
      have htwo : (nI (cCS n d g) &&& two k) = nI ((g a / 2 * 2) * 2 ^ shC n d a) := by
        rw [m1, and_nI (by omega) (by omega), and_two, da]
      have hfull : (nI (cCS n d g) &&& full k) = nI (g b * 2 ^ shC n d b) := by
        rw [m2, and_nI (by omega) (by omega), and_field, db]
      have hix : ix (nI k) 132 = true := ixN (by omega) (by omega)
      have hlt : nI k < mv := by rw [hM.1]; exact (nI_ltN (by omega) (by omega)).mpr hk
      have hand : (g a / 2 * 2) * 2 ^ shC n d a ≤ cCS n d g := by rw [← da, ← and_two]; exact Nat.and_le_left
      have hhead : Numbers_isInVain_L2 (nI (cCS n d g)) marks nm two full change mv (nI k) = if nI ((g a / 2 * 2) * 2 ^ shC n d a) = 0 then some (.inl (nI k + 1)) else if nI (g b * 2 ^ shC n d b) = nI (fdS (d b) (shC n d b)) then some (.inr (.inl ())) else ob (Numbers_isMarked marks nm (nI (cCS n d g) + (nI (2 ^ shC n d b) - nI (2 * 2 ^ shC n d a)))) fun x5 => if x5 = 0 then some (.inr (.inl ())) else some (.inl (nI k + 1)) := by
        unfold Numbers_isInVain_L2
        rw [if_pos hlt, gd_eq hix, gd_eq hix, gd_eq hix, gd_eq hix, nI_clamp (show k < 2 ^ 31 by omega), htwo, hfull, m2, m3]
        rfl
      rw [hhead]
      have hext : ∀ {P : (Nat × Nat) → Prop}, (∀ i, i < k → P (VL.getD i (0, 0))) → P (a, b) → ∀ i, i < k + 1 → P (VL.getD i (0, 0)) := fun h1 h2 i hi => by
        by_cases e : i = k
        · rw [e, hp]; exact h2
        · exact h1 i (by omega)
      by_cases hg2 : 2 ≤ g a
      · have hne : ¬ nI ((g a / 2 * 2) * 2 ^ shC n d a) = 0 := fun z => by
          have h1 := (nI_inj (b := 0) (by omega) (by omega)).mp z
          have h2 : 0 < g a / 2 * 2 := by omega
          have := Nat.mul_pos h2 hpa0
          omega
        rw [if_neg hne]
        have hfle : g b * 2 ^ shC n d b ≤ cCS n d g := by rw [← db, ← and_field]; exact Nat.and_le_left
        by_cases hfl : g b + 1 < 2 ^ d b
        · have hnf : ¬ nI (g b * 2 ^ shC n d b) = nI (fdS (d b) (shC n d b)) := fun z => by
            have h1 := (nI_inj (by omega) (by omega)).mp z
            unfold fdS at h1
            have := Nat.eq_of_mul_eq_mul_right hpb0 h1
            omega
          have hcg := cC_go (n := n) (d := d) (b := b) ha hbn hg2
          have hbx := box_go hG hb ha hbn hab hg2 hfl
          have hcl := cC_lt hbx
          have hidx : nI (cCS n d g) + (nI (2 ^ shC n d b) - nI (2 * 2 ^ shC n d a)) = nI (cCS n d (goS g (a, a, b))) := by
            rw [Int32.sub_eq_add_neg, ← Int32.add_assoc, ← Int32.sub_eq_add_neg, nI_ad, nI_subN (by omega)]
            congr 1
            omega
          rw [if_neg hnf, hidx, ob_eq (isMarked_ok (by omega) hnm2)]
          have hm := hmk a b ⟨ha, hbn, hab, hda⟩ hg2 hfl
          cases hbit : bitS marks (cCS n d (goS g (a, a, b))) with
          | true =>
            left
            refine ⟨_, if_neg (by decide), nI_ad k 1, hext (P := fun p => 2 ≤ g p.1 → g p.2 + 1 < 2 ^ d p.2 ∧ vaS n nx d w (goS g (p.1, p.1, p.2))) e2 (fun _ => ⟨hfl, hm.mp hbit⟩)⟩
          | false =>
            right
            refine ⟨_, if_pos rfl, Or.inr ⟨rfl, fun hv => ?_⟩⟩
            have := hm.mpr (va_iff.mp hv a ha b hbn hab hg2).2.2
            rw [hbit] at this; cases this
        · right
          have he : g b = 2 ^ d b - 1 := by omega
          refine ⟨_, if_pos (by rw [he]; rfl), Or.inr ⟨rfl, fun hv => hfl (va_iff.mp hv a ha b hbn hab hg2).2.1⟩⟩
      · left
        have hz0 : g a / 2 * 2 * 2 ^ shC n d a = 0 := by rw [show g a / 2 = 0 by omega]; simp
        refine ⟨_, if_pos (by rw [hz0]; rfl), nI_ad k 1, hext (P := fun p => 2 ≤ g p.1 → g p.2 + 1 < 2 ^ d p.2 ∧ vaS n nx d w (goS g (p.1, p.1, p.2))) e2 (fun z => absurd z hg2)⟩)
    (by
      rintro s ⟨rfl, e2⟩
      refine ⟨_, ?_, Or.inl ⟨rfl, e2⟩⟩
      unfold Numbers_isInVain_L2
      exact if_neg (fun z => by rw [hM.1] at z; have := (nI_ltN (by omega) (by omega)).mp z; omega))
    0 0 (Nat.zero_le _) ⟨rfl, fun i hi => by omega⟩
  unfold Numbers_isInVain
  rw [ob_eq r1]
  rcases r2 with ⟨rfl, h⟩ | ⟨rfl, h⟩
  · left
    refine ⟨rfl, va_iff.mpr (fun a ha b hbn hab h2 => ?_)⟩
    have hga := hb.1 a ha
    have hda : 2 ≤ d a := by
      by_cases z : 2 ≤ d a
      · exact z
      · have : 2 ^ d a ≤ 2 ^ 1 := Nat.pow_le_pow_right (by omega) (by omega)
        omega
    obtain ⟨i, hi, he⟩ := List.getElem_of_mem ((hVL (a, b)).mpr ⟨ha, hbn, hab, hda⟩)
    have hgd : VL.getD i (0, 0) = (a, b) := by rw [List.getD_eq_getElem?_getD, List.getElem?_eq_getElem hi]; exact he
    have := h i hi (by rw [hgd]; exact h2)
    rw [hgd] at this
    refine ⟨fun e => ?_, this.1, this.2⟩
    have hba : ball n nx w 1 a = true := ball_step hw (show ball n nx w 0 w = true from decide_eq_true rfl) (by rw [hG.2.2.2.1, ← e]; exact hab)
    obtain ⟨j, j1, j2⟩ := lev_or 1 hba
    have := lev_uniq (hlev a ha) j2
    omega
  · exact Or.inr ⟨rfl, h⟩
/-- the list of what was found -/
def GLs (n : Nat) (nx d : Nat → Nat) (w : Nat) (L : List (Nat → Nat)) (found marks : Nat → Int32) (size : Int32) : Prop :=
  size = nI L.length ∧ (∀ i, i < L.length → found i = nI (cCS n d (L.getD i z0S))) ∧ (∀ c, c < 2 ^ totS d n → (bitS marks c = true ↔ ∃ g ∈ L, cCS n d g = c)) ∧ (∀ g ∈ L, BxS n d g ∧ vaS n nx d w g) ∧ L.Nodup
/-- one jar more than p, no well behind it -/
def kidS (n : Nat) (nx d : Nat → Nat) (w : Nat) (p : Nat → Nat) (v : Nat) (g : Nat → Nat) : Prop := v < n ∧ g = adS p v ∧ (∀ u, v < u → p u = 0) ∧ BxS n d g ∧ vaS n nx d w g
theorem growFrom_ok (hG : GoodG n nx) (hw : w < n) (hlev : ∀ v, v < n → lev n nx w (d v) v = true) (hs : totS d n ≤ 16) {sh fi : Nat → Int32} (hF : FSs n d sh fi) {VL : List (Nat × Nat)} (hVL : ∀ p, p ∈ VL ↔ lgS n nx d p) (hlen : VL.length ≤ 132) {two full change : Nat → Int32} {mv : Int32} (hM : MVr n d VL two full change mv) {nf nm : Nat} (hnf : 2 ^ totS d n ≤ nf) (hnf2 : nf < 2 ^ 31) (hnm : 2 ^ totS d n ≤ 32 * nm) (hnm2 : nm < 2 ^ 26)
    {L : List (Nat → Nat)} {found marks : Nat → Int32} {size : Int32} (hL : GLs n nx d w L found marks size) {p : Nat → Nat} (hp : p ∈ L) (hcomp : ∀ g, BxS n d g → vaS n nx d w g → totS g n = totS p n → g ∈ L) (hfresh : ∀ v, v < n → (∀ u, v < u → p u = 0) → ¬ adS p v ∈ L) :
    ∃ found' marks' size' H, Numbers_growFrom found nf marks nm sh fi two full change mv (nI n) size (nI (cCS n d p)) = some (found', marks', size') ∧ GLs n nx d w (L ++ H) found' marks' size' ∧ ∀ g, g ∈ H ↔ ∃ v, kidS n nx d w p v g := by
  have n12 := hG.1
  have h16 : 2 ^ totS d n ≤ 2 ^ 16 := Nat.pow_le_pow_right (by omega) hs
  obtain ⟨hpb, hpv⟩ := hL.2.2.2.1 p hp
  have hcp := cC_lt hpb
  obtain ⟨r, r1, r2⟩ := lp_inv (f := Numbers_growFrom_L7 (nI (cCS n d p)) nf nm sh fi two full change mv)
    (fun x s => s.1 = (if x < n then nI (n - 1 - x) else -1) ∧ (∀ u, n - x ≤ u → p u = 0) ∧ ∃ H, GLs n nx d w (L ++ H) s.2.1 s.2.2.1 s.2.2.2 ∧ ∀ g, g ∈ H ↔ ∃ v, n - x ≤ v ∧ kidS n nx d w p v g) n
    (fun r => ∃ σ : (Nat → Int32) × (Nat → Int32) × Int32, (r = Sum.inl σ ∨ r = Sum.inr σ) ∧ ∃ H, GLs n nx d w (L ++ H) σ.1 σ.2.1 σ.2.2 ∧ ∀ g, g ∈ H ↔ ∃ v, kidS n nx d w p v g)
    (by
      rintro x ⟨s1, fo, ma, sz⟩ hx ⟨e1, e2, H, e3, e4⟩
      have e1' : s1 = nI (n - 1 - x) := Eq.trans e1 (if_pos hx)
      clear e1
      subst e1'
      have e3 : GLs n nx d w (L ++ H) fo ma sz := e3
      obtain ⟨g1, g2, g3, g4, g5⟩ := id e3
      generalize hv : n - 1 - x = v at *
      have hvn : v < n := by omega
      have hx1 : n - (x + 1) = v := by omega
      have hnx : n - x = v + 1 := by omega
      rw [hnx] at e2 e4
      have hfv := fd_lt17 hs hvn
      have dv := cC_dig hpb hvn
      have hpv2 := hpb.1 v hvn
      have hsv := shC_le (d := d) hvn
      have hp2 : 2 ^ shC n d v ≤ 2 ^ 16 := Nat.pow_le_pow_right (by omega) (by omega)
      have hp20 : 0 < 2 ^ shC n d v := Nat.pow_pos (by omega)
      have hand : (nI (cCS n d p) &&& fi v) = nI (p v * 2 ^ shC n d v) := by rw [(hF v hvn).2, and_nI (by omega) (by omega), and_field, dv]
      have hfle : p v * 2 ^ shC n d v ≤ cCS n d p := by rw [← dv, ← and_field]; exact Nat.and_le_left
      have hix : ix (nI v) 12 = true := ixN (by omega) (by omega)
      have hszl : (L ++ H).length ≤ 2 ^ totS d n := box_len _ g5 (fun g hg => (g4 g hg).1)
      -- behind the well
      have hJ : ∀ (fo' ma' : Nat → Int32) (sz' : Int32), Numbers_growFrom_L7_J84 (nI (cCS n d p)) (nI v) fo' nf ma' nm sh fi two full change mv sz' = if p v = 0 then some (.inl (nI v + (-1), fo', ma', sz')) else some (.inr (.inl (fo', ma', sz'))) := fun fo' ma' sz' => by
        unfold Numbers_growFrom_L7_J84
        rw [gd_eq hix, nI_clamp (show v < 2 ^ 31 by omega), hand]
        by_cases z : p v = 0
        · rw [if_pos (by rw [z, Nat.zero_mul]; rfl), if_pos z]
        · rw [if_neg (fun y => by
            have := (nI_inj (b := 0) (by omega) (by omega)).mp y
            have := Nat.mul_pos (show 0 < p v by omega) hp20
            omega), if_neg z]
      -- the end of a step
      have fin : ∀ (fo' ma' : Nat → Int32) (sz' : Int32) (H' : List (Nat → Nat)), GLs n nx d w (L ++ H') fo' ma' sz' → (∀ g, g ∈ H' ↔ ∃ u, v ≤ u ∧ kidS n nx d w p u g) → Numbers_growFrom_L7 (nI (cCS n d p)) nf nm sh fi two full change mv (nI v, fo, ma, sz) = (if p v = 0 then some (.inl (nI v + (-1), fo', ma', sz')) else some (.inr (.inl (fo', ma', sz')))) →
          (∃ s', Numbers_growFrom_L7 (nI (cCS n d p)) nf nm sh fi two full change mv (nI v, fo, ma, sz) = some (.inl s') ∧ s'.1 = (if x + 1 < n then nI (n - 1 - (x + 1)) else -1) ∧ (∀ u, n - (x + 1) ≤ u → p u = 0) ∧ ∃ H, GLs n nx d w (L ++ H) s'.2.1 s'.2.2.1 s'.2.2.2 ∧ ∀ g, g ∈ H ↔ ∃ v, n - (x + 1) ≤ v ∧ kidS n nx d w p v g) ∨
          ∃ r, Numbers_growFrom_L7 (nI (cCS n d p)) nf nm sh fi two full change mv (nI v, fo, ma, sz) = some (.inr r) ∧ ∃ σ : (Nat → Int32) × (Nat → Int32) × Int32, (r = Sum.inl σ ∨ r = Sum.inr σ) ∧ ∃ H, GLs n nx d w (L ++ H) σ.1 σ.2.1 σ.2.2 ∧ ∀ g, g ∈ H ↔ ∃ v, kidS n nx d w p v g := by
        intro fo' ma' sz' H' k1 k2 k3
        by_cases z : p v = 0
        · left
          rw [if_pos z] at k3
          refine ⟨_, k3, ?_, fun u hu => ?_, H', k1, by rw [hx1]; exact k2⟩
          · show nI v + (-1) = _
            by_cases e : x + 1 < n
            · rw [if_pos e, show nI v + (-1) = nI v - 1 from (Int32.sub_eq_add_neg _ _).symm, show nI v - 1 = nI (v - 1) from nI_subN (b := 1) (by omega), show v - 1 = n - 1 - (x + 1) by omega]
            · rw [if_neg e, show v = 0 by omega]; decide
          · by_cases e : u = v
            · rw [e]; exact z
            · exact e2 u (by omega)
        · right
          rw [if_neg z] at k3
          refine ⟨_, k3, (fo', ma', sz'), Or.inl rfl, H', k1, fun g => ?_⟩
          rw [k2 g]
          constructor
          · rintro ⟨u, -, hu⟩; exact ⟨u, hu⟩
          · rintro ⟨u, hu⟩
            refine ⟨u, ?_, hu⟩
            by_cases y : v ≤ u
            · exact y
            · exact absurd (hu.2.2.1 v (by omega)) z
      -- nothing is added
      have same : ¬ (BxS n d (adS p v) ∧ vaS n nx d w (adS p v)) → ∀ g, g ∈ H ↔ ∃ u, v ≤ u ∧ kidS n nx d w p u g := fun hno g => by
        rw [e4 g]
        constructor
        · rintro ⟨u, u1, u2⟩; exact ⟨u, by omega, u2⟩
        · rintro ⟨u, u1, u2⟩
          refine ⟨u, ?_, u2⟩
          by_cases y : u = v
          · exfalso
            subst y
            obtain ⟨-, k1, -, k2, k3⟩ := u2
            subst k1
            exact hno ⟨k2, k3⟩
          · omega
      have hhead : Numbers_growFrom_L7 (nI (cCS n d p)) nf nm sh fi two full change mv (nI v, fo, ma, sz) = if nI (p v * 2 ^ shC n d v) = nI (fdS (d v) (shC n d v)) then (if p v = 0 then some (.inl (nI v + (-1), fo, ma, sz)) else some (.inr (.inl (fo, ma, sz)))) else (if sz < nI nf then (ob (Numbers_isInVain ma nm two full change mv (nI (cCS n d (adS p v)))) fun x4 => if x4 = 0 then (if p v = 0 then some (.inl (nI v + (-1), fo, ma, sz)) else some (.inr (.inl (fo, ma, sz)))) else gd (ix sz nf) (ob (Numbers_mark ma nm (nI (cCS n d (adS p v)))) fun x6 => if p v = 0 then some (.inl (nI v + (-1), upd fo sz.toNatClampNeg (nI (cCS n d (adS p v))), x6, sz + 1)) else some (.inr (.inl (upd fo sz.toNatClampNeg (nI (cCS n d (adS p v))), x6, sz + 1))))) else (if p v = 0 then some (.inl (nI v + (-1), fo, ma, sz)) else some (.inr (.inl (fo, ma, sz))))) := by
        have hsum : nI (cCS n d p) + (1 : Int32) <<< (sh v &&& 31) = nI (cCS n d (adS p v)) := by rw [(hF v hvn).1, shl_nI (by omega), nI_ad, cC_ad hvn]
        unfold Numbers_growFrom_L7
        show (if nI v < 0 then _ else _) = _
        rw [if_neg (nI_pos (by omega))]
        dsimp only
        rw [gd_eq hix, gd_eq hix, gd_eq hix, nI_clamp (show v < 2 ^ 31 by omega), hsum, hand, (hF v hvn).2]
        simp only [hJ]
        rfl
      by_cases hfull : p v + 1 < 2 ^ d v
      · have hnfl : ¬ nI (p v * 2 ^ shC n d v) = nI (fdS (d v) (shC n d v)) := fun z => by
          have h1 := (nI_inj (by omega) (by omega)).mp z
          unfold fdS at h1
          have := Nat.eq_of_mul_eq_mul_right hp20 h1
          omega
        have hbad : BxS n d (adS p v) := ⟨fun u hu => by
          rw [ad_val, e_val]
          by_cases e : u = v
          · subst e; rw [if_pos rfl]; exact hfull
          · rw [if_neg e]; exact hpb.1 u hu, fun u hu => by
          rw [ad_val, e_val, if_neg (by omega)]
          exact hpb.2 u hu⟩
        have htad := tot_ad (g := p) hvn
        have hfr := hfresh v hvn (fun u hu => e2 u (by omega))
        have hmem : ∀ g, g ∈ L ++ H → BxS n d g → g = g := fun _ _ _ => rfl
        have hnotin : ¬ adS p v ∈ L ++ H := fun z => by
          rcases List.mem_append.mp z with y | y
          · exact hfr y
          · obtain ⟨u, u1, u2, u3, -⟩ := (e4 _).mp y
            have h1 := congrFun u3 v
            rw [ad_val, ad_val, e_val, e_val, if_pos rfl, if_neg (by omega)] at h1
            omega
        have hroom : (L ++ H).length + 1 ≤ 2 ^ totS d n := by
          have := box_len (n := n) (d := d) ((L ++ H) ++ [adS p v]) (List.nodup_append.mpr ⟨g5, by simp, fun a ha b hb e => by
            rw [List.mem_singleton.mp hb] at e
            rw [e] at ha
            exact hnotin ha⟩) (fun g hg => by
            rcases List.mem_append.mp hg with z | z
            · exact (g4 g z).1
            · rw [List.mem_singleton.mp z]; exact hbad)
          rw [List.length_append] at this
          exact this
        have hszlt : sz < nI nf := by rw [g1]; exact (nI_ltN (by omega) (by omega)).mpr (by omega)
        rw [if_neg hnfl, if_pos hszlt] at hhead
        have hvain := isInVainC_ok hG hw hlev hs hVL hlen hM (marks := ma) hnm hnm2 hbad (fun a b hlg h2 hlt => by
          obtain ⟨l1, l2, l3, l4⟩ := hlg
          have l1 : a < n := l1
          have l2 : b < n := l2
          have hbg : BxS n d (goS (adS p v) (a, a, b)) := box_go hG hbad l1 l2 l3 h2 hlt
          have hcg := cC_lt hbg
          rw [g3 _ hcg]
          constructor
          · rintro ⟨g, k1, k2⟩
            have := cC_inj (g4 g k1).1 hbg k2
            rw [← this]; exact (g4 g k1).2
          · intro hvg
            refine ⟨_, List.mem_append_left _ (hcomp _ hbg hvg ?_), rfl⟩
            have := go_totN (n := n) (m := (a, a, b)) (g := adS p v) ⟨l1, l1, l2⟩ (ok_same.mpr h2)
            omega)
        rcases hvain with ⟨v1, v2⟩ | ⟨v1, v2⟩
        · have hcl := cC_lt hbad
          have hszc : sz.toNatClampNeg = (L ++ H).length := by rw [g1, nI_clamp (by omega)]
          rw [ob_eq v1, if_neg one_ne0, gd_eq (by rw [g1]; exact ixN (by omega) hnf2), ob_eq (mark_ok (by omega) hnm2), hszc] at hhead
          refine fin _ _ _ (H ++ [adS p v]) ?_ (fun g => ?_) hhead
          · rw [← List.append_assoc]
            refine ⟨?_, fun i hi => ?_, fun c hc => ?_, fun g hg => ?_, List.nodup_append.mpr ⟨g5, by simp, fun a ha b hb e => by
              rw [List.mem_singleton.mp hb] at e
              rw [e] at ha
              exact hnotin ha⟩⟩
            · have hl1 : (L ++ H ++ [adS p v]).length = (L ++ H).length + 1 := by rw [List.length_append]; rfl
              rw [g1, hl1]; exact nI_ad _ 1
            · rw [List.length_append] at hi
              have hi : i < (L ++ H).length + 1 := hi
              by_cases e : i = (L ++ H).length
              · subst e; rw [upd_at, gF_new]
              · rw [upd_ne e, gF_app (by omega)]; exact g2 i (by omega)
            · rw [bitS_set, Bool.or_eq_true, decide_eq_true_iff]
              constructor
              · rintro (z | z)
                · obtain ⟨g, k1, k2⟩ := (g3 c hc).mp z
                  exact ⟨g, List.mem_append_left _ k1, k2⟩
                · exact ⟨adS p v, by simp, z.symm⟩
              · rintro ⟨g, k1, k2⟩
                rcases List.mem_append.mp k1 with z | z
                · exact Or.inl ((g3 c hc).mpr ⟨g, z, k2⟩)
                · rw [List.mem_singleton.mp z] at k2; exact Or.inr k2.symm
            · rcases List.mem_append.mp hg with z | z
              · exact g4 g z
              · rw [List.mem_singleton.mp z]; exact ⟨hbad, v2⟩
          · rw [List.mem_append, List.mem_singleton, e4 g]
            constructor
            · rintro (⟨u, u1, u2⟩ | z)
              · exact ⟨u, by omega, u2⟩
              · exact ⟨v, Nat.le_refl _, hvn, z, fun u hu => e2 u (by omega), by rw [z]; exact hbad, by rw [z]; exact v2⟩
            · rintro ⟨u, u1, u2⟩
              by_cases y : u = v
              · subst y; exact Or.inr u2.2.1
              · exact Or.inl ⟨u, by omega, u2⟩
        · rw [ob_eq v1, if_pos rfl] at hhead
          exact fin _ _ _ H e3 (same (fun z => v2 z.2)) hhead
      · have he : p v = 2 ^ d v - 1 := by omega
        rw [if_pos (show nI (p v * 2 ^ shC n d v) = nI (fdS (d v) (shC n d v)) by rw [he]; rfl)] at hhead
        refine fin _ _ _ H e3 (same (fun z => ?_)) hhead
        have := z.1.1 v hvn
        rw [ad_val, e_val, if_pos rfl] at this
        omega)
    (by
      rintro ⟨s1, fo, ma, sz⟩ ⟨e1, e2, H, e3, e4⟩
      have e1' : s1 = -1 := Eq.trans e1 (if_neg (Nat.lt_irrefl _))
      clear e1
      subst e1'
      refine ⟨Sum.inr (fo, ma, sz), ?_, (fo, ma, sz), Or.inr rfl, H, e3, fun g => ?_⟩
      · unfold Numbers_growFrom_L7
        exact if_pos (show (-1 : Int32) < 0 by decide)
      · rw [e4 g, Nat.sub_self]
        constructor
        · rintro ⟨u, -, u2⟩; exact ⟨u, u2⟩
        · rintro ⟨u, u2⟩; exact ⟨u, Nat.zero_le _, u2⟩)
    0 (nI n - 1, found, marks, size) (Nat.zero_le _) ⟨by show nI n - 1 = _; rw [if_pos (by omega)]; exact nI_subN (b := 1) (by omega), fun u hu => hpb.2 u (by omega), [], by rw [List.append_nil]; exact hL, fun g => by
      constructor
      · intro z; cases z
      · rintro ⟨u, u1, u2⟩
        have := u2.1
        omega⟩
  obtain ⟨σ, q1, H, q2, q3⟩ := r2
  refine ⟨σ.1, σ.2.1, σ.2.2, H, ?_, q2, q3⟩
  unfold Numbers_growFrom
  rw [ob_eq r1]
  rcases q1 with rfl | rfl
  · rfl
  · rfl
end GRW
