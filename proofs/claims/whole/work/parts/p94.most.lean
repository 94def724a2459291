/-! THE CLASS'S NUMBERS: level by level -/
section MST
variable {n : Nat} {nx d : Nat → Nat} {w : Nat}
theorem box_tot2 {g : Nat → Nat} : ∀ {k : Nat}, (∀ v, v < k → g v < 2 ^ d v) → totS g k < 2 ^ totS d k := by
  intro k
  induction k with
  | zero => intro _; exact Nat.one_pos
  | succ k ih =>
    intro h
    have h1 := ih (fun v hv => h v (by omega))
    have h2 := h k (by omega)
    show totS g k + g k < 2 ^ (totS d k + d k)
    rw [Nat.pow_add]
    generalize 2 ^ totS d k = X at *
    generalize 2 ^ d k = Y at *
    obtain ⟨x, rfl⟩ : ∃ x, X = x + 1 := ⟨X - 1, by omega⟩
    obtain ⟨y, rfl⟩ : ∃ y, Y = y + 1 := ⟨Y - 1, by omega⟩
    have : (x + 1) * (y + 1) = x * y + x + y + 1 := by rw [Nat.add_mul, Nat.mul_add]; omega
    rw [this]
    omega
theorem last_ex {g : Nat → Nat} (hz : ∀ v, n ≤ v → g v = 0) (h : 0 < totS g n) : ∃ v, v < n ∧ 0 < g v ∧ ∀ u, v < u → g u = 0 := by
  have key : ∀ k, k ≤ n → (∀ u, k ≤ u → g u = 0) → 0 < totS g k → ∃ v, v < n ∧ 0 < g v ∧ ∀ u, v < u → g u = 0 := by
    intro k
    induction k with
    | zero => intro _ _ h; exact absurd h (Nat.lt_irrefl 0)
    | succ k ih =>
      intro hk hu h
      by_cases e : g k = 0
      · refine ih (by omega) (fun u hu2 => ?_) ?_
        · by_cases y : u = k
          · rw [y]; exact e
          · exact hu u (by omega)
        · have h : 0 < totS g k + g k := h
          omega
      · exact ⟨k, by omega, by omega, fun u hu2 => hu u (by omega)⟩
  exact key n (Nat.le_refl _) hz h
theorem kid_same {p q : Nat → Nat} {u v : Nat} (e : adS p u = adS q v) (hp : ∀ x, u < x → p x = 0) (hq : ∀ x, v < x → q x = 0) : p = q := by
  have huv : u = v := by
    by_cases z : u < v
    · have h1 := congrFun e v
      rw [ad_val, ad_val, hp v z, e_val, e_val, if_neg (by omega), if_pos rfl] at h1
      omega
    · by_cases y : v < u
      · have h1 := congrFun e u
        rw [ad_val, ad_val, hq u y, e_val, e_val, if_pos rfl, if_neg (by omega)] at h1
        omega
      · omega
  subst huv
  funext x
  have h1 := congrFun e x
  rw [ad_val, ad_val] at h1
  omega
theorem cC_zero : cCS n d z0S = 0 := by
  have : ∀ k, pcS (revS n d) (revS n z0S) k = 0 := by
    intro k
    induction k with
    | zero => rfl
    | succ k ih =>
      show pcS _ _ k + revS n z0S k * _ = 0
      rw [ih, show revS n z0S k = 0 from rfl, Nat.zero_mul]
  exact this n
theorem tot_zero : ∀ k, totS z0S k = 0 := by
  intro k
  induction k with
  | zero => rfl
  | succ k ih => show totS z0S k + 0 = 0; omega
/-- the layings by levels; those behind a have T jars, none has more -/
def LVs (n : Nat) (nx d : Nat → Nat) (w : Nat) (L : List (Nat → Nat)) (a T : Nat) : Prop :=
  a < L.length ∧ (∀ j, j < a → totS (L.getD j z0S) n < T) ∧ (∀ j, a ≤ j → j < L.length → totS (L.getD j z0S) n = T) ∧ ∀ g, BxS n d g → vaS n nx d w g → totS g n ≤ T → g ∈ L
theorem nodup_at {L : List (Nat → Nat)} (h : L.Nodup) {i j : Nat} (hi : i < L.length) (hj : j < L.length) (e : L.getD i z0S = L.getD j z0S) : i = j := by
  rw [List.getD_eq_getElem?_getD, List.getD_eq_getElem?_getD, List.getElem?_eq_getElem hi, List.getElem?_eq_getElem hj] at e
  exact (List.getElem_inj h).mp e
theorem level_grow (hG : GoodG n nx) (hw : w < n) (hlev : ∀ v, v < n → lev n nx w (d v) v = true) (hs : totS d n ≤ 16) {sh fi : Nat → Int32} (hF : FSs n d sh fi) {VL : List (Nat × Nat)} (hVL : ∀ p, p ∈ VL ↔ lgS n nx d p) (hlen : VL.length ≤ 132) {two full change : Nat → Int32} {mv : Int32} (hM : MVr n d VL two full change mv) {nf nm : Nat} (hnf : 2 ^ totS d n ≤ nf) (hnf2 : nf < 2 ^ 31) (hnm : 2 ^ totS d n ≤ 32 * nm) (hnm2 : nm < 2 ^ 26)
    {L : List (Nat → Nat)} {σ : (Nat → Int32) × (Nat → Int32) × Int32} (hL : GLs n nx d w L σ.1 σ.2.1 σ.2.2) {a T : Nat} (hV : LVs n nx d w L a T) (v3 : Int32) :
    ∃ σ' H, lp (Numbers_mostInVain_L70 v3 (nI L.length) nf nm sh fi two full change mv (nI n)) (nI a, σ) = some σ' ∧ GLs n nx d w (L ++ H) σ'.1 σ'.2.1 σ'.2.2 ∧ ∀ g, g ∈ H ↔ BxS n d g ∧ vaS n nx d w g ∧ totS g n = T + 1 := by
  have h16 : 2 ^ totS d n ≤ 2 ^ 16 := Nat.pow_le_pow_right (by omega) hs
  have hl := box_len L hL.2.2.2.2 (fun g hg => (hL.2.2.2.1 g hg).1)
  obtain ⟨v1, v2, v3', v4⟩ := hV
  obtain ⟨σ', q1, H, q2, q3⟩ := lp_inv (f := Numbers_mostInVain_L70 v3 (nI L.length) nf nm sh fi two full change mv (nI n))
    (fun x s => s.1 = nI (a + x) ∧ ∃ H, GLs n nx d w (L ++ H) s.2.1 s.2.2.1 s.2.2.2 ∧ ∀ g, g ∈ H ↔ ∃ j v, a ≤ j ∧ j < a + x ∧ kidS n nx d w (L.getD j z0S) v g) (L.length - a)
    (fun r => ∃ H, GLs n nx d w (L ++ H) r.1 r.2.1 r.2.2 ∧ ∀ g, g ∈ H ↔ ∃ j v, a ≤ j ∧ j < L.length ∧ kidS n nx d w (L.getD j z0S) v g)
    (by
      rintro x ⟨s1, fo, ma, sz⟩ hx ⟨e1, H, e2, e3⟩
      have e1 : s1 = nI (a + x) := e1
      subst e1
      left
      have hj : a + x < L.length := by omega
      have hjl : a + x < (L ++ H).length := by rw [List.length_append]; omega
      have hgj : (L ++ H).getD (a + x) z0S = L.getD (a + x) z0S := gF_app hj
      have htj := v3' (a + x) (by omega) hj
      obtain ⟨fo', ma', sz', K, k1, k2, k3⟩ := growFrom_ok hG hw hlev hs hF hVL hlen hM hnf hnf2 hnm hnm2 e2 (p := L.getD (a + x) z0S) (List.mem_append_left _ (gF_mem hj)) (fun g b1 b2 b3 => List.mem_append_left _ (v4 g b1 b2 (by omega))) (fun v hv hu z => by
        rcases List.mem_append.mp z with y | y
        · obtain ⟨i, i1, i2⟩ := mem_gF y
          have h1 := tot_ad (n := n) (g := L.getD (a + x) z0S) hv
          rw [← i2] at h1
          by_cases c : i < a
          · have := v2 i c; omega
          · have := v3' i (by omega) i1; omega
        · obtain ⟨j, u, j1, j2, j3, j4, j5, -⟩ := (e3 _).mp y
          have h1 := kid_same j4 hu j5
          have := nodup_at hL.2.2.2.2 hj (show j < L.length by omega) h1
          omega)
      refine ⟨(nI (a + x) + 1, fo', ma', sz'), ?_, nI_ad (a + x) 1, H ++ K, by rw [← List.append_assoc]; exact k2, fun g => ?_⟩
      · unfold Numbers_mostInVain_L70
        show (if nI (a + x) < nI L.length then _ else _) = _
        rw [if_pos ((nI_ltN (by omega) (by omega)).mpr hj)]
        dsimp only
        have hf := e2.2.1 (a + x) hjl
        have hf : fo (a + x) = nI (cCS n d ((L ++ H).getD (a + x) z0S)) := hf
        rw [hgj] at hf
        rw [gd_eq (ixN (by omega) hnf2), nI_clamp (show a + x < 2 ^ 31 by omega), hf, ob_eq k1]
      · rw [List.mem_append, e3 g, k3 g]
        constructor
        · rintro (⟨j, v, j1, j2, j3⟩ | ⟨v, j3⟩)
          · exact ⟨j, v, j1, by omega, j3⟩
          · exact ⟨a + x, v, by omega, by omega, j3⟩
        · rintro ⟨j, v, j1, j2, j3⟩
          by_cases e : j = a + x
          · subst e; exact Or.inr ⟨v, j3⟩
          · exact Or.inl ⟨j, v, j1, by omega, j3⟩)
    (by
      rintro ⟨s1, σ1⟩ ⟨e1, H, e2, e3⟩
      have e1 : s1 = nI (a + (L.length - a)) := e1
      rw [show a + (L.length - a) = L.length by omega] at e1 e3
      subst e1
      refine ⟨σ1, ?_, H, e2, e3⟩
      unfold Numbers_mostInVain_L70
      exact if_neg (fun z => by have := (nI_ltN (by omega) (by omega)).mp z; omega))
    0 (nI a, σ) (Nat.zero_le _) ⟨rfl, [], by rw [List.append_nil]; exact hL, fun g => by
      constructor
      · intro z; cases z
      · rintro ⟨j, v, j1, j2, -⟩; omega⟩
  refine ⟨σ', H, q1, q2, fun g => ?_⟩
  rw [q3 g]
  constructor
  · rintro ⟨j, v, j1, j2, k1, k2, k3, k4, k5⟩
    refine ⟨k4, k5, ?_⟩
    rw [k2, tot_ad k1, v3' j j1 j2]
  · rintro ⟨k4, k5, k6⟩
    obtain ⟨v, b1, b2, b3⟩ := last_ex k4.2 (by omega)
    have hval := lv_val b2
    have hpb : BxS n d (lvS g v) := ⟨fun u hu => by have := hval u; have := k4.1 u hu; omega, fun u hu => by have := hval u; have := k4.2 u hu; omega⟩
    have hpv : vaS n nx d w (lvS g v) := va_mono (totS g n) (Nat.le_refl _) (fun u => by have := hval u; omega) k5
    have hadd : g = adS (lvS g v) v := by
      funext u
      rw [ad_val]
      have := hval u
      omega
    have htp : totS (lvS g v) n = T := by
      have := tot_ad (n := n) (g := lvS g v) b1
      rw [← hadd] at this
      omega
    obtain ⟨j, j1, j2⟩ := mem_gF (v4 _ hpb hpv (by omega))
    refine ⟨j, v, ?_, j1, b1, by rw [j2]; exact hadd, fun u hu => ?_, k4, k5⟩
    · by_cases y : a ≤ j
      · exact y
      · have := v2 j (by omega)
        rw [j2] at this
        omega
    · rw [j2]
      have := hval u
      have := b3 u hu
      omega
theorem most_levels (hG : GoodG n nx) (hw : w < n) (hlev : ∀ v, v < n → lev n nx w (d v) v = true) (hs : totS d n ≤ 16) {sh fi : Nat → Int32} (hF : FSs n d sh fi) {VL : List (Nat × Nat)} (hVL : ∀ p, p ∈ VL ↔ lgS n nx d p) (hlen : VL.length ≤ 132) {two full change : Nat → Int32} {mv : Int32} (hM : MVr n d VL two full change mv) {nf nm : Nat} (hnf : 2 ^ totS d n ≤ nf) (hnf2 : nf < 2 ^ 31) (hnm : 2 ^ totS d n ≤ 32 * nm) (hnm2 : nm < 2 ^ 26)
    {fo ma : Nat → Int32} (hL : GLs n nx d w [z0S] fo ma 1) :
    ∃ L a T fo' ma', lp (Numbers_mostInVain_L49 nf nm sh fi two full change mv (nI n)) (0, fo, ma, 1, 0) = some (Sum.inl (nI T, fo', ma', nI L.length, nI a)) ∧ GLs n nx d w L fo' ma' (nI L.length) ∧ LVs n nx d w L a T ∧ ∀ g, BxS n d g → vaS n nx d w g → ¬ totS g n = T + 1 := by
  have h16 : 2 ^ totS d n ≤ 2 ^ 16 := Nat.pow_le_pow_right (by omega) hs
  obtain ⟨r, r1, L, a, T, fo', ma', rfl, r3, r4, r5⟩ := lp_inv (f := Numbers_mostInVain_L49 nf nm sh fi two full change mv (nI n))
    (fun k s => s.1 = nI k ∧ ∃ L a, s.2.2.2.2 = nI a ∧ GLs n nx d w L s.2.1 s.2.2.1 s.2.2.2.1 ∧ LVs n nx d w L a k) 64
    (fun r => ∃ L a T fo' ma', r = Sum.inl (nI T, fo', ma', nI L.length, nI a) ∧ GLs n nx d w L fo' ma' (nI L.length) ∧ LVs n nx d w L a T ∧ ∀ g, BxS n d g → vaS n nx d w g → ¬ totS g n = T + 1)
    (by
      rintro k ⟨s1, fo, ma, sz, ls⟩ hk ⟨e1, L, a, e2, e3, e4⟩
      have e1 : s1 = nI k := e1
      have e2 : ls = nI a := e2
      have e3 : GLs n nx d w L fo ma sz := e3
      subst e1; subst e2
      have hsz : sz = nI L.length := e3.1
      have hl := box_len L e3.2.2.2.2 (fun g hg => (e3.2.2.2.1 g hg).1)
      have hkn : k < 2 ^ totS d n := by
        have h1 := e4.2.2.1 a (Nat.le_refl _) e4.1
        rw [← h1]
        exact box_tot2 (e3.2.2.2.1 _ (gF_mem e4.1)).1.1
      obtain ⟨σ', H, q1, q2, q3⟩ := level_grow hG hw hlev hs hF hVL hlen hM hnf hnf2 hnm hnm2 (σ := (fo, ma, sz)) e3 e4 (nI k)
      have hl2 := box_len (L ++ H) q2.2.2.2.2 (fun g hg => (q2.2.2.2.1 g hg).1)
      have hsz2 := q2.1
      have hhead : Numbers_mostInVain_L49 nf nm sh fi two full change mv (nI n) (nI k, fo, ma, sz, nI a) = if σ'.2.2 = sz then some (.inr (.inl (nI k, σ'.1, σ'.2.1, σ'.2.2, nI a))) else some (.inl (nI k + 1, σ'.1, σ'.2.1, σ'.2.2, sz)) := by
        unfold Numbers_mostInVain_L49
        show (if nI k < Int32.ofNat nf then _ else _) = _
        rw [if_pos (show nI k < Int32.ofNat nf from (nI_ltN (by omega) hnf2).mpr (by omega))]
        show ob (lp (Numbers_mostInVain_L70 (nI k) sz nf nm sh fi two full change mv (nI n)) (nI a, fo, ma, sz)) _ = _
        rw [hsz]
        rw [hsz] at q1
        rw [ob_eq q1]
      cases H with
      | nil =>
        right
        rw [List.append_nil] at hsz2 q2
        refine ⟨_, hhead.trans (if_pos (by rw [hsz2, hsz])), L, a, k, σ'.1, σ'.2.1, by rw [hsz2], by rw [hsz2] at q2; exact q2, e4, fun g b1 b2 b3 => ?_⟩
        have := (q3 g).mpr ⟨b1, b2, b3⟩
        cases this
      | cons h H =>
        left
        have hl3 : (L ++ h :: H).length = L.length + H.length + 1 := by simp; omega
        refine ⟨_, hhead.trans (if_neg (fun z => ?_)), nI_ad k 1, L ++ h :: H, L.length, hsz, q2, by omega, fun j hj => ?_, fun j hj1 hj2 => ?_, fun g b1 b2 b3 => ?_⟩
        · rw [hsz2, hsz] at z
          have := (nI_inj (by omega) (by omega)).mp z
          omega
        · rw [gF_app hj]
          by_cases y : j < a
          · have := e4.2.1 j y; omega
          · have := e4.2.2.1 j (by omega) hj; omega
        · obtain ⟨x, x1, x2⟩ : ∃ s ∈ h :: H, (L ++ h :: H).getD j z0S = s := by
            refine ⟨(h :: H).getD (j - L.length) z0S, gF_mem (by simp; omega), ?_⟩
            rw [List.getD_eq_getElem?_getD, List.getElem?_append_right hj1, ← List.getD_eq_getElem?_getD]
          rw [x2]
          exact ((q3 x).mp x1).2.2
        · by_cases y : totS g n ≤ k
          · exact List.mem_append_left _ (e4.2.2.2 g b1 b2 y)
          · exact List.mem_append_right _ ((q3 g).mpr ⟨b1, b2, by omega⟩))
    (by
      rintro ⟨s1, fo, ma, sz, ls⟩ ⟨e1, L, a, e2, e3, e4⟩
      exfalso
      have h1 := e4.2.2.1 a (Nat.le_refl _) e4.1
      have := box_tot hG hw hlev hs (e3.2.2.2.1 _ (gF_mem e4.1)).1
      omega)
    0 (0, fo, ma, 1, 0) (Nat.zero_le _) ⟨rfl, [z0S], 0, rfl, hL, Nat.one_pos, fun j hj => by omega, fun j _ hj => by
      have hj : j < 1 := hj
      rw [show j = 0 by omega]
      exact tot_zero n, fun g b1 b2 b3 => by
      have : g = z0S := by
        funext v
        by_cases hv : v < n
        · have := totS_le (g := g) hv
          show g v = 0
          omega
        · exact b1.2 v (by omega)
      rw [this]; simp⟩
  exact ⟨L, a, T, fo', ma', r1, r3, r4, r5⟩
end MST
abbrev T15 := (Nat → Int32) × Nat × (Nat → Int32) × Nat × (Nat → Int32) × (Nat → Int32) × (Nat → Int32) × (Nat → Int32) × (Nat → Int32) × Int32 × Int32 × Int32 × Int32 × Nat × Nat
theorem mostInVain_ok {n : Nat} {nx : Nat → Nat} {w : Nat} (hG : GoodG n nx) {next ways : Nat → Int32} (hx : ∀ w, w < 12 → next w = nI (nx w)) (hr : RW n nx ways) (hw : w < n) (hall : AllD n nx w) (hs : totS (dnS n nx w) n ≤ 16) {bc bs : Nat} (hbc : 2 ≤ bc) {nf nm : Nat} (hbs : nf < 2 ^ totS (dnS n nx w) n → 2 ^ totS (dnS n nx w) n + (2 ^ totS (dnS n nx w) n / 32 + 1) ≤ bs) (hz : SZn nf nm) (fo ma sh0 fi0 two full change : Nat → Int32) (mv wn sz ls : Int32) :
    ∃ L a T fo' nf' ma' nm' sh fi two' full' change' mv' kc ks, Numbers_mostInVain bc bs fo nf ma nm sh0 fi0 two full change mv wn sz ls (nI n) next ways (nI w) = some (nI T, fo', nf', ma', nm', sh, fi, two', full', change', mv', nI n, nI L.length, nI a, kc, ks) ∧ SZn nf' nm' ∧ FSs n (dnS n nx w) sh fi ∧ GLs n nx (dnS n nx w) w L fo' ma' (nI L.length) ∧ LVs n nx (dnS n nx w) w L a T ∧ (∀ g, BxS n (dnS n nx w) g → vaS n nx (dnS n nx w) w g → ¬ totS g n = T + 1) ∧ L.length ≤ nf' ∧ nf ≤ nf' ∧ kc ≤ 2 ∧ ks ≤ nf' + nm' ∧ ((nf' = nf ∧ kc = 0 ∧ ks = 0) ∨ (nf < nf' ∧ nf' = 2 ^ totS (dnS n nx w) n)) := by
  obtain ⟨fo1, nf1, ma1, nm1, sh, fi, kc, ks, a1, a2, a3, a4, a5, a6, a7, a8, a9⟩ := layOut_ok hG hw hall hs hr hbc hbs hz fo ma sh0 fi0 wn
  generalize hd : dnS n nx w = d at *
  have hdv : ∀ v, v < n → dI n nx v w = nI (d v) := fun v hv => by rw [← hd]; exact (hall v hv).2.1
  have hlev : ∀ v, v < n → lev n nx w (d v) v = true := fun v hv => by rw [← hd]; exact (hall v hv).1
  have h16 : 2 ^ totS d n ≤ 2 ^ 16 := Nat.pow_le_pow_right (by omega) hs
  have hp0 : 0 < 2 ^ totS d n := Nat.pow_pos (by omega)
  have hnf1 : nf1 ≤ 65536 ∧ nm1 = nf1 / 32 + 1 := by rcases a2 with z | z <;> omega
  obtain ⟨VL1, two1, full1, change1, mv1, b1, b2, b3, b4⟩ := vmoves_ok hG hx hw hr hdv hs a4 (VL0 := []) true (v3 := 1) rfl List.nodup_nil (fun p hp => by cases hp) (two := two) (full := full) (change := change) (mv := 0) ⟨rfl, fun i hi => by have : i < 0 := hi; omega⟩
  obtain ⟨VL2, two2, full2, change2, mv2, c1, c2, c3, c4⟩ := vmoves_ok hG hx hw hr hdv hs a4 (VL0 := VL1) false (v3 := 0) rfl b3 (fun p hp => by
    rcases (b4 p).mp hp with z | z
    · cases z
    · exact ⟨z.1, by rw [z.2]; decide⟩) b2
  have hVL : ∀ p, p ∈ VL2 ↔ lgS n nx d p := fun p => by
    rw [c4 p, b4 p]
    constructor
    · rintro ((z | z) | z)
      · cases z
      · exact z.1
      · exact z.1
    · intro z
      cases hdec : decide (d p.2 < d p.1) with
      | true => exact Or.inl (Or.inr ⟨z, rfl⟩)
      | false => exact Or.inr ⟨z, rfl⟩
  have n12 := hG.1
  have hlen := pairs_len c3 (fun p hp => by
    obtain ⟨l1, l2, l3, l4⟩ := (hVL p).mp hp
    refine ⟨by omega, by omega, fun e => ?_⟩
    rw [e, hG.2.2.2.2] at l3; cases l3)
  have hm0 := mark_ok (marks := ma1) (nm := nm1) (c := 0) (by omega) (by omega)
  have hGL : GLs n nx d w [z0S] (upd fo1 0 0) (upd ma1 (0 / 32) (ma1 (0 / 32) ||| nI (2 ^ (0 % 32)))) 1 := by
    refine ⟨rfl, fun i hi => ?_, fun c hc => ?_, fun g hg => ?_, by simp⟩
    · have hi : i < 1 := hi
      rw [show i = 0 by omega, upd_at]
      show 0 = nI (cCS n d z0S)
      rw [cC_zero]; rfl
    · rw [bitS_set, a5 c (by omega), Bool.false_or, decide_eq_true_iff]
      constructor
      · intro e; exact ⟨z0S, by simp, by rw [cC_zero, e]⟩
      · rintro ⟨g, g1, g2⟩
        rw [List.mem_singleton.mp g1, cC_zero] at g2
        exact g2.symm
    · rw [List.mem_singleton.mp hg]
      exact ⟨⟨fun v _ => Nat.pow_pos (by omega), fun _ _ => rfl⟩, va_zero⟩
  obtain ⟨L, a, T, fo', ma', d1, d2, d3, d4⟩ := most_levels (nf := nf1) (nm := nm1) hG hw hlev hs a4 hVL hlen c2 a3 (by omega) (by omega) (by omega) hGL
  refine ⟨L, a, T, fo', nf1, ma', nm1, sh, fi, two2, full2, change2, mv2, kc, ks, ?_, a2, a4, d2, d3, d4, ?_, a6, a7, a8, a9⟩
  · unfold Numbers_mostInVain
    rw [Nat.sub_zero, Nat.sub_zero, ob_eq a1]
    dsimp only
    rw [gd_eq (cuOk_yes (by omega) (by
      rcases a9 with z | z
      · omega
      · have := hbs (by omega); omega)), ob_eq b1]
    dsimp only
    rw [ob_eq c1]
    dsimp only
    rw [gd_eq (show ix 0 nf1 = true from ixN (c := 0) (by omega) (by omega)), show ob (Numbers_mark ma1 nm1 0) _ = _ from ob_eq hm0]
    show ob (lp (Numbers_mostInVain_L49 nf1 nm1 sh fi two2 full2 change2 mv2 (nI n)) (0, upd fo1 0 0, upd ma1 (0 / 32) (ma1 (0 / 32) ||| nI (2 ^ (0 % 32))), 1, 0)) _ = _
    rw [ob_eq d1, Nat.zero_add, Nat.zero_add]
    rfl
  · have := box_len L d2.2.2.2.2 (fun g hg => (d2.2.2.2.1 g hg).1)
    omega
