/-! THE REFERENCE'S STEPS: a queue -/
/-- the level, 99 if there is none -/
def dN (n : Nat) (nx : Nat → Nat) (p q : Nat) : Nat := match dfind (fun k => ball n nx p k q) 12 0 with
  | some k => k
  | none => 99
section BFS
variable {n : Nat} {nx : Nat → Nat} {p : Nat}
theorem dN_lev {k q : Nat} (hk : k < 12) (h : lev n nx p k q = true) : dN n nx p q = k ∧ dI n nx p q = nI k := by
  refine ⟨?_, dI_lev hk h⟩
  have h1 := dI_lev hk h
  unfold dN
  unfold dI at h1
  cases hd : dfind (fun k => ball n nx p k q) 12 0 with
  | none =>
    exfalso
    have h2 := dfind_some (f := fun k => ball n nx p k q) 12 0 k (by omega) (by omega) (lev_ball h) (fun i _ hi => by
      cases hb : ball n nx p i q with
      | false => rfl
      | true =>
        exfalso
        have h2 := lev_near h
        cases k with
        | zero => omega
        | succ k =>
          have := ball_le (show i ≤ k by omega) hb
          rw [show ball n nx p k q = false from h2] at this; cases this)
    rw [hd] at h2; cases h2
  | some j =>
    rw [hd] at h1
    have hj : j < 2 ^ 31 := by
      have : ∀ (m k j : Nat), dfind (fun k => ball n nx p k q) m k = some j → j < k + m := by
        intro m
        induction m with
        | zero => intro k j h; cases h
        | succ m ih =>
          intro k j h
          unfold dfind at h
          cases hb : ball n nx p k q with
          | true => rw [hb] at h; cases h; omega
          | false => rw [hb] at h; have := ih (k + 1) j h; omega
      have := this 12 0 j hd
      omega
    exact (nI_inj hj (by omega)).mp h1
/-- a queue of which the first k have been gone through -/
def Qok (n : Nat) (nx : Nat → Nat) (p : Nat) (L : List Nat) (k : Nat) (far line f0 : Nat → Int32) : Prop :=
  L.Nodup ∧ (∀ q ∈ L, q < n) ∧ p ∈ L ∧ (∀ i, i < L.length → line i = nI (L.getD i 0)) ∧ (∀ q, q < 12 → far (12 * p + q) = if q ∈ L then dI n nx p q else -2) ∧ (∀ q ∈ L, lev n nx p (dN n nx p q) q = true) ∧
  (∀ i j, i ≤ j → j < L.length → dN n nx p (L.getD i 0) ≤ dN n nx p (L.getD j 0)) ∧ (k < L.length → ∀ q ∈ L, dN n nx p q ≤ dN n nx p (L.getD k 0) + 1) ∧ (∀ i, i < k → i < L.length → ∀ r, (nx (L.getD i 0)).testBit r = true → r ∈ L) ∧ ∀ i, ¬ (12 * p ≤ i ∧ i < 12 * p + 12) → far i = f0 i
theorem nodup_len {L : List Nat} {n : Nat} (h1 : L.Nodup) (h2 : ∀ q ∈ L, q < n) : L.length ≤ n := by
  have h3 : L ⊆ List.range n := fun q hq => List.mem_range.mpr (h2 q hq)
  have h4 := List.Nodup.length_le_of_subset h1 h3
  rw [List.length_range] at h4
  exact h4
theorem getD_mem {L : List Nat} {i : Nat} (h : i < L.length) : L.getD i 0 ∈ L := by
  rw [List.getD_eq_getElem?_getD, List.getElem?_eq_getElem h]
  exact List.getElem_mem h
theorem mem_getD {L : List Nat} {q : Nat} (h : q ∈ L) : ∃ i, i < L.length ∧ L.getD i 0 = q := by
  obtain ⟨i, hi, e⟩ := List.getElem_of_mem h
  exact ⟨i, hi, by rw [List.getD_eq_getElem?_getD, List.getElem?_eq_getElem hi]; exact e⟩
/-- all that is no farther than the one at hand stands in the queue -/
theorem Qok.all {L : List Nat} {k : Nat} {far line f0 : Nat → Int32} (hp : p < n) (hg : GoodG n nx) (h : Qok n nx p L k far line f0) (hk : k < L.length) : ∀ (i r : Nat), lev n nx p i r = true → i ≤ dN n nx p (L.getD k 0) → r ∈ L := by
  obtain ⟨h1, h2, h3, h4, h5, h6, h7, h8, h9, h10⟩ := h
  intro i
  induction i with
  | zero =>
    intro r hr _
    have : r = p := by simpa [lev] using hr
    rw [this]; exact h3
  | succ i ih =>
    intro r hr hi
    have hr2 := hr
    rw [lev_succ, Bool.and_eq_true] at hr2
    obtain ⟨s, s1, s2⟩ := List.any_eq_true.mp hr2.1
    rw [Bool.and_eq_true] at s2
    have s3 := ih s s2.1 (by omega)
    obtain ⟨j, j1, j2⟩ := mem_getD s3
    have s4 := (dN_lev (by have := lev_lt hp hg (List.mem_range.mp s1) s2.1; have := hg.1; omega) s2.1).1
    refine h9 j ?_ j1 r (by rw [j2]; exact s2.2)
    rcases Nat.lt_or_ge j k with h11 | h11
    · exact h11
    · exfalso
      have := h7 k j h11 j1
      rw [j2, s4] at this
      omega
/-- one more in the queue -/
theorem Qok.push {L : List Nat} {k : Nat} {far line f0 : Nat → Int32} (hp : p < n) (hg : GoodG n nx) (h : Qok n nx p L k far line f0) (hk : k < L.length) {q : Nat} (hq : (nx (L.getD k 0)).testBit q = true) (hn : q ∉ L) :
    Qok n nx p (L ++ [q]) k (upd far (12 * p + q) (far (12 * p + L.getD k 0) + 1)) (upd line L.length (nI q)) f0 ∧ q < n := by
  have hall := h.all hp hg hk
  obtain ⟨h1, h2, h3, h4, h5, h6, h7, h8, h9, h10⟩ := h
  have hqn : q < n := bit_lt (hg.2.1 _) hq
  have hx := getD_mem hk
  have lx := h6 _ hx
  have n12 := hg.1
  have hdx : dN n nx p (L.getD k 0) < n := lev_lt hp hg (h2 _ hx) lx
  have hb : ball n nx p (dN n nx p (L.getD k 0) + 1) q = true := ball_step (h2 _ hx) (lev_ball lx) hq
  have lq : lev n nx p (dN n nx p (L.getD k 0) + 1) q = true := by
    refine lev_of hb ?_
    show ball n nx p (dN n nx p (L.getD k 0)) q = false
    cases hb2 : ball n nx p (dN n nx p (L.getD k 0)) q with
    | false => rfl
    | true =>
      exfalso
      obtain ⟨j, j1, j2⟩ := lev_or _ hb2
      exact hn (hall j q j2 j1)
  have hdq := dN_lev (by have := lev_lt hp hg hqn lq; omega) lq
  have hfx : far (12 * p + L.getD k 0) = nI (dN n nx p (L.getD k 0)) := by
    rw [h5 _ (by have := h2 _ hx; omega), if_pos hx]
    exact (dN_lev (by omega) lx).2
  have hgl : ∀ i, i < L.length → (L ++ [q]).getD i 0 = L.getD i 0 := fun i hi => by
    rw [List.getD_eq_getElem?_getD, List.getD_eq_getElem?_getD, List.getElem?_append_left hi]
  have hgq : (L ++ [q]).getD L.length 0 = q := by
    rw [List.getD_eq_getElem?_getD, List.getElem?_append_right (Nat.le_refl _), Nat.sub_self]; rfl
  have hlen : (L ++ [q]).length = L.length + 1 := by simp
  refine ⟨⟨?_, ?_, List.mem_append_left _ h3, ?_, ?_, ?_, ?_, ?_, ?_, ?_⟩, hqn⟩
  · rw [List.nodup_append]
    exact ⟨h1, by simp, fun a ha b hb => by
      have : b = q := by simpa using hb
      subst this
      exact fun e => hn (e ▸ ha)⟩
  · intro r hr
    rcases List.mem_append.mp hr with hr | hr
    · exact h2 r hr
    · have : r = q := by simpa using hr
      rw [this]; exact hqn
  · intro i hi
    rw [hlen] at hi
    by_cases e : i = L.length
    · subst e; rw [upd_at, hgq]
    · rw [upd_ne e, hgl i (by omega)]; exact h4 i (by omega)
  · intro r hr
    by_cases e : r = q
    · subst e
      rw [upd_at, if_pos (by simp), hfx, hdq.2]
      exact nI_ad _ 1
    · rw [upd_ne (by omega), h5 r hr]
      by_cases hm : r ∈ L
      · rw [if_pos hm, if_pos (List.mem_append_left _ hm)]
      · rw [if_neg hm, if_neg (fun z => by
          rcases List.mem_append.mp z with z | z
          · exact hm z
          · exact e (by simpa using z))]
  · intro r hr
    rcases List.mem_append.mp hr with hr | hr
    · exact h6 r hr
    · have : r = q := by simpa using hr
      rw [this, hdq.1]; exact lq
  · intro i j hij hj
    rw [hlen] at hj
    by_cases e : j = L.length
    · subst e
      rw [hgq, hdq.1]
      by_cases e2 : i = L.length
      · subst e2; rw [hgq, hdq.1]; exact Nat.le_refl _
      · rw [hgl i (by omega)]; exact h8 hk _ (getD_mem (by omega))
    · rw [hgl j (by omega), hgl i (by omega)]; exact h7 i j hij (by omega)
  · intro _ r hr
    rw [hgl k hk]
    rcases List.mem_append.mp hr with hr | hr
    · exact h8 hk r hr
    · have : r = q := by simpa using hr
      rw [this, hdq.1]; exact Nat.le_refl _
  · intro i hi hil r hr
    rw [hgl i (by omega)] at hr
    exact List.mem_append_left _ (h9 i hi (by omega) r hr)
  · intro i hi
    rw [upd_ne (by omega)]; exact h10 i hi
end BFS
theorem nI_ne_m2 {j : Nat} (h : j < 2 ^ 31) : ¬ nI j = -2 := fun e => nI_pos h (by rw [e]; decide)
theorem Mo_has_eq {m q : Nat} (hm : m < 2 ^ 31) (hq : q < 32) : Mo_has (nI m) (nI q) = some (if m.testBit q then 1 else 0) := by
  unfold Mo_has
  rw [bit_nI hm hq]
  cases m.testBit q <;> rfl
theorem row12' {p q : Nat} : (12 * nI p : Int32) + nI q = nI (12 * p + q) := by
  rw [show (12 * nI p : Int32) = nI (12 * p) from nI_mulN 12 p, nI_ad]
section BFS2
variable {n : Nat} {nx : Nat → Nat} {p : Nat} {nextTo : Nat → Int32}
theorem bfs_inner (hp : p < n) (hg : GoodG n nx) (hx : ∀ w, w < 12 → nextTo w = nI (nx w)) {L : List Nat} {k : Nat} {far line f0 : Nat → Int32} (h : Qok n nx p L k far line f0) (hk : k < L.length) :
    ∃ (L' : List Nat) (far' line' : Nat → Int32), lp (Mo_laysStepsFrom_L58 (nI p) (nI k) nextTo (nI n)) (nI L.length, 0, far, line) = some (nI L'.length, far', line') ∧ Qok n nx p L' k far' line' f0 ∧ L.length ≤ L'.length ∧ ∀ r, (nx (L'.getD k 0)).testBit r = true → r ∈ L' := by
  have n12 := hg.1
  have h2n : (2 : Nat) ^ n ≤ 2 ^ 12 := Nat.pow_le_pow_right (by decide) n12
  obtain ⟨r, h1, h2⟩ := lp_inv (f := Mo_laysStepsFrom_L58 (nI p) (nI k) nextTo (nI n))
    (fun q s => ∃ (L' : List Nat) (far' line' : Nat → Int32), s = (nI L'.length, nI q, far', line') ∧ Qok n nx p L' k far' line' f0 ∧ L.length ≤ L'.length ∧ ∀ r, r < q → (nx (L'.getD k 0)).testBit r = true → r ∈ L') n
    (fun r => ∃ (L' : List Nat) (far' line' : Nat → Int32), r = (nI L'.length, far', line') ∧ Qok n nx p L' k far' line' f0 ∧ L.length ≤ L'.length ∧ ∀ r, (nx (L'.getD k 0)).testBit r = true → r ∈ L')
    (by
      rintro q s hq ⟨L', far', line', rfl, hQ, hl, ha⟩
      left
      have hkl : k < L'.length := by omega
      have hlen : L'.length ≤ n := nodup_len hQ.1 hQ.2.1
      have hxm := getD_mem hkl
      have hxn := hQ.2.1 _ hxm
      have hline : line' k = nI (L'.getD k 0) := hQ.2.2.2.1 k hkl
      have hqn : nI q < nI n := (nI_ltN (by omega) (by omega)).mpr hq
      have hmx : nx (L'.getD k 0) < 2 ^ 31 := Nat.lt_of_lt_of_le (hg.2.1 _) (Nat.le_trans h2n (by decide))
      unfold Mo_laysStepsFrom_L58 Mo_laysStepsFrom_L58_J148
      have hstep : ∀ (s' : Int32 × Int32 × (Nat → Int32) × (Nat → Int32)), True := fun _ => trivial
      cases hb : (nx (L'.getD k 0)).testBit q with
      | false =>
        refine ⟨(nI L'.length, nI (q + 1), far', line'), ?_, L', far', line', rfl, hQ, hl, fun r hr hb2 => ?_⟩
        · show (if nI q < nI n then (gd (ix (nI k) 12) (gd (ix (line' (nI k).toNatClampNeg) 12) (ob (Mo_has (nextTo (line' (nI k).toNatClampNeg).toNatClampNeg) (nI q)) _))) else _) = _
          rw [if_pos hqn, gd_eq (ixN (by omega) (by decide)), nI_clamp (by omega), hline, gd_eq (ixN (by omega) (by decide)), nI_clamp (by omega), hx _ (by omega), ob_eq (Mo_has_eq hmx (by omega)), hb]
          show some (Sum.inl (nI L'.length, nI q + nI 1, far', line')) = _
          rw [nI_ad]
        · by_cases e : r = q
          · subst e; rw [hb] at hb2; cases hb2
          · exact ha r (by omega) hb2
      | true =>
        by_cases hm : q ∈ L'
        · refine ⟨(nI L'.length, nI (q + 1), far', line'), ?_, L', far', line', rfl, hQ, hl, fun r hr hb2 => ?_⟩
          · have hf : far' (12 * p + q) = dI n nx p q := by rw [hQ.2.2.2.2.1 q (by omega), if_pos hm]
            have hlv := hQ.2.2.2.2.2.1 q hm
            have hne : ¬ far' (12 * p + q) = -2 := by
              have h9 := lev_lt hp hg hq hlv
              rw [hf, (dN_lev (by omega) hlv).2]
              exact nI_ne_m2 (by omega)
            show (if nI q < nI n then (gd (ix (nI k) 12) (gd (ix (line' (nI k).toNatClampNeg) 12) (ob (Mo_has (nextTo (line' (nI k).toNatClampNeg).toNatClampNeg) (nI q)) _))) else _) = _
            rw [if_pos hqn, gd_eq (ixN (by omega) (by decide)), nI_clamp (by omega), hline, gd_eq (ixN (by omega) (by decide)), nI_clamp (by omega), hx _ (by omega), ob_eq (Mo_has_eq hmx (by omega)), hb]
            show (if (1 : Int32) = 0 then _ else (gd (ix (12 * nI p + nI q) 144) (if far' (12 * nI p + nI q).toNatClampNeg = -2 then _ else _))) = _
            rw [if_neg one_ne0, row12', gd_eq (ixN (by omega) (by decide)), nI_clamp (by omega), if_neg hne]
            show some (Sum.inl (nI L'.length, nI q + nI 1, far', line')) = _
            rw [nI_ad]
          · by_cases e : r = q
            · subst e; exact hm
            · exact ha r (by omega) hb2
        · obtain ⟨hQ2, -⟩ := hQ.push hp hg hkl hb hm
          have hlen2 : (L' ++ [q]).length = L'.length + 1 := by simp
          have hl12 : L'.length < 12 := by
            have := nodup_len hQ2.1 hQ2.2.1
            omega
          have hgk : (L' ++ [q]).getD k 0 = L'.getD k 0 := by
            rw [List.getD_eq_getElem?_getD, List.getD_eq_getElem?_getD, List.getElem?_append_left hkl]
          refine ⟨(nI (L'.length + 1), nI (q + 1), _, _), ?_, L' ++ [q], _, _, by rw [hlen2], hQ2, by omega, fun r hr hb2 => ?_⟩
          · have hf : far' (12 * p + q) = -2 := by rw [hQ.2.2.2.2.1 q (by omega), if_neg hm]
            show (if nI q < nI n then (gd (ix (nI k) 12) (gd (ix (line' (nI k).toNatClampNeg) 12) (ob (Mo_has (nextTo (line' (nI k).toNatClampNeg).toNatClampNeg) (nI q)) _))) else _) = _
            rw [if_pos hqn, gd_eq (ixN (by omega) (by decide)), nI_clamp (by omega), hline, gd_eq (ixN (by omega) (by decide)), nI_clamp (by omega), hx _ (by omega), ob_eq (Mo_has_eq hmx (by omega)), hb]
            show (if (1 : Int32) = 0 then _ else (gd (ix (12 * nI p + nI q) 144) (if far' (12 * nI p + nI q).toNatClampNeg = -2 then (gd (ix (nI k) 12) (gd (ix (12 * nI p + line' k) 144) (gd (ix (12 * nI p + nI q) 144) (gd (ix (nI L'.length) 12) (some (Sum.inl (nI L'.length + 1, nI q + 1, upd far' (12 * nI p + nI q).toNatClampNeg (far' (12 * nI p + line' k).toNatClampNeg + 1), upd line' (nI L'.length).toNatClampNeg (nI q)))))))) else _))) = _
            rw [hline, if_neg one_ne0, row12', gd_eq (ixN (by omega) (by decide)), nI_clamp (by omega), if_pos hf, gd_eq (ixN (by omega) (by decide)), row12', gd_eq (ixN (by omega) (by decide)), gd_eq (ixN (by omega) (by decide)), gd_eq (ixN hl12 (by decide)), nI_clamp (by omega), nI_clamp (by omega)]
            show some (Sum.inl (nI L'.length + nI 1, nI q + nI 1, _, _)) = _
            rw [nI_ad, nI_ad]
          · rw [hgk] at hb2
            by_cases e : r = q
            · subst e; simp
            · exact List.mem_append_left _ (ha r (by omega) hb2))
    (by
      rintro s ⟨L', far', line', rfl, hQ, hl, ha⟩
      refine ⟨_, ?_, L', far', line', rfl, hQ, hl, fun r hb => ha r (bit_lt (hg.2.1 _) hb) hb⟩
      unfold Mo_laysStepsFrom_L58
      show (if nI n < nI n then _ else _) = _
      rw [if_neg (fun h => absurd ((nI_ltN (by omega) (by omega)).mp h) (by omega))])
    0 (nI L.length, 0, far, line) (by omega) ⟨L, far, line, rfl, h, Nat.le_refl _, fun r hr => by omega⟩
  obtain ⟨L', far', line', rfl, h3, h4, h5⟩ := h2
  exact ⟨L', far', line', h1, h3, h4, h5⟩
theorem Qok.next {L : List Nat} {k : Nat} {far line f0 : Nat → Int32} (h : Qok n nx p L k far line f0) (hk : k < L.length) (ha : ∀ r, (nx (L.getD k 0)).testBit r = true → r ∈ L) : Qok n nx p L (k + 1) far line f0 := by
  obtain ⟨h1, h2, h3, h4, h5, h6, h7, h8, h9, h10⟩ := h
  refine ⟨h1, h2, h3, h4, h5, h6, h7, fun hk2 q hq => ?_, fun i hi hil r hr => ?_, h10⟩
  · have := h8 hk q hq
    have := h7 k (k + 1) (by omega) hk2
    omega
  · by_cases e : i = k
    · subst e; exact ha r hr
    · exact h9 i (by omega) hil r hr
theorem Qok.done {L : List Nat} {far line f0 : Nat → Int32} (hp : p < n) (hg : GoodG n nx) (h : Qok n nx p L L.length far line f0) {q : Nat} (hq : q < n) : far (12 * p + q) = dI n nx p q := by
  obtain ⟨h1, h2, h3, h4, h5, h6, h7, h8, h9, h10⟩ := h
  have n12 := hg.1
  have hall : ∀ (i r : Nat), lev n nx p i r = true → r ∈ L := by
    intro i
    induction i with
    | zero =>
      intro r hr
      have : r = p := by simpa [lev] using hr
      rw [this]; exact h3
    | succ i ih =>
      intro r hr
      rw [lev_succ, Bool.and_eq_true] at hr
      obtain ⟨s, s1, s2⟩ := List.any_eq_true.mp hr.1
      rw [Bool.and_eq_true] at s2
      obtain ⟨j, j1, j2⟩ := mem_getD (ih s s2.1)
      exact h9 j j1 j1 r (by rw [j2]; exact s2.2)
  rw [h5 q (by omega)]
  by_cases hm : q ∈ L
  · rw [if_pos hm]
  · rw [if_neg hm]
    rcases dI_cases hp hg hq with ⟨j, -, h11, -⟩ | ⟨-, h11⟩
    · exact absurd (hall j q h11) hm
    · rw [h11]
def rowM2 (f : Nat → Int32) (p k : Nat) : Nat → Int32 := fun j => if 12 * p ≤ j ∧ j < 12 * p + k then -2 else f j
theorem rowM2_succ (f : Nat → Int32) (p k : Nat) : upd (rowM2 f p k) (12 * p + k) (-2) = rowM2 f p (k + 1) := by
  funext j
  unfold upd rowM2
  by_cases e : j = 12 * p + k
  · subst e; rw [if_pos rfl, if_pos (by omega)]
  · rw [if_neg e]
    by_cases h : 12 * p ≤ j ∧ j < 12 * p + k
    · rw [if_pos h, if_pos (by omega)]
    · rw [if_neg h, if_neg (by omega)]
theorem laysStepsFrom_ok (hp : p < n) (hg : GoodG n nx) (hx : ∀ w, w < 12 → nextTo w = nI (nx w)) (f0 line0 : Nat → Int32) :
    ∃ far' line', Mo_laysStepsFrom nextTo (nI n) f0 line0 (nI p) = some (far', line') ∧ (∀ q, q < n → far' (12 * p + q) = dI n nx p q) ∧ ∀ i, ¬ (12 * p ≤ i ∧ i < 12 * p + 12) → far' i = f0 i := by
  have n12 := hg.1
  have e1 : lp (Mo_laysStepsFrom_L2 (nI p)) (0, f0) = some (rowM2 f0 p 12) := by
    have := lp_run (f := Mo_laysStepsFrom_L2 (nI p)) (fun k => (nI k, rowM2 f0 p k)) 12 (r := rowM2 f0 p 12) (fun k hk => ?_) ?_
    · rw [show rowM2 f0 p 0 = f0 from funext fun j => if_neg (by omega)] at this; exact this
    · unfold Mo_laysStepsFrom_L2
      show (if nI k < nI 12 then (gd (ix (12 * nI p + nI k) 144) (some (Sum.inl (nI k + nI 1, upd (rowM2 f0 p k) (12 * nI p + nI k).toNatClampNeg (-2))))) else _) = _
      rw [if_pos ((nI_ltN (by omega) (by decide)).mpr hk), row12', gd_eq (ixN (by omega) (by decide)), nI_clamp (by omega), nI_ad, rowM2_succ]
    · rfl
  have lp0 : lev n nx p 0 p = true := by simp [lev]
  have d0 := dN_lev (n := n) (nx := nx) (p := p) (q := p) (by omega) lp0
  have hQ0 : Qok n nx p [p] 0 (upd (rowM2 f0 p 12) (12 * p + p) 0) (upd line0 0 (nI p)) f0 := by
    refine ⟨by simp, fun q hq => by have : q = p := by simpa using hq
                                    omega, by simp, fun i hi => ?_, fun q hq => ?_, fun q hq => ?_, fun i j hij hj => ?_, fun _ q hq => ?_, fun i hi => by omega, fun i hi => ?_⟩
    · have : i = 0 := by simpa using hi
      subst this; exact upd_at _ _ _
    · by_cases e : q = p
      · subst e; rw [upd_at, if_pos (by simp), d0.2]; rfl
      · rw [upd_ne (by omega), if_neg (by simpa using e)]
        exact if_pos (by omega)
    · have : q = p := by simpa using hq
      rw [this, d0.1]; exact lp0
    · have : j = 0 := by simpa using hj
      have : i = 0 := by omega
      subst this; subst_vars; exact Nat.le_refl _
    · have : q = p := by simpa using hq
      subst this
      show dN n nx q q ≤ dN n nx q q + 1
      omega
    · rw [upd_ne (by omega)]; exact if_neg hi
  obtain ⟨r, h1, h2⟩ := lp_inv (f := Mo_laysStepsFrom_L50 (nI p) nextTo (nI n))
    (fun k s => ∃ (L : List Nat) (far line : Nat → Int32), s = (nI L.length, nI k, far, line) ∧ k ≤ L.length ∧ Qok n nx p L k far line f0) 12
    (fun r => (∀ q, q < n → r.1 (12 * p + q) = dI n nx p q) ∧ ∀ i, ¬ (12 * p ≤ i ∧ i < 12 * p + 12) → r.1 i = f0 i)
    (by
      rintro k s hk ⟨L, far, line, rfl, hkl, hQ⟩
      have hlen := nodup_len hQ.1 hQ.2.1
      by_cases e : k < L.length
      · left
        obtain ⟨L', far', line', q1, q2, q3, q4⟩ := bfs_inner hp hg hx hQ e
        refine ⟨(nI L'.length, nI (k + 1), far', line'), ?_, L', far', line', rfl, by omega, q2.next (by omega) q4⟩
        unfold Mo_laysStepsFrom_L50
        show (if nI k < nI L.length then (ob (lp (Mo_laysStepsFrom_L58 (nI p) (nI k) nextTo (nI n)) (nI L.length, 0, far, line)) _) else _) = _
        rw [if_pos ((nI_ltN (by omega) (by omega)).mpr e), ob_eq q1]
        show some (Sum.inl (nI L'.length, nI k + nI 1, far', line')) = _
        rw [nI_ad]
      · right
        have hk2 : k = L.length := by omega
        subst hk2
        refine ⟨(far, line), ?_, fun q hq => hQ.done hp hg hq, hQ.2.2.2.2.2.2.2.2.2⟩
        unfold Mo_laysStepsFrom_L50
        show (if nI L.length < nI L.length then _ else _) = _
        rw [if_neg (fun h => absurd ((nI_ltN (by omega) (by omega)).mp h) (by omega))])
    (by
      rintro s ⟨L, far, line, rfl, hkl, hQ⟩
      have hlen := nodup_len hQ.1 hQ.2.1
      have hk2 : L.length = 12 := by omega
      have hQ' : Qok n nx p L L.length far line f0 := by rw [hk2]; exact hQ
      refine ⟨(far, line), ?_, fun q hq => hQ'.done hp hg hq, hQ.2.2.2.2.2.2.2.2.2⟩
      unfold Mo_laysStepsFrom_L50
      show (if nI 12 < nI L.length then _ else _) = _
      rw [if_neg (fun h => absurd ((nI_ltN (by omega) (by omega)).mp h) (by omega))])
    0 (1, 0, upd (rowM2 f0 p 12) (12 * p + p) 0, upd line0 0 (nI p)) (by omega) ⟨[p], _, _, rfl, by simp, hQ0⟩
  refine ⟨r.1, r.2, ?_, h2.1, h2.2⟩
  unfold Mo_laysStepsFrom
  rw [ob_eq e1, row12', gd_eq (ixN (by omega) (by decide)), gd_eq (show ix 0 12 = true from rfl), nI_clamp (by omega)]
  exact (ob_eq h1).trans rfl
end BFS2
