/-! LAYINGS AS BITS: each well has its own width -/
def pcS (dd g : Nat → Nat) : Nat → Nat
  | 0 => 0
  | k + 1 => pcS dd g k + g k * 2 ^ totS dd k
section PLC
variable {dd g : Nat → Nat}
theorem pc_lt : ∀ {k : Nat}, (∀ v, v < k → g v < 2 ^ dd v) → pcS dd g k < 2 ^ totS dd k := by
  intro k
  induction k with
  | zero => intro _; exact Nat.one_pos
  | succ k ih =>
    intro h
    have h1 := ih (fun v hv => h v (by omega))
    have h2 := h k (by omega)
    show pcS dd g k + g k * 2 ^ totS dd k < 2 ^ (totS dd k + dd k)
    rw [Nat.pow_add, Nat.mul_comm (2 ^ totS dd k)]
    have h3 := Nat.mul_le_mul_right (2 ^ totS dd k) (show g k + 1 ≤ 2 ^ dd k from h2)
    rw [Nat.add_mul, Nat.one_mul] at h3
    omega
theorem tot_split {v k : Nat} (h : v < k) : ∃ r, totS dd k = totS dd v + dd v + r := by
  induction k with
  | zero => omega
  | succ k ih =>
    by_cases e : v = k
    · subst e; exact ⟨0, rfl⟩
    · obtain ⟨r, hr⟩ := ih (by omega)
      exact ⟨r + dd k, by show totS dd k + dd k = _; omega⟩
theorem pc_dig : ∀ {k v : Nat}, (∀ v, v < k → g v < 2 ^ dd v) → v < k → pcS dd g k / 2 ^ totS dd v % 2 ^ dd v = g v := by
  intro k
  induction k with
  | zero => intro v _ h; omega
  | succ k ih =>
    intro v h hv
    have h0 : ∀ v, v < k → g v < 2 ^ dd v := fun v hv => h v (by omega)
    show (pcS dd g k + g k * 2 ^ totS dd k) / 2 ^ totS dd v % 2 ^ dd v = g v
    by_cases e : v = k
    · subst e
      have h1 := pc_lt h0
      rw [Nat.add_mul_div_right _ _ (Nat.pow_pos (by omega)), Nat.div_eq_of_lt h1, Nat.zero_add, Nat.mod_eq_of_lt (h v (by omega))]
    · obtain ⟨r, hr⟩ := tot_split (dd := dd) (show v < k by omega)
      rw [hr, Nat.pow_add, Nat.pow_add, show g k * (2 ^ totS dd v * 2 ^ dd v * 2 ^ r) = (g k * 2 ^ r) * 2 ^ dd v * 2 ^ totS dd v by ac_rfl, Nat.add_mul_div_right _ _ (Nat.pow_pos (by omega)), Nat.add_mul_mod_self_right]
      exact ih h0 (by omega)
theorem pc_sur {c : Nat} : ∀ k, pcS dd (fun v => c / 2 ^ totS dd v % 2 ^ dd v) k = c % 2 ^ totS dd k := by
  intro k
  induction k with
  | zero => show 0 = c % 1; omega
  | succ k ih =>
    show pcS dd _ k + (c / 2 ^ totS dd k % 2 ^ dd k) * 2 ^ totS dd k = c % 2 ^ (totS dd k + dd k)
    rw [ih, Nat.pow_add, Nat.mod_mul, Nat.mul_comm (c / 2 ^ totS dd k % 2 ^ dd k)]
theorem pc_congr {h : Nat → Nat} : ∀ {k : Nat}, (∀ v, v < k → g v = h v) → pcS dd g k = pcS dd h k := by
  intro k
  induction k with
  | zero => intro _; rfl
  | succ k ih =>
    intro e
    show pcS dd g k + g k * _ = pcS dd h k + h k * _
    rw [ih (fun v hv => e v (by omega)), e k (by omega)]
theorem pc_far {v x : Nat} {k : Nat} (h : k ≤ v) : pcS dd (atS g v x) k = pcS dd g k := pc_congr (fun u hu => atS_ne (by omega))
theorem pc_at {v x : Nat} : ∀ {k : Nat}, v < k → pcS dd (atS g v x) k + g v * 2 ^ totS dd v = pcS dd g k + x * 2 ^ totS dd v := by
  intro k
  induction k with
  | zero => intro h; omega
  | succ k ih =>
    intro h
    show pcS dd (atS g v x) k + atS g v x k * 2 ^ totS dd k + _ = pcS dd g k + g k * 2 ^ totS dd k + _
    by_cases e : v = k
    · subst e
      rw [pc_far (Nat.le_refl _), atS_at]
      omega
    · rw [atS_ne (show ¬ k = v by omega)]
      have := ih (by omega)
      omega
/-- the highest well that differs decides -/
theorem pc_gt {h : Nat → Nat} {v : Nat} : ∀ {k : Nat}, v < k → (∀ u, u < k → h u < 2 ^ dd u) → (∀ u, v < u → u < k → g u = h u) → h v < g v → pcS dd h k < pcS dd g k := by
  intro k
  induction k with
  | zero => intro hv; omega
  | succ k ih =>
    intro hv hh he hlt
    show pcS dd h k + h k * 2 ^ totS dd k < pcS dd g k + g k * 2 ^ totS dd k
    by_cases e : v = k
    · subst e
      have h1 := pc_lt (dd := dd) (g := h) (k := v) (fun u hu => hh u (by omega))
      have h2 := Nat.mul_le_mul_right (2 ^ totS dd v) (show h v + 1 ≤ g v from hlt)
      rw [Nat.add_mul, Nat.one_mul] at h2
      omega
    · have := ih (by omega) (fun u hu => hh u (by omega)) (fun u h1 h2 => he u h1 (by omega)) hlt
      rw [he k (by omega) (by omega)]
      omega
theorem pc_inj {h : Nat → Nat} {k : Nat} (hg : ∀ v, v < k → g v < 2 ^ dd v) (hh : ∀ v, v < k → h v < 2 ^ dd v) (e : pcS dd g k = pcS dd h k) : ∀ v, v < k → g v = h v := fun v hv => by
  rw [← pc_dig hg hv, ← pc_dig hh hv, e]
end PLC
/-- backwards: the first well stands highest -/
def revS (n : Nat) (f : Nat → Nat) : Nat → Nat := fun u => f (n - 1 - u)
theorem rev_rev {n v : Nat} (hv : v < n) (f : Nat → Nat) : revS n f (n - 1 - v) = f v := by
  unfold revS
  rw [show n - 1 - (n - 1 - v) = v by omega]
theorem tot_succ_first (f : Nat → Nat) : ∀ k, totS f (k + 1) = f 0 + totS (fun u => f (u + 1)) k := by
  intro k
  induction k with
  | zero => show 0 + f 0 = f 0 + 0; omega
  | succ k ih =>
    show totS f (k + 1) + f (k + 1) = f 0 + (totS (fun u => f (u + 1)) k + f (k + 1))
    rw [ih]; omega
theorem tot_congr {f g : Nat → Nat} : ∀ {k : Nat}, (∀ v, v < k → f v = g v) → totS f k = totS g k := by
  intro k
  induction k with
  | zero => intro _; rfl
  | succ k ih =>
    intro e
    show totS f k + f k = totS g k + g k
    rw [ih (fun v hv => e v (by omega)), e k (by omega)]
theorem tot_rev (f : Nat → Nat) : ∀ n, totS (revS n f) n = totS f n := by
  intro n
  induction n with
  | zero => rfl
  | succ n ih =>
    rw [tot_succ_first]
    show revS (n + 1) f 0 + _ = totS f n + f n
    rw [show revS (n + 1) f 0 = f n by unfold revS; rw [show n + 1 - 1 - 0 = n by omega], tot_congr (g := revS n f) (fun v hv => by unfold revS; rw [show n + 1 - 1 - (v + 1) = n - 1 - v by omega]), ih]
    omega
/-- a box of layings: fewer than 2 to the width at each well -/
def BxS (n : Nat) (d g : Nat → Nat) : Prop := (∀ v, v < n → g v < 2 ^ d v) ∧ ∀ v, n ≤ v → g v = 0
def cRS (n : Nat) (d g : Nat → Nat) : Nat := pcS d g n
def cCS (n : Nat) (d g : Nat → Nat) : Nat := pcS (revS n d) (revS n g) n
/-- where a well's bits begin, in the class -/
def shC (n : Nat) (d : Nat → Nat) (v : Nat) : Nat := totS (revS n d) (n - 1 - v)
def deR (n : Nat) (d : Nat → Nat) (c : Nat) : Nat → Nat := fun v => if v < n then c / 2 ^ totS d v % 2 ^ d v else 0
section BOX
variable {n : Nat} {d g : Nat → Nat}
theorem deR_box (c : Nat) : BxS n d (deR n d c) := by
  refine ⟨fun v hv => ?_, fun v hv => ?_⟩
  · unfold deR
    rw [if_pos hv]
    exact Nat.mod_lt _ (Nat.pow_pos (by omega))
  · unfold deR
    rw [if_neg (by omega)]
theorem cR_de {c : Nat} (hc : c < 2 ^ totS d n) : cRS n d (deR n d c) = c := by
  unfold cRS
  rw [pc_congr (h := fun v => c / 2 ^ totS d v % 2 ^ d v) (fun v hv => by unfold deR; rw [if_pos hv]), pc_sur, Nat.mod_eq_of_lt hc]
theorem de_cR (h : BxS n d g) : deR n d (cRS n d g) = g := by
  funext v
  unfold deR cRS
  by_cases e : v < n
  · rw [if_pos e, pc_dig h.1 e]
  · rw [if_neg e, h.2 v (by omega)]
theorem cR_lt (h : BxS n d g) : cRS n d g < 2 ^ totS d n := pc_lt h.1
theorem cR_inj {h : Nat → Nat} (hg : BxS n d g) (hh : BxS n d h) (e : cRS n d g = cRS n d h) : g = h := by
  rw [← de_cR hg, ← de_cR hh, e]
theorem cC_lt (h : BxS n d g) : cCS n d g < 2 ^ totS d n := by
  unfold cCS
  rw [← tot_rev d n]
  exact pc_lt (fun v hv => h.1 (n - 1 - v) (by omega))
theorem cC_dig (h : BxS n d g) {v : Nat} (hv : v < n) : cCS n d g / 2 ^ shC n d v % 2 ^ d v = g v := by
  have := pc_dig (dd := revS n d) (g := revS n g) (k := n) (v := n - 1 - v) (fun u hu => h.1 (n - 1 - u) (by omega)) (by omega)
  rw [rev_rev hv, rev_rev hv] at this
  exact this
theorem cC_inj {h : Nat → Nat} (hg : BxS n d g) (hh : BxS n d h) (e : cCS n d g = cCS n d h) : g = h := by
  funext v
  by_cases z : v < n
  · rw [← cC_dig hg z, ← cC_dig hh z, e]
  · rw [hg.2 v (by omega), hh.2 v (by omega)]
theorem cC_at {v x : Nat} (hv : v < n) : cCS n d (atS g v x) + g v * 2 ^ shC n d v = cCS n d g + x * 2 ^ shC n d v := by
  have := pc_at (dd := revS n d) (g := revS n g) (v := n - 1 - v) (x := x) (k := n) (by omega)
  rw [rev_rev hv] at this
  unfold cCS shC
  rw [← this]
  congr 1
  refine pc_congr (fun u hu => ?_)
  unfold revS
  by_cases e : u = n - 1 - v
  · subst e
    rw [show n - 1 - (n - 1 - v) = v by omega, atS_at, atS_at]
  · rw [atS_ne e, atS_ne (by omega)]
theorem cR_at {v x : Nat} (hv : v < n) : cRS n d (atS g v x) + g v * 2 ^ totS d v = cRS n d g + x * 2 ^ totS d v := pc_at hv
/-- the first well that differs decides -/
theorem cC_gt {h : Nat → Nat} (hh : BxS n d h) {v : Nat} (hv : v < n) (he : ∀ u, u < v → g u = h u) (hlt : h v < g v) : cCS n d h < cCS n d g := by
  refine pc_gt (v := n - 1 - v) (by omega) (fun u hu => hh.1 (n - 1 - u) (by omega)) (fun u h1 h2 => he (n - 1 - u) (by omega)) ?_
  rw [rev_rev hv, rev_rev hv]
  exact hlt
end BOX
