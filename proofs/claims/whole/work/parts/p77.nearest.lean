/-! THE NEAREST FIRST: wells from which there is a way -/
def nlV (n : Nat) (nx : Nat → Nat) (t w : Nat) : Nat → List (Nat × Nat)
  | 0 => []
  | v + 1 => nlV n nx t w v ++ if lev n nx t w v then [(v, w)] else []
def nlW (n : Nat) (nx : Nat → Nat) (t : Nat) : Nat → List (Nat × Nat)
  | 0 => []
  | k + 1 => nlW n nx t k ++ nlV n nx t (k + 1) n
theorem wt_app {h : Nat → Nat} (l l' : List (Nat × Nat)) : wtS (l ++ l') h = wtS l h + wtS l' h := by
  induction l with
  | nil => simp [wtS]
  | cons p l ih => show _ + wtS (l ++ l') h = _ + wtS l h + _; omega
theorem sz_app {h : Nat → Nat} (l l' : List (Nat × Nat)) : szS (l ++ l') h = szS l h + szS l' h := by
  induction l with
  | nil => simp [szS]
  | cons p l ih => show _ + szS (l ++ l') h = _ + szS l h + _; omega
theorem up_app {w0 w1 : Nat} {l' : List (Nat × Nat)} : ∀ {l : List (Nat × Nat)}, upS w0 l → (∀ p ∈ l, p.2 ≤ w1) → w0 ≤ w1 → upS w1 l' → upS w0 (l ++ l') := by
  intro l
  induction l generalizing w0 with
  | nil =>
    intro _ _ h2 h3
    cases l' with
    | nil => trivial
    | cons q l' => exact ⟨Nat.le_trans h2 h3.1, h3.2⟩
  | cons p l ih => exact fun h1 h2 h3 h4 => ⟨h1.1, ih h1.2 (fun q hq => h2 q (List.mem_cons_of_mem _ hq)) (h2 p (List.mem_cons_self)) h4⟩
theorem up_const {w : Nat} : ∀ {l : List (Nat × Nat)}, (∀ p ∈ l, p.2 = w) → upS w l := by
  intro l
  induction l with
  | nil => intro _; trivial
  | cons p l ih => exact fun h => ⟨by rw [h p (List.mem_cons_self)]; exact Nat.le_refl _, by rw [h p (List.mem_cons_self)]; exact ih (fun q hq => h q (List.mem_cons_of_mem _ hq))⟩
section NEA
variable {n : Nat} {nx : Nat → Nat} {t : Nat}
theorem nlV_mem {w : Nat} {p : Nat × Nat} : ∀ {k : Nat}, p ∈ nlV n nx t w k → p.1 < k ∧ p.2 = w ∧ lev n nx t w p.1 = true := by
  intro k
  induction k with
  | zero => intro h; cases h
  | succ k ih =>
    intro h
    rcases List.mem_append.mp h with z | z
    · have := ih z
      exact ⟨by omega, this.2⟩
    · cases hb : lev n nx t w k with
      | false => rw [hb] at z; cases z
      | true =>
        rw [hb] at z
        have : p = (k, w) := by simpa using z
        subst this
        exact ⟨Nat.lt_succ_self _, rfl, hb⟩
theorem nlW_mem {p : Nat × Nat} : ∀ {k : Nat}, p ∈ nlW n nx t k → p.1 < n ∧ 1 ≤ p.2 ∧ p.2 ≤ k ∧ lev n nx t p.2 p.1 = true := by
  intro k
  induction k with
  | zero => intro h; cases h
  | succ k ih =>
    intro h
    rcases List.mem_append.mp h with z | z
    · have := ih z
      exact ⟨this.1, this.2.1, by omega, this.2.2.2⟩
    · obtain ⟨h1, h2, h3⟩ := nlV_mem z
      rw [h2]
      exact ⟨h1, by omega, Nat.le_refl _, h3⟩
theorem nlW_up : ∀ k, upS 1 (nlW n nx t k) := by
  intro k
  induction k with
  | zero => trivial
  | succ k ih => exact up_app (w1 := k + 1) ih (fun p hp => by have := nlW_mem hp; omega) (by omega) (up_const (fun p hp => (nlV_mem hp).2.1))
theorem lev_uniq {k k' q : Nat} (h : lev n nx t k q = true) (h' : lev n nx t k' q = true) : k = k' := by
  have key : ∀ {a b : Nat}, lev n nx t a q = true → lev n nx t b q = true → ¬ a < b := by
    intro a b ha hb hab
    have h1 := lev_near hb
    obtain ⟨c, rfl⟩ : ∃ c, b = c + 1 := ⟨b - 1, by omega⟩
    have h2 : ball n nx t c q = false := h1
    rw [ball_le (show a ≤ c by omega) (lev_ball ha)] at h2
    cases h2
  have h1 := key h h'
  have h2 := key h' h
  omega
theorem nlV_e {w c : Nat} : ∀ k, szS (nlV n nx t w k) (eS c) = (if c < k ∧ lev n nx t w c = true then 1 else 0) ∧ wtS (nlV n nx t w k) (eS c) = (if c < k ∧ lev n nx t w c = true then 2 ^ (7 - w) else 0) := by
  intro k
  induction k with
  | zero => rw [if_neg (by omega), if_neg (by omega)]; exact ⟨rfl, rfl⟩
  | succ k ih =>
    obtain ⟨i1, i2⟩ := ih
    show szS (nlV n nx t w k ++ _) (eS c) = _ ∧ wtS (nlV n nx t w k ++ _) (eS c) = _
    rw [sz_app, wt_app, i1, i2]
    cases hb : lev n nx t w k with
    | false =>
      have e : (c < k + 1 ∧ lev n nx t w c = true) ↔ (c < k ∧ lev n nx t w c = true) := by
        constructor
        · rintro ⟨z1, z2⟩
          refine ⟨?_, z2⟩
          by_cases y : c = k
          · subst y; rw [hb] at z2; cases z2
          · omega
        · exact fun z => ⟨by omega, z.2⟩
      rw [if_neg (show ¬ (false = true) by decide)]
      by_cases z : c < k ∧ lev n nx t w c = true
      · rw [if_pos z, if_pos z, if_pos (e.mpr z), if_pos (e.mpr z)]; exact ⟨rfl, rfl⟩
      · rw [if_neg z, if_neg z, if_neg (fun y => z (e.mp y)), if_neg (fun y => z (e.mp y))]; exact ⟨rfl, rfl⟩
    | true =>
      rw [if_pos (show (true = true) from rfl)]
      by_cases y : c = k
      · subst y
        rw [if_neg (show ¬ (c < c ∧ lev n nx t w c = true) from fun z => absurd z.1 (Nat.lt_irrefl _)), if_neg (show ¬ (c < c ∧ lev n nx t w c = true) from fun z => absurd z.1 (Nat.lt_irrefl _)), if_pos (show c < c + 1 ∧ lev n nx t w c = true from ⟨Nat.lt_succ_self _, hb⟩), if_pos (show c < c + 1 ∧ lev n nx t w c = true from ⟨Nat.lt_succ_self _, hb⟩)]
        have : eS c c = 1 := atS_at _ _ _
        refine ⟨?_, ?_⟩
        · show 0 + (eS c c + 0) = 1
          omega
        · show 0 + (eS c c * 2 ^ (7 - w) + 0) = _
          rw [this]; omega
      · have : eS c k = 0 := atS_ne (by omega)
        have e1 : szS [(k, w)] (eS c) = 0 := this
        have e2 : wtS [(k, w)] (eS c) = 0 := by
          show eS c k * _ + 0 = 0
          rw [this]; omega
        rw [e1, e2]
        have e : (c < k + 1 ∧ lev n nx t w c = true) ↔ (c < k ∧ lev n nx t w c = true) := ⟨fun z => ⟨by omega, z.2⟩, fun z => ⟨by omega, z.2⟩⟩
        by_cases z : c < k ∧ lev n nx t w c = true
        · rw [if_pos z, if_pos z, if_pos (e.mpr z), if_pos (e.mpr z)]; exact ⟨rfl, rfl⟩
        · rw [if_neg z, if_neg z, if_neg (fun y => z (e.mp y)), if_neg (fun y => z (e.mp y))]; exact ⟨rfl, rfl⟩
theorem nlW_no {c : Nat} : ∀ k, (∀ w, 1 ≤ w → w ≤ k → lev n nx t w c = false) → szS (nlW n nx t k) (eS c) = 0 ∧ wtS (nlW n nx t k) (eS c) = 0 := by
  intro k
  induction k with
  | zero => intro _; exact ⟨rfl, rfl⟩
  | succ k ih =>
    intro h
    obtain ⟨i1, i2⟩ := ih (fun w h1 h2 => h w h1 (by omega))
    obtain ⟨j1, j2⟩ := nlV_e (n := n) (nx := nx) (t := t) (w := k + 1) (c := c) n
    have hn : ¬ (c < n ∧ lev n nx t (k + 1) c = true) := fun z => by rw [h (k + 1) (by omega) (Nat.le_refl _)] at z; cases z.2
    rw [if_neg hn] at j1 j2
    show szS (nlW n nx t k ++ _) (eS c) = _ ∧ wtS (nlW n nx t k ++ _) (eS c) = _
    rw [sz_app, wt_app, i1, i2, j1, j2]
    exact ⟨rfl, rfl⟩
theorem nlW_yes {c w : Nat} (hc : c < n) (hw : lev n nx t w c = true) (h1 : 1 ≤ w) : ∀ {k}, w ≤ k → szS (nlW n nx t k) (eS c) = 1 ∧ wtS (nlW n nx t k) (eS c) = 2 ^ (7 - w) := by
  intro k
  induction k with
  | zero => intro h; omega
  | succ k ih =>
    intro h
    obtain ⟨j1, j2⟩ := nlV_e (n := n) (nx := nx) (t := t) (w := k + 1) (c := c) n
    show szS (nlW n nx t k ++ _) (eS c) = _ ∧ wtS (nlW n nx t k ++ _) (eS c) = _
    rw [sz_app, wt_app, j1, j2]
    by_cases e : w = k + 1
    · obtain ⟨i1, i2⟩ := nlW_no (n := n) (nx := nx) (t := t) (c := c) k (fun w' a b => by
        cases z : lev n nx t w' c with
        | false => rfl
        | true => have := lev_uniq hw z; omega)
      subst e
      rw [i1, i2, if_pos ⟨hc, hw⟩, if_pos ⟨hc, hw⟩]
      exact ⟨rfl, Nat.zero_add _⟩
    · have hn : ¬ (c < n ∧ lev n nx t (k + 1) c = true) := fun z => by have := lev_uniq hw z.2; omega
      obtain ⟨i1, i2⟩ := ih (by omega)
      rw [if_neg hn, if_neg hn, i1, i2]
      exact ⟨rfl, rfl⟩
theorem nlW_one (c : Nat) (k : Nat) : szS (nlW n nx t k) (eS c) ≤ 1 := by
  by_cases h : ∃ w, 1 ≤ w ∧ w ≤ k ∧ lev n nx t w c = true
  · obtain ⟨w, h1, h2, h3⟩ := h
    by_cases hc : c < n
    · rw [(nlW_yes hc h3 h1 h2).1]; exact Nat.le_refl _
    · have key : ∀ (l : List (Nat × Nat)), (∀ p ∈ l, p.1 < n) → szS l (eS c) = 0 := by
        intro l
        induction l with
        | nil => intro _; rfl
        | cons p l ih =>
          intro hp
          show eS c p.1 + szS l (eS c) = 0
          rw [ih (fun q hq => hp q (List.mem_cons_of_mem _ hq)), show eS c p.1 = 0 from atS_ne (by have := hp p (List.mem_cons_self); omega)]
      rw [key _ (fun p hp => (nlW_mem hp).1)]
      omega
  · rw [(nlW_no k (fun w h1 h2 => by
      cases z : lev n nx t w c with
      | false => rfl
      | true => exact absurd ⟨w, h1, h2, z⟩ h)).1]
    omega
theorem tot_add (f g : Nat → Nat) : ∀ k, totS (fun c => f c + g c) k = totS f k + totS g k := by
  intro k
  induction k with
  | zero => rfl
  | succ k ih => show totS _ k + (f k + g k) = totS f k + f k + (totS g k + g k); omega
theorem tot_e {v : Nat} : ∀ {k}, v < k → totS (fun c => eS c v) k = 1 := by
  have z : ∀ k, k ≤ v → totS (fun c => eS c v) k = 0 := by
    intro k
    induction k with
    | zero => intro _; rfl
    | succ k ih =>
      intro h
      show totS _ k + eS k v = 0
      rw [ih (by omega), show eS k v = 0 from atS_ne (by omega)]
  intro k
  induction k with
  | zero => intro h; omega
  | succ k ih =>
    intro h
    show totS _ k + eS k v = 1
    by_cases e : v = k
    · subst e
      rw [z v (Nat.le_refl _), show eS v v = 1 from atS_at _ _ _]
    · rw [ih (by omega), show eS k v = 0 from atS_ne e]
theorem len_tot {m : Nat} : ∀ (l : List (Nat × Nat)), (∀ p ∈ l, p.1 < m) → totS (fun c => szS l (eS c)) m = l.length := by
  intro l
  induction l with
  | nil =>
    intro _
    have key : ∀ k, totS (fun c => szS [] (eS c)) k = 0 := by
      intro k
      induction k with
      | zero => rfl
      | succ k ih => show totS (fun c => szS [] (eS c)) k + 0 = 0; rw [ih]
    exact key m
  | cons p l ih =>
    intro hp
    have e : (fun c => szS (p :: l) (eS c)) = fun c => eS c p.1 + szS l (eS c) := rfl
    rw [e, tot_add, tot_e (hp p (List.mem_cons_self)), ih (fun q hq => hp q (List.mem_cons_of_mem _ hq))]
    show _ = l.length + 1
    omega
theorem tot_le1 {f : Nat → Nat} (h : ∀ c, f c ≤ 1) : ∀ k, totS f k ≤ k := by
  intro k
  induction k with
  | zero => exact Nat.le_refl _
  | succ k ih => show totS f k + f k ≤ k + 1; have := h k; omega
theorem nlW_len (k : Nat) : (nlW n nx t k).length ≤ n := by
  rw [← len_tot (m := n) _ (fun p hp => (nlW_mem hp).1)]
  exact tot_le1 (fun c => nlW_one c k) n
/-- what is next to a well weighs at least half as much -/
theorem wt_next (hG : GoodG n nx) (ht : t < n) {a c : Nat} (ha : a < n) (hc : c < n) (hat : ¬ a = t) (hb : (nx a).testBit c = true) : wtS (nlW n nx t (n - 1)) (eS c) ≤ 2 * wtS (nlW n nx t (n - 1)) (eS a) := by
  by_cases h : ∃ w, 1 ≤ w ∧ w ≤ n - 1 ∧ lev n nx t w c = true
  · obtain ⟨w, h1, h2, h3⟩ := h
    have hba : ball n nx t (w + 1) a = true := ball_step hc (lev_ball h3) (by rw [hG.2.2.2.1]; exact hb)
    obtain ⟨j, j1, j2⟩ := lev_or (w + 1) hba
    have j3 := lev_lt ht hG ha j2
    have j4 : 1 ≤ j := by
      by_cases e : j = 0
      · subst e
        have : decide (a = t) = true := j2
        exact absurd (of_decide_eq_true this) hat
      · omega
    rw [(nlW_yes hc h3 h1 h2).2, (nlW_yes ha j2 j4 (by omega)).2]
    have : 2 ^ (7 - w) ≤ 2 ^ (7 - j + 1) := Nat.pow_le_pow_right (by omega) (by omega)
    rw [Nat.pow_succ] at this
    omega
  · rw [(nlW_no (n - 1) (fun w h1 h2 => by
      cases z : lev n nx t w c with
      | false => rfl
      | true => exact absurd ⟨w, h1, h2, z⟩ h)).2]
    omega
theorem wt_aim (hG : GoodG n nx) (ht : t < n) {a : Nat} (ha : a < n) (hb : (nx a).testBit t = true) : wtS (nlW n nx t (n - 1)) (eS a) = 64 ∧ szS (nlW n nx t (n - 1)) (eS a) = 1 ∧ ¬ a = t := by
  have hat : ¬ a = t := fun e => by subst e; rw [hG.2.2.2.2] at hb; cases hb
  have hba : ball n nx t 1 a = true := ball_step ht (show ball n nx t 0 t = true from decide_eq_true rfl) (by rw [hG.2.2.2.1]; exact hb)
  obtain ⟨j, j1, j2⟩ := lev_or 1 hba
  have j4 : j = 1 := by
    by_cases e : j = 0
    · subst e
      have : decide (a = t) = true := j2
      exact absurd (of_decide_eq_true this) hat
    · omega
  subst j4
  have := nlW_yes ha j2 (Nat.le_refl _) (k := n - 1) (by omega)
  exact ⟨this.2, this.1, hat⟩
/-- the aim itself isn't among them -/
theorem nl_aim {p : Nat × Nat} {k : Nat} (hp : p ∈ nlW n nx t k) : ¬ p.1 = t := fun e => by
  obtain ⟨-, h1, -, h2⟩ := nlW_mem hp
  have h3 : lev n nx t 0 p.1 = true := decide_eq_true e
  have := lev_uniq h2 h3
  omega
end NEA
