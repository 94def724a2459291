/-! SYMMETRIES: layings of the wells on themselves -/
def auS (n : Nat) (nx : Nat → Nat) (σ : Nat → Nat) : Prop := (∀ w, w < n → σ w < n) ∧ (∀ a b, a < n → b < n → σ a = σ b → a = b) ∧ ∀ a b, a < n → b < n → (nx (σ a)).testBit (σ b) = (nx a).testBit b
def swS (u w : Nat) : Nat → Nat := fun x => if x = u then w else if x = w then u else x
/-- sums -/
def loF (g : Nat → Int64) : Nat → Int64
  | 0 => Int64.ofNat 0
  | k + 1 => loF g k + g k
section AUT
variable {n : Nat} {nx : Nat → Nat} {σ τ : Nat → Nat}
theorem au_id : auS n nx (fun w => w) := ⟨fun _ h => h, fun _ _ _ _ h => h, fun _ _ _ _ => rfl⟩
theorem au_comp (h : auS n nx σ) (h' : auS n nx τ) : auS n nx (fun w => σ (τ w)) :=
  ⟨fun w hw => h.1 _ (h'.1 w hw), fun a b ha hb e => h'.2.1 a b ha hb (h.2.1 _ _ (h'.1 a ha) (h'.1 b hb) e), fun a b ha hb => (h.2.2 _ _ (h'.1 a ha) (h'.1 b hb)).trans (h'.2.2 a b ha hb)⟩
/-- as many places as wells -/
theorem inj_onto {f : Nat → Nat} (h1 : ∀ w, w < n → f w < n) (h2 : ∀ a b, a < n → b < n → f a = f b → a = b) {y : Nat} (hy : y < n) : ∃ x, x < n ∧ f x = y := by
  refine Classical.byContradiction (fun hno => ?_)
  have hd : (y :: (List.range n).map f).Nodup := by
    rw [List.nodup_cons]
    refine ⟨fun hm => ?_, nodup_map_inj (fun i j hij hj e => by have := h2 i j (by omega) hj e; omega)⟩
    obtain ⟨x, x1, x2⟩ := List.mem_map.mp hm
    exact hno ⟨x, List.mem_range.mp x1, x2⟩
  have hs : (y :: (List.range n).map f) ⊆ List.range n := fun z hz => by
    rcases List.mem_cons.mp hz with e | hm
    · rw [e]; exact List.mem_range.mpr hy
    · obtain ⟨x, x1, x2⟩ := List.mem_map.mp hm
      rw [← x2]; exact List.mem_range.mpr (h1 x (List.mem_range.mp x1))
  have := List.Nodup.length_le_of_subset hd hs
  rw [List.length_cons, List.length_map, List.length_range] at this
  omega
theorem au_inv (h : auS n nx σ) : ∃ τ, auS n nx τ ∧ (∀ w, w < n → τ (σ w) = w) ∧ ∀ w, w < n → σ (τ w) = w := by
  have hx : ∀ y, ∃ x, y < n → x < n ∧ σ x = y := fun y => by
    by_cases hy : y < n
    · obtain ⟨x, h1⟩ := inj_onto h.1 h.2.1 hy
      exact ⟨x, fun _ => h1⟩
    · exact ⟨0, fun z => absurd z hy⟩
  obtain ⟨τ, ht⟩ := Classical.axiomOfChoice hx
  have l : ∀ w, w < n → τ (σ w) = w := fun w hw => h.2.1 _ _ (ht _ (h.1 w hw)).1 hw (ht _ (h.1 w hw)).2
  refine ⟨τ, ⟨fun w hw => (ht w hw).1, fun a b ha hb e => (ht a ha).2.symm.trans ((congrArg σ e).trans (ht b hb).2), fun a b ha hb => ?_⟩, l, fun w hw => (ht w hw).2⟩
  have := h.2.2 (τ a) (τ b) (ht a ha).1 (ht b hb).1
  rw [(ht a ha).2, (ht b hb).2] at this
  exact this.symm
/-- two that change places -/
theorem sw_u {u w : Nat} : swS u w u = w := if_pos rfl
theorem sw_w {u w : Nat} : swS u w w = u := by
  unfold swS
  by_cases e : w = u
  · rw [if_pos e]; exact e
  · rw [if_neg e, if_pos rfl]
theorem sw_o {u w x : Nat} (h1 : ¬ x = u) (h2 : ¬ x = w) : swS u w x = x := by
  unfold swS
  rw [if_neg h1, if_neg h2]
theorem au_sw (hG : GoodG n nx) {u w : Nat} (hu : u < n) (hw : w < n) (ht : ∀ x, ¬ x = u → ¬ x = w → (nx u).testBit x = (nx w).testBit x) : auS n nx (swS u w) := by
  have hsy := hG.2.2.2.1
  have hir := hG.2.2.2.2
  have hinv : ∀ x, swS u w (swS u w x) = x := fun x => by
    by_cases e1 : x = u
    · rw [e1, sw_u, sw_w]
    · by_cases e2 : x = w
      · rw [e2, sw_w, sw_u]
      · rw [sw_o e1 e2, sw_o e1 e2]
  refine ⟨fun x hx => ?_, fun a b _ _ e => ?_, fun a b _ _ => ?_⟩
  · by_cases e1 : x = u
    · rw [e1, sw_u]; exact hw
    · by_cases e2 : x = w
      · rw [e2, sw_w]; exact hu
      · rw [sw_o e1 e2]; exact hx
  · have := congrArg (swS u w) e
    rw [hinv, hinv] at this
    exact this
  · by_cases a1 : a = u
    · rw [a1, sw_u]
      by_cases b1 : b = u
      · rw [b1, sw_u, hir, hir]
      · by_cases b2 : b = w
        · rw [b2, sw_w]; exact hsy w u
        · rw [sw_o b1 b2]; exact (ht b b1 b2).symm
    · by_cases a2 : a = w
      · rw [a2, sw_w]
        by_cases b1 : b = u
        · rw [b1, sw_u]; exact hsy u w
        · by_cases b2 : b = w
          · rw [b2, sw_w, hir, hir]
          · rw [sw_o b1 b2]; exact ht b b1 b2
      · rw [sw_o a1 a2]
        by_cases b1 : b = u
        · rw [b1, sw_u, hsy a w, hsy a u]; exact (ht a a1 a2).symm
        · by_cases b2 : b = w
          · rw [b2, sw_w, hsy a w, hsy a u]; exact ht a a1 a2
          · rw [sw_o b1 b2]
/-- steps stay -/
theorem ball_au (h : auS n nx σ) {p : Nat} (hp : p < n) : ∀ k q, q < n → ball n nx p k q = true → ball n nx (σ p) k (σ q) = true := by
  intro k
  induction k with
  | zero =>
    intro q hq hb
    have : q = p := of_decide_eq_true hb
    rw [this]
    exact decide_eq_true rfl
  | succ k ih =>
    intro q hq hb
    rcases ball_inv hb with hb | ⟨r, r1, r2, r3⟩
    · exact ball_mono (ih q hq hb)
    · exact ball_step (h.1 r r1) (ih r r1 r2) ((h.2.2 r q r1 hq).trans r3)
theorem dI_au (h : auS n nx σ) {p q : Nat} (hp : p < n) (hq : q < n) : dI n nx (σ p) (σ q) = dI n nx p q := by
  have hb : ∀ k, ball n nx (σ p) k (σ q) = ball n nx p k q := fun k => by
    obtain ⟨τ, t1, t2, t3⟩ := au_inv h
    cases hb : ball n nx p k q with
    | true => exact ball_au h hp k q hq hb
    | false =>
      cases hb2 : ball n nx (σ p) k (σ q) with
      | false => rfl
      | true =>
        have := ball_au t1 (h.1 p hp) k (σ q) (h.1 q hq) hb2
        rw [t2 p hp, t2 q hq, hb] at this
        cases this
  unfold dI
  rw [show (fun k => ball n nx (σ p) k (σ q)) = fun k => ball n nx p k q from funext hb]
theorem loF_congr {g g' : Nat → Int64} : ∀ {k : Nat}, (∀ u, u < k → g u = g' u) → loF g k = loF g' k := by
  intro k
  induction k with
  | zero => intro _; rfl
  | succ k ih =>
    intro h
    show loF g k + g k = loF g' k + g' k
    rw [ih (fun u hu => h u (by omega)), h k (by omega)]
theorem loF_list (g : Nat → Int64) : ∀ k, loF g k = (List.range k).foldl (fun a u => a + g u) (Int64.ofNat 0) := by
  intro k
  induction k with
  | zero => rfl
  | succ k ih =>
    rw [List.range_succ, List.foldl_append]
    show loF g k + g k = _
    rw [ih]
    rfl
theorem loF_au (h : auS n nx σ) (g : Nat → Int64) : loF (fun u => g (σ u)) n = loF g n := by
  rw [loF_list, loF_list]
  have hp : ((List.range n).map σ).Perm (List.range n) := by
    rw [List.perm_ext_iff_of_nodup (nodup_map_inj (fun i j hij hj e => by have := h.2.1 i j (by omega) hj e; omega)) List.nodup_range]
    intro a
    rw [List.mem_map, List.mem_range]
    constructor
    · rintro ⟨x, x1, x2⟩
      rw [← x2]; exact h.1 x (List.mem_range.mp x1)
    · intro ha
      obtain ⟨x, x1, x2⟩ := inj_onto h.1 h.2.1 ha
      exact ⟨x, List.mem_range.mpr x1, x2⟩
  have := List.Perm.foldl_eq' (f := fun (a : Int64) u => a + g u) hp (fun x _ y _ z => by
    show z + g x + g y = z + g y + g x
    rw [Int64.add_assoc, Int64.add_comm (g x), ← Int64.add_assoc]) (Int64.ofNat 0)
  rw [List.foldl_map] at this
  exact this
def hoI (d : Int32) : Int64 := if d < 0 then Int64.ofNat 0 else jLs (Int64.ofNat 1) (4 * d)
def loS (n : Nat) (nx : Nat → Nat) (v : Nat) : Int64 := loF (fun u => hoI (dI n nx v u)) n
theorem lo_au (h : auS n nx σ) {v : Nat} (hv : v < n) : loS n nx (σ v) = loS n nx v := by
  unfold loS
  rw [← loF_au h (fun u => hoI (dI n nx (σ v) u))]
  exact loF_congr (fun u hu => by
    show hoI (dI n nx (σ v) (σ u)) = _
    rw [dI_au h hv hu])
end AUT
