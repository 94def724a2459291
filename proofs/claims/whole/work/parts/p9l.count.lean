/-! SYMMETRIES: how many -/
def cdP {α : Type} (P : α → Prop) (k : Nat) : Prop := ∃ l : List α, l.Nodup ∧ l.length = k ∧ ∀ x, x ∈ l ↔ P x
theorem cd_uniq {α : Type} {P : α → Prop} {k k' : Nat} (h : cdP P k) (h' : cdP P k') : k = k' := by
  obtain ⟨l, a1, a2, a3⟩ := h
  obtain ⟨l', b1, b2, b3⟩ := h'
  have c1 := List.Nodup.length_le_of_subset a1 (l₂ := l') (fun x hx => (b3 x).mpr ((a3 x).mp hx))
  have c2 := List.Nodup.length_le_of_subset b1 (l₂ := l) (fun x hx => (a3 x).mpr ((b3 x).mp hx))
  omega
theorem cd_congr {α : Type} {P Q : α → Prop} {k : Nat} (h : cdP P k) (e : ∀ x, P x ↔ Q x) : cdP Q k := by
  obtain ⟨l, a1, a2, a3⟩ := h
  exact ⟨l, a1, a2, fun x => (a3 x).trans (e x)⟩
theorem map_nodup {α β : Type} {g : α → β} : ∀ {l : List α}, l.Nodup → (∀ x y, x ∈ l → y ∈ l → g x = g y → x = y) → (l.map g).Nodup := by
  intro l
  induction l with
  | nil => intro _ _; exact List.nodup_nil
  | cons a l ih =>
    intro h hi
    rw [List.nodup_cons] at h
    rw [List.map_cons, List.nodup_cons]
    refine ⟨fun hm => ?_, ih h.2 (fun x y hx hy => hi x y (List.mem_cons_of_mem _ hx) (List.mem_cons_of_mem _ hy))⟩
    obtain ⟨x, x1, x2⟩ := List.mem_map.mp hm
    have := hi x a (List.mem_cons_of_mem _ x1) List.mem_cons_self x2
    rw [this] at x1
    exact h.1 x1
theorem flat_len {α β : Type} {f : α → List β} {k : Nat} : ∀ {l : List α}, (∀ x, x ∈ l → (f x).length = k) → (l.flatMap f).length = l.length * k := by
  intro l
  induction l with
  | nil => intro _; rw [List.flatMap_nil, List.length_nil, List.length_nil, Nat.zero_mul]
  | cons a l ih =>
    intro h
    rw [List.flatMap_cons, List.length_append, ih (fun x hx => h x (List.mem_cons_of_mem _ hx)), h a List.mem_cons_self, List.length_cons, Nat.succ_mul, Nat.add_comm]
theorem flat_nodup {α β : Type} {f : α → List β} : ∀ {l : List α}, l.Nodup → (∀ x, x ∈ l → (f x).Nodup) → (∀ x y z, x ∈ l → y ∈ l → z ∈ f x → z ∈ f y → x = y) → (l.flatMap f).Nodup := by
  intro l
  induction l with
  | nil => intro _ _ _; exact List.nodup_nil
  | cons a l ih =>
    intro h h1 h2
    rw [List.nodup_cons] at h
    rw [List.flatMap_cons, List.nodup_append]
    refine ⟨h1 a List.mem_cons_self, ih h.2 (fun x hx => h1 x (List.mem_cons_of_mem _ hx)) (fun x y z hx hy => h2 x y z (List.mem_cons_of_mem _ hx) (List.mem_cons_of_mem _ hy)), fun u hu v hv e => ?_⟩
    obtain ⟨x, x1, x2⟩ := List.mem_flatMap.mp hv
    rw [← e] at x2
    have := h2 a x u List.mem_cons_self (List.mem_cons_of_mem _ x1) hu x2
    rw [← this] at x1
    exact h.1 x1
/-- how many below k hold -/
noncomputable def cnP (P : Nat → Prop) : Nat → Nat := totS (fun w => @ite Nat (P w) (Classical.propDecidable _) 1 0)
theorem cnP_succ (P : Nat → Prop) (k : Nat) : (P k → cnP P (k + 1) = cnP P k + 1) ∧ (¬ P k → cnP P (k + 1) = cnP P k) := by
  have e : cnP P (k + 1) = cnP P k + @ite Nat (P k) (Classical.propDecidable _) 1 0 := rfl
  constructor
  · intro h; rw [e, if_pos h]
  · intro h; rw [e, if_neg h]; rfl
theorem cnP_le (P : Nat → Prop) : ∀ k, cnP P k ≤ k := by
  intro k
  induction k with
  | zero => exact Nat.le_refl _
  | succ k ih =>
    by_cases h : P k
    · rw [(cnP_succ P k).1 h]; omega
    · rw [(cnP_succ P k).2 h]; omega
theorem cnP_none {P : Nat → Prop} : ∀ {k : Nat}, (∀ w, w < k → ¬ P w) → cnP P k = 0 := by
  intro k
  induction k with
  | zero => intro _; rfl
  | succ k ih => intro h; rw [(cnP_succ P k).2 (h k (by omega))]; exact ih (fun w hw => h w (by omega))
theorem cnP_list (P : Nat → Prop) : ∀ k, ∃ l : List Nat, l.Nodup ∧ l.length = cnP P k ∧ ∀ w, w ∈ l ↔ w < k ∧ P w := by
  intro k
  induction k with
  | zero => exact ⟨[], List.nodup_nil, rfl, fun w => ⟨fun h => (by cases h), fun h => (by omega)⟩⟩
  | succ k ih =>
    obtain ⟨l, l1, l2, l3⟩ := ih
    by_cases h : P k
    · refine ⟨k :: l, List.nodup_cons.mpr ⟨fun hm => by have := ((l3 k).mp hm).1; omega, l1⟩, by rw [List.length_cons, l2, (cnP_succ P k).1 h], fun w => ?_⟩
      rw [List.mem_cons, l3]
      constructor
      · rintro (y | y)
        · rw [y]; exact ⟨by omega, h⟩
        · exact ⟨by omega, y.2⟩
      · rintro ⟨y1, y2⟩
        by_cases y : w = k
        · exact Or.inl y
        · exact Or.inr ⟨by omega, y2⟩
    · refine ⟨l, l1, by rw [l2, (cnP_succ P k).2 h], fun w => ?_⟩
      rw [l3]
      constructor
      · exact fun y => ⟨by omega, y.2⟩
      · rintro ⟨y1, y2⟩
        by_cases y : w = k
        · rw [y] at y2; exact absurd y2 h
        · exact ⟨by omega, y2⟩
theorem popc_mkP {n : Nat} (hn : n ≤ 12) (P : Nat → Prop) : popcUp (mkP n P) 16 = cnP P n := by
  have key : ∀ k, popcUp (mkP n P) k = cnP (fun w => w < n ∧ P w) k := by
    intro k
    induction k with
    | zero => rfl
    | succ k ih =>
      have e : popcUp (mkP n P) (k + 1) = popcUp (mkP n P) k + mkP n P / 2 ^ k % 2 := rfl
      have hb := Nat.testBit_eq_decide_div_mod_eq (x := mkP n P) (i := k)
      have hm : mkP n P / 2 ^ k % 2 < 2 := Nat.mod_lt _ (by omega)
      by_cases h : k < n ∧ P k
      · rw [(mkP_bit n P k).mpr h] at hb
        have := of_decide_eq_true hb.symm
        rw [e, ih, this, (cnP_succ _ k).1 h]
      · have h2 : (mkP n P).testBit k = false := by
          cases hc : (mkP n P).testBit k with
          | false => rfl
          | true => exact absurd ((mkP_bit n P k).mp hc) h
        rw [h2] at hb
        have := of_decide_eq_false hb.symm
        rw [e, ih, (cnP_succ (fun w => w < n ∧ P w) k).2 h]
        omega
  have key2 : ∀ k, k ≤ n → cnP (fun w => w < n ∧ P w) k = cnP P k := by
    intro k
    induction k with
    | zero => intro _; rfl
    | succ k ih =>
      intro hk
      by_cases h : P k
      · rw [(cnP_succ (fun w => w < n ∧ P w) k).1 ⟨by omega, h⟩, (cnP_succ P k).1 h, ih (by omega)]
      · rw [(cnP_succ (fun w => w < n ∧ P w) k).2 (fun y => h y.2), (cnP_succ P k).2 h, ih (by omega)]
  have key3 : ∀ k, n ≤ k → cnP (fun w => w < n ∧ P w) k = cnP (fun w => w < n ∧ P w) n := by
    intro k
    induction k with
    | zero => intro h; rw [show n = 0 by omega]
    | succ k ih =>
      intro hk
      by_cases e : n = k + 1
      · rw [e]
      · rw [(cnP_succ (fun w => w < n ∧ P w) k).2 (fun y => by omega)]; exact ih (by omega)
  rw [key, key3 16 (by omega), key2 n (Nat.le_refl _)]
section CHN
variable {n : Nat} {nx ord : Nat → Nat}
/-- those that leave the first so many in place -/
def abS (n : Nat) (nx ord : Nat → Nat) (lv : Nat) (σ : Nat → Nat) : Prop := auS n nx σ ∧ (∀ w, n ≤ w → σ w = w) ∧ ∀ i, i < lv → σ (ord i) = ord i
theorem au_ext {σ : Nat → Nat} (h : auS n nx σ) : auS n nx (fun w => if w < n then σ w else w) := by
  refine ⟨fun w hw => ?_, fun a b ha hb e => ?_, fun a b ha hb => ?_⟩
  · show (if w < n then σ w else w) < n
    rw [if_pos hw]; exact h.1 w hw
  · have e : (if a < n then σ a else a) = if b < n then σ b else b := e
    rw [if_pos ha, if_pos hb] at e
    exact h.2.1 a b ha hb e
  · show (nx (if a < n then σ a else a)).testBit (if b < n then σ b else b) = _
    rw [if_pos ha, if_pos hb]
    exact h.2.2 a b ha hb
theorem chain_step (hor : orS n ord) {lv k : Nat} (hlv : lv < n) (h : cdP (abS n nx ord (lv + 1)) k) : cdP (abS n nx ord lv) (cnP (plS n nx ord lv) n * k) := by
  obtain ⟨l, l1, l2, l3⟩ := h
  obtain ⟨O, o1, o2, o3⟩ := cnP_list (plS n nx ord lv) n
  have hol := hor.1 lv hlv
  have hx : ∀ w, ∃ ρ : Nat → Nat, plS n nx ord lv w → abS n nx ord lv ρ ∧ ρ (ord lv) = w := fun w => by
    by_cases hp : plS n nx ord lv w
    · obtain ⟨σ, s1, s2, s3⟩ := hp
      refine ⟨fun x => if x < n then σ x else x, fun _ => ⟨⟨au_ext s1, fun x hx => if_neg (by omega), fun i hi => ?_⟩, ?_⟩⟩
      · show (if ord i < n then σ (ord i) else ord i) = ord i
        rw [if_pos (hor.1 i (by omega))]; exact s2 i hi
      · show (if ord lv < n then σ (ord lv) else ord lv) = w
        rw [if_pos hol]; exact s3
    · exact ⟨fun x => x, fun y => absurd y hp⟩
  obtain ⟨ρ, hρ⟩ := Classical.axiomOfChoice hx
  refine ⟨O.flatMap (fun w => l.map (fun τ x => ρ w (τ x))), ?_, ?_, fun σ => ?_⟩
  · refine flat_nodup o1 (fun w hw => map_nodup l1 (fun τ τ' h1 h2 e => ?_)) (fun w w' z hw hw' hz hz' => ?_)
    · have hp := (hρ w ((o3 w).mp hw).2).1
      have t1 := (l3 τ).mp h1
      have t2 := (l3 τ').mp h2
      funext x
      by_cases y : x < n
      · exact hp.1.2.1 _ _ (t1.1.1 x y) (t2.1.1 x y) (congrFun e x)
      · rw [t1.2.1 x (by omega), t2.2.1 x (by omega)]
    · obtain ⟨τ, t1, t2⟩ := List.mem_map.mp hz
      obtain ⟨τ', t3, t4⟩ := List.mem_map.mp hz'
      have e1 : ρ w (τ (ord lv)) = ρ w' (τ' (ord lv)) := (congrFun t2 (ord lv)).trans (congrFun t4 (ord lv)).symm
      rw [((l3 τ).mp t1).2.2 lv (by omega), ((l3 τ').mp t3).2.2 lv (by omega), (hρ w ((o3 w).mp hw).2).2, (hρ w' ((o3 w').mp hw').2).2] at e1
      exact e1
  · rw [flat_len (k := k) (fun w _ => by rw [List.length_map, l2]), o2]
  · rw [List.mem_flatMap]
    constructor
    · rintro ⟨w, w1, w2⟩
      obtain ⟨τ, t1, rfl⟩ := List.mem_map.mp w2
      have hp := (hρ w ((o3 w).mp w1).2).1
      have ht := (l3 τ).mp t1
      refine ⟨au_comp hp.1 ht.1, fun x hx => ?_, fun i hi => ?_⟩
      · show ρ w (τ x) = x
        rw [ht.2.1 x hx, hp.2.1 x hx]
      · show ρ w (τ (ord i)) = ord i
        rw [ht.2.2 i (by omega), hp.2.2 i hi]
    · rintro ⟨s1, s2, s3⟩
      have hp : plS n nx ord lv (σ (ord lv)) := ⟨σ, s1, s3, rfl⟩
      obtain ⟨p1, p2⟩ := hρ _ hp
      refine ⟨σ (ord lv), (o3 _).mpr ⟨s1.1 _ hol, hp⟩, ?_⟩
      obtain ⟨τ', t1, t2, t3⟩ := au_inv p1.1
      rw [List.mem_map]
      refine ⟨fun x => if x < n then τ' (σ x) else x, (l3 _).mpr ⟨au_ext (au_comp t1 s1), fun x hx => if_neg (by omega), fun i hi => ?_⟩, funext (fun x => ?_)⟩
      · have hoi := hor.1 i (by omega)
        show (if ord i < n then τ' (σ (ord i)) else ord i) = ord i
        rw [if_pos hoi]
        by_cases y : i = lv
        · rw [y]
          have := t2 (ord lv) hol
          rw [p2] at this
          exact this
        · rw [s3 i (by omega)]
          have := t2 (ord i) hoi
          rw [p1.2.2 i (by omega)] at this
          exact this
      · show ρ (σ (ord lv)) (if x < n then τ' (σ x) else x) = σ x
        by_cases y : x < n
        · rw [if_pos y, t3 _ (s1.1 x y)]
        · rw [if_neg y, p1.2.1 x (by omega), s2 x (by omega)]
def ppS (c : Nat → Nat) : Nat → Nat
  | 0 => 1
  | k + 1 => ppS c k * c k
theorem chain_all (hor : orS n ord) : cdP (abS n nx ord 0) (ppS (fun i => cnP (plS n nx ord i) n) n) := by
  have key : ∀ lv, lv ≤ n → ∀ k, cdP (abS n nx ord lv) k → cdP (abS n nx ord 0) (ppS (fun i => cnP (plS n nx ord i) n) lv * k) := by
    intro lv
    induction lv with
    | zero => intro _ k h; show cdP _ (1 * k); rw [Nat.one_mul]; exact h
    | succ lv ih =>
      intro hlv k h
      have := ih (by omega) _ (chain_step hor (show lv < n by omega) h)
      rw [← Nat.mul_assoc] at this
      exact this
  have h1 : cdP (abS n nx ord n) 1 := by
    refine ⟨[fun w => w], by simp, rfl, fun σ => ?_⟩
    rw [List.mem_singleton]
    constructor
    · rintro rfl
      exact ⟨au_id, fun _ _ => rfl, fun _ _ => rfl⟩
    · rintro ⟨s1, s2, s3⟩
      funext x
      by_cases y : x < n
      · obtain ⟨i, i1, i2⟩ := inj_onto hor.1 hor.2 y
        rw [← i2]; exact s3 i i1
      · exact s2 x (by omega)
  have := key n (Nat.le_refl _) 1 h1
  rw [Nat.mul_one] at this
  exact this
theorem or_id : orS n (fun i => i) := ⟨fun _ h => h, fun _ _ _ _ h => h⟩
theorem same_many (hor : orS n ord) : ppS (fun i => cnP (plS n nx ord i) n) n = ppS (fun i => cnP (plS n nx (fun i => i) i) n) n := by
  refine cd_uniq (chain_all hor) (cd_congr (chain_all (or_id (n := n))) (fun σ => ?_))
  exact ⟨fun h => ⟨h.1, h.2.1, fun i hi => by omega⟩, fun h => ⟨h.1, h.2.1, fun i hi => by omega⟩⟩
end CHN
