/-! BLOCKS WITH GUARDS; LOOPS; PARTIAL FUNCTIONS -/
def nz (y : Int32) : Bool := !(decide (y = 0))
theorem nz_ne {y : Int32} (h : nz y = true) : ¬ y = 0 := by
  unfold nz at h
  simpa using h
def gLdI (t : Nat) (l : List (Option Value)) (st : List Value) (hs : List ce) : Option (Bool × SS) := match st with
  | .int i :: .ref a :: r => match hs[a]? with
    | some (.inl (t', n, .inl f)) => match Nat.beq t' t with
      | true => some (ix i n, l, .int (f i.toNatClampNeg) :: r, hs)
      | false => none
    | _ => none
  | _ => none
def gLdB (l : List (Option Value)) (st : List Value) (hs : List ce) : Option (Bool × SS) := match gLdI 1 l st hs with
  | some x => some x
  | none => gLdI 2 l st hs
def gLdL (l : List (Option Value)) (st : List Value) (hs : List ce) : Option (Bool × SS) := match st with
  | .int i :: .ref a :: r => match hs[a]? with
    | some (.inl (t', n, .inr (.inl f))) => match Nat.beq t' 3 with
      | true => some (ix i n, l, .long (f i.toNatClampNeg) :: r, hs)
      | false => none
    | _ => none
  | _ => none
def gStI (t : Nat) (nr : Int32 → Int32) (l : List (Option Value)) (st : List Value) (hs : List ce) : Option (Bool × SS) := match st with
  | .int x :: .int i :: .ref a :: r => match hs[a]? with
    | some (.inl (t', n, .inl f)) => match Nat.beq t' t with
      | true => some (ix i n, l, r, hs.set a (.inl (t, n, .inl (upd f i.toNatClampNeg (nr x)))))
      | false => none
    | _ => none
  | _ => none
def gStB (l : List (Option Value)) (st : List Value) (hs : List ce) : Option (Bool × SS) := match gStI 1 (vp_nar .byte) l st hs with
  | some x => some x
  | none => gStI 2 (vp_nar .boolean) l st hs
def gStL (l : List (Option Value)) (st : List Value) (hs : List ce) : Option (Bool × SS) := match st with
  | .long x :: .int i :: .ref a :: r => match hs[a]? with
    | some (.inl (t', n, .inr (.inl f))) => match Nat.beq t' 3 with
      | true => some (ix i n, l, r, hs.set a (.inl (3, n, .inr (.inl (vp_updL f i.toNatClampNeg x)))))
      | false => none
    | _ => none
  | _ => none
def gDiv (l : List (Option Value)) (st : List Value) (hs : List ce) : Option (Bool × SS) := match st with
  | .int y :: .int x :: r => some (nz y, l, .int (x / y) :: r, hs)
  | _ => none
def gRem (l : List (Option Value)) (st : List Value) (hs : List ce) : Option (Bool × SS) := match st with
  | .int y :: .int x :: r => some (nz y, l, .int (x % y) :: r, hs)
  | _ => none
def stpG (q : RI) (l : List (Option Value)) (st : List Value) (hs : List ce) : Option (Bool × SS) := match q.1 with
  | .iaload => gLdI 0 l st hs
  | .baload => gLdB l st hs
  | .laload => gLdL l st hs
  | .iastore => gStI 0 (fun x => x) l st hs
  | .bastore => gStB l st hs
  | .lastore => gStL l st hs
  | .idiv => gDiv l st hs
  | .irem => gRem l st hs
  | _ => none
def runG : List RI → List (Option Value) → List Value → List ce → Option (SS × List Bool)
  | [], l, st, hs => some ((l, st, hs), [])
  | q :: qs, l, st, hs => match stp q l st hs with
    | some (l', st', hs') => runG qs l' st' hs'
    | none => match stpG q l st hs with
      | some (b, l', st', hs') => match runG qs l' st' hs' with
        | some (x, gs) => some (x, b :: gs)
        | none => none
      | none => none
def allT : List Bool → Prop
  | [] => True
  | b :: bs => b = true ∧ allT bs
theorem V.oneG {M : MD} {Z : VZ} {cells slots pc : Nat} {q : RI} {l l' : List (Option Value)} {st st' : List Value} {hs hs' : List ce} {b : Bool} (hok : okI M pc q = true) (h : stpG q l st hs = some (b, l', st', hs')) (hb : b = true) (k : V M Z cells slots (nxI pc q) l' st' hs') : V M Z cells slots pc l st hs := by
  subst hb
  obtain ⟨i, a, bb, kd, v⟩ := q
  unfold okI at hok
  rw [Bool.and_eq_true, decide_eq_true_eq] at hok
  obtain ⟨hd, -⟩ := hok
  have ldI : ∀ {t : Nat} {l l' : List (Option Value)} {st st' : List Value} {hs hs' : List ce}, gLdI t l st hs = some (true, l', st', hs') → ∃ i a r n f, st = .int i :: .ref a :: r ∧ hs[a]? = some (.inl (t, n, .inl f)) ∧ ix i n = true ∧ l' = l ∧ st' = .int (f i.toNatClampNeg) :: r ∧ hs' = hs := by
    intro t l l' st st' hs hs' h
    unfold gLdI at h
    split at h
    · split at h
      · split at h
        · rename_i i a r _ t' n f he _ hb
          have := Nat.eq_of_beq_eq_true hb
          subst this
          simp only [Option.some.injEq, Prod.mk.injEq] at h
          exact ⟨i, a, r, n, f, rfl, he, h.1, h.2.1.symm, h.2.2.1.symm, h.2.2.2.symm⟩
        · cases h
      · cases h
    · cases h
  have stI : ∀ {t : Nat} {nr : Int32 → Int32} {l l' : List (Option Value)} {st st' : List Value} {hs hs' : List ce}, gStI t nr l st hs = some (true, l', st', hs') → ∃ x i a n f, st = .int x :: .int i :: .ref a :: st' ∧ hs[a]? = some (.inl (t, n, .inl f)) ∧ ix i n = true ∧ l' = l ∧ hs' = hs.set a (.inl (t, n, .inl (upd f i.toNatClampNeg (nr x)))) := by
    intro t nr l l' st st' hs hs' h
    unfold gStI at h
    split at h
    · split at h
      · split at h
        · rename_i x i a r _ t' n f he _ hb
          have := Nat.eq_of_beq_eq_true hb
          subst this
          simp only [Option.some.injEq, Prod.mk.injEq] at h
          obtain ⟨h1, h2, h3, h4⟩ := h
          subst h3
          exact ⟨x, i, a, n, f, rfl, he, h1, h2.symm, h4.symm⟩
        · cases h
      · cases h
    · cases h
  cases i
  case iaload =>
    obtain ⟨i, a, r, n, f, rfl, he, hi, rfl, rfl, rfl⟩ := ldI (show gLdI 0 l st hs = _ from h)
    exact V.iald he hi hd k
  case baload =>
    have h : gLdB l st hs = _ := h
    unfold gLdB at h
    split at h
    · rename_i x h1
      cases h
      obtain ⟨i, a, r, n, f, rfl, he, hi, rfl, rfl, rfl⟩ := ldI h1
      exact V.bald he hi hd k
    · obtain ⟨i, a, r, n, f, rfl, he, hi, rfl, rfl, rfl⟩ := ldI h
      exact V.zald he hi hd k
  case iastore =>
    obtain ⟨x, i, a, n, f, rfl, he, hi, rfl, rfl⟩ := stI (show gStI 0 (fun x => x) l st hs = _ from h)
    exact V.iast he hi hd k
  case bastore =>
    have h : gStB l st hs = _ := h
    unfold gStB at h
    split at h
    · rename_i x h1
      cases h
      obtain ⟨x, i, a, n, f, rfl, he, hi, rfl, rfl⟩ := stI h1
      exact V.bast he hi hd k
    · obtain ⟨x, i, a, n, f, rfl, he, hi, rfl, rfl⟩ := stI h
      exact V.zast he hi hd k
  case laload =>
    have h : gLdL l st hs = _ := h
    unfold gLdL at h
    split at h
    · split at h
      · split at h
        · rename_i i a r _ t' n f he _ hb
          have := Nat.eq_of_beq_eq_true hb
          subst this
          simp only [Option.some.injEq, Prod.mk.injEq] at h
          obtain ⟨h1, rfl, rfl, rfl⟩ := h
          exact V.lald he h1 hd k
        · cases h
      · cases h
    · cases h
  case lastore =>
    have h : gStL l st hs = _ := h
    unfold gStL at h
    split at h
    · split at h
      · split at h
        · rename_i x i a r _ t' n f he _ hb
          have := Nat.eq_of_beq_eq_true hb
          subst this
          simp only [Option.some.injEq, Prod.mk.injEq] at h
          obtain ⟨h1, rfl, rfl, rfl⟩ := h
          exact V.last he h1 hd k
        · cases h
      · cases h
    · cases h
  case idiv =>
    have h : gDiv l st hs = _ := h
    unfold gDiv at h
    split at h
    · simp only [Option.some.injEq, Prod.mk.injEq] at h
      obtain ⟨h1, rfl, rfl, rfl⟩ := h
      exact V.idiv (nz_ne h1) hd k
    · cases h
  case irem =>
    have h : gRem l st hs = _ := h
    unfold gRem at h
    split at h
    · simp only [Option.some.injEq, Prod.mk.injEq] at h
      obtain ⟨h1, rfl, rfl, rfl⟩ := h
      exact V.irem (nz_ne h1) hd k
    · cases h
  all_goals (exact absurd h (by simp [stpG]))
theorem V.blk : ∀ (qs : List RI) {M : MD} {Z : VZ} {cells slots pc pc' : Nat} {l l' : List (Option Value)} {st st' : List Value} {hs hs' : List ce} {gs : List Bool}, okB M pc qs = true → runG qs l st hs = some ((l', st', hs'), gs) → allT gs → endB pc qs = pc' → V M Z cells slots pc' l' st' hs' → V M Z cells slots pc l st hs := by
  intro qs
  induction qs with
  | nil =>
    intro M Z cells slots pc pc' l l' st st' hs hs' gs _ h _ he k
    cases h
    subst he
    exact k
  | cons q qs ih =>
    intro M Z cells slots pc pc' l l' st st' hs hs' gs hok h hg he k
    rw [okB, Bool.and_eq_true] at hok
    rw [runG] at h
    split at h
    · rename_i l1 st1 hs1 h1
      exact V.one hok.1 h1 (ih hok.2 h hg he k)
    · split at h
      · rename_i b l1 st1 hs1 h1
        split at h
        · rename_i x gs1 h2
          cases h
          exact V.oneG hok.1 h1 hg.1 (ih hok.2 h2 hg.2 he k)
        · cases h
      · cases h
/-! partial functions -/
def ob {α β : Type} (e : Option α) (k : α → Option β) : Option β := match e with
  | none => none
  | some a => k a
def gd {β : Type} (b : Bool) (k : Option β) : Option β := match b with
  | true => k
  | false => none
theorem ob_some {α β : Type} {e : Option α} {k : α → Option β} {y : β} (h : ob e k = some y) : ∃ x, e = some x ∧ k x = some y := by
  cases e with
  | none => cases h
  | some x => exact ⟨x, rfl, h⟩
theorem gd_some {β : Type} {b : Bool} {k : Option β} {y : β} (h : gd b k = some y) : b = true ∧ k = some y := by
  cases b with
  | false => cases h
  | true => exact ⟨rfl, h⟩
theorem if_t {β : Type} {c : Prop} {i : Decidable c} {A B : Option β} {y : β} (h : (if c then A else B) = some y) (hc : c) : A = some y := by rw [if_pos hc] at h; exact h
theorem if_f {β : Type} {c : Prop} {i : Decidable c} {A B : Option β} {y : β} (h : (if c then A else B) = some y) (hc : ¬ c) : B = some y := by rw [if_neg hc] at h; exact h
theorem ob_of {α β : Type} {e : Option α} {k : α → Option β} {x : α} (h : e = some x) : ob e k = k x := by rw [h]; rfl
theorem gd_of {β : Type} {b : Bool} {k : Option β} (h : b = true) : gd b k = k := by rw [h]; rfl
def lpn {σ ρ : Type} (f : σ → Option (σ ⊕ ρ)) : Nat → σ → Option ρ
  | 0, _ => none
  | n + 1, s => match f s with
    | none => none
    | some (.inl s') => lpn f n s'
    | some (.inr r) => some r
noncomputable def lp {σ ρ : Type} (f : σ → Option (σ ⊕ ρ)) (s : σ) : Option ρ := Classical.epsilon (fun o : Option ρ => (∃ r n, o = some r ∧ lpn f n s = some r) ∨ (o = none ∧ ∀ r n, lpn f n s ≠ some r))
theorem lpn_add {σ ρ : Type} {f : σ → Option (σ ⊕ ρ)} : ∀ (n k : Nat) (s : σ) (r : ρ), lpn f n s = some r → lpn f (n + k) s = some r := by
  intro n
  induction n with
  | zero => intro k s r h; cases h
  | succ n ih =>
    intro k s r h
    rw [show n + 1 + k = (n + k) + 1 by omega]
    rw [lpn] at h ⊢
    cases hf : f s with
    | none => rw [hf] at h; cases h
    | some y =>
      rw [hf] at h
      cases y with
      | inl s' => exact ih k s' r h
      | inr r' => exact h
theorem lpn_fun {σ ρ : Type} {f : σ → Option (σ ⊕ ρ)} {n k : Nat} {s : σ} {r r' : ρ} (h : lpn f n s = some r) (h' : lpn f k s = some r') : r = r' := by
  have h1 := lpn_add n k s r h
  have h2 := lpn_add k n s r' h'
  rw [Nat.add_comm] at h2
  rw [h1] at h2
  exact Option.some.inj h2
theorem lp_spec {σ ρ : Type} (f : σ → Option (σ ⊕ ρ)) (s : σ) : (∃ r n, lp f s = some r ∧ lpn f n s = some r) ∨ (lp f s = none ∧ ∀ r n, lpn f n s ≠ some r) := by
  refine Classical.epsilon_spec (p := fun o : Option ρ => (∃ r n, o = some r ∧ lpn f n s = some r) ∨ (o = none ∧ ∀ r n, lpn f n s ≠ some r)) ?_
  by_cases h : ∃ r n, lpn f n s = some r
  · obtain ⟨r, n, h⟩ := h
    exact ⟨some r, Or.inl ⟨r, n, rfl, h⟩⟩
  · exact ⟨none, Or.inr ⟨rfl, fun r n h2 => h ⟨r, n, h2⟩⟩⟩
theorem lp_of {σ ρ : Type} {f : σ → Option (σ ⊕ ρ)} {n : Nat} {s : σ} {r : ρ} (h : lpn f n s = some r) : lp f s = some r := by
  rcases lp_spec f s with ⟨r', n', h1, h2⟩ | ⟨-, h2⟩
  · rw [h1, lpn_fun h2 h]
  · exact absurd h (h2 r n)
theorem lp_to {σ ρ : Type} {f : σ → Option (σ ⊕ ρ)} {s : σ} {r : ρ} (h : lp f s = some r) : ∃ n, lpn f n s = some r := by
  rcases lp_spec f s with ⟨r', n', h1, h2⟩ | ⟨h1, -⟩
  · rw [h1] at h; cases h; exact ⟨n', h2⟩
  · rw [h1] at h; cases h
theorem lp_inr {σ ρ : Type} {f : σ → Option (σ ⊕ ρ)} {s : σ} {r : ρ} (h : f s = some (.inr r)) : lp f s = some r := lp_of (n := 1) (by rw [lpn, h])
theorem lp_inl {σ ρ : Type} {f : σ → Option (σ ⊕ ρ)} {s s' : σ} {r : ρ} (h : f s = some (.inl s')) (h2 : lp f s' = some r) : lp f s = some r := by
  obtain ⟨n, hn⟩ := lp_to h2
  exact lp_of (n := n + 1) (by rw [lpn, h]; exact hn)
/-- a loop of the machine out of its functional one -/
theorem lp_V {σ ρ : Type} {f : σ → Option (σ ⊕ ρ)} {A : σ → Prop} {B : ρ → Prop} (hstep : ∀ s y, f s = some y → (∀ s', y = .inl s' → A s') → (∀ r, y = .inr r → B r) → A s) {s : σ} {r : ρ} (h : lp f s = some r) (hb : B r) : A s := by
  obtain ⟨n, hn⟩ := lp_to h
  induction n generalizing s with
  | zero => cases hn
  | succ n ih =>
    rw [lpn] at hn
    cases hf : f s with
    | none => rw [hf] at hn; cases hn
    | some y =>
      rw [hf] at hn
      cases y with
      | inl s' => exact hstep s _ hf (fun s'' e => by cases e; exact ih (lp_of hn) hn) (fun r' e => by cases e)
      | inr r' => exact hstep s _ hf (fun s'' e => by cases e) (fun r'' e => by cases e; cases hn; exact hb)
/-- a loop ends: an invariant, a measure that falls -/
theorem lp_ends {σ ρ : Type} {f : σ → Option (σ ⊕ ρ)} (I : σ → Prop) (μ : σ → Nat) (P : ρ → Prop) (hstep : ∀ s, I s → (∃ s', f s = some (.inl s') ∧ I s' ∧ μ s' < μ s) ∨ ∃ r, f s = some (.inr r) ∧ P r) : ∀ s, I s → ∃ r, lp f s = some r ∧ P r := by
  have key : ∀ (n : Nat) (s : σ), μ s < n → I s → ∃ r, lp f s = some r ∧ P r := by
    intro n
    induction n with
    | zero => intro s h; omega
    | succ n ih =>
      intro s hm hI
      rcases hstep s hI with ⟨s', h1, h2, h3⟩ | ⟨r, h1, h2⟩
      · obtain ⟨r, h4, h5⟩ := ih s' (by omega) h2
        exact ⟨r, lp_inl h1 h4, h5⟩
      · exact ⟨r, lp_inr h1, h2⟩
  exact fun s h => key (μ s + 1) s (by omega) h
