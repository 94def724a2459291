/-! MOVES: two are taken, one is given; ways of moves from a laying; a queue of layings -/
abbrev M3 := Nat × Nat × Nat
def goS (g : Nat → Nat) (m : M3) : Nat → Nat := atS (lvS (lvS g m.1) m.2.1) m.2.2 (lvS (lvS g m.1) m.2.1 m.2.2 + 1)
def okS (g : Nat → Nat) (m : M3) : Prop := 0 < g m.1 ∧ 0 < lvS g m.1 m.2.1
def in8 (n : Nat) (m : M3) : Prop := m.1 < n ∧ m.2.1 < n ∧ m.2.2 < n
theorem go_tot {n : Nat} (hn : n ≤ 8) {g : Nat → Nat} {m : M3} (hm : in8 n m) (h : okS g m) : totS (goS g m) 8 + 1 = totS g 8 := by
  obtain ⟨h1, h2, h3⟩ := hm
  have e1 := lv_tot (g := g) (w := m.1) (by omega) h.1
  have e2 := lv_tot (g := lvS g m.1) (w := m.2.1) (by omega) h.2
  have e3 := (val_at (g := lvS (lvS g m.1) m.2.1) (w := m.2.2) (x := lvS (lvS g m.1) m.2.1 m.2.2 + 1) (k := 8) (by omega)).2
  unfold goS
  omega
theorem go_SG {n : Nat} (hn : n ≤ 8) {g : Nat → Nat} (hg : SG n g) {m : M3} (hm : in8 n m) (h : okS g m) : SG n (goS g m) := by
  have e := go_tot hn hm h
  obtain ⟨h1, h2, h3⟩ := hm
  have g1 := lv_SG hn hg h1 h.1
  have g2 := lv_SG hn g1 h2 h.2
  refine ⟨fun w hw => ?_, by have := hg.2; omega⟩
  unfold goS
  rw [atS_ne (by omega)]
  exact g2.1 w hw
theorem go_cd {n : Nat} (hn : n ≤ 8) {g : Nat → Nat} {m : M3} (hm : in8 n m) (h : okS g m) : cdS g - nI (16 ^ m.1) - nI (16 ^ m.2.1) + nI (16 ^ m.2.2) = cdS (goS g m) := by
  obtain ⟨h1, h2, h3⟩ := hm
  rw [lv_cd (by omega) h.1, lv_cd (by omega) h.2]
  have e3 := (val_at (g := lvS (lvS g m.1) m.2.1) (w := m.2.2) (x := lvS (lvS g m.1) m.2.1 m.2.2 + 1) (k := 8) (by omega)).1
  unfold goS cdS
  rw [nI_ad]
  congr 1
  rw [Nat.add_mul, Nat.one_mul] at e3
  omega
theorem go_mv {g : Nat → Nat} {v u : Nat} : goS g (v, v, u) = mvS g v u := by
  have e : lvS (lvS g v) v = atS g v (g v - 2) := by
    funext j
    unfold lvS
    by_cases z : j = v
    · subst z; rw [atS_at, atS_at, atS_at]; omega
    · rw [atS_ne z, atS_ne z, atS_ne z]
  unfold goS mvS
  show atS (lvS (lvS g v) v) u (lvS (lvS g v) v u + 1) = _
  rw [e]
theorem ok_same {g : Nat → Nat} {v u : Nat} : okS g (v, v, u) ↔ 2 ≤ g v := by
  unfold okS lvS
  show 0 < g v ∧ 0 < atS g v (g v - 1) v ↔ _
  rw [atS_at]; omega
theorem ok_two {g : Nat → Nat} {v e u : Nat} (h : ¬ e = v) : okS g (v, e, u) ↔ 0 < g v ∧ 0 < g e := by
  unfold okS lvS
  show 0 < g v ∧ 0 < atS g v (g v - 1) e ↔ _
  rw [atS_ne h]
section WAY
variable (ml : List M3) (s0 : Nat → Nat)
abbrev mvN (j : Nat) : M3 := ml.getD j (0, 0, 0)
/-- s is d moves away, the first of them the f th -/
def WaS : Nat → Nat → (Nat → Nat) → Prop
  | 0, _, s => s = s0
  | d + 1, f, s => ∃ s' j, WaS d f s' ∧ j < ml.length ∧ okS s' (mvN ml j) ∧ s = goS s' (mvN ml j) ∧ (d = 0 → j = f)
def lvl (s : Nat → Nat) : Nat := totS s0 8 - totS s 8
end WAY
section WAY2
variable {n : Nat} {ml : List M3} {s0 : Nat → Nat}
theorem WaS.tot (hn : n ≤ 8) (hm : ∀ j, j < ml.length → in8 n (mvN ml j)) (h0 : SG n s0) : ∀ {d f : Nat} {s : Nat → Nat}, WaS ml s0 d f s → SG n s ∧ totS s 8 + d = totS s0 8
  | 0, _, s, h => by
    have h : s = s0 := h
    subst h
    exact ⟨h0, rfl⟩
  | d + 1, f, s, h => by
    obtain ⟨s', j, h1, h2, h3, h4, -⟩ := h
    obtain ⟨e1, e2⟩ := WaS.tot hn hm h0 h1
    have e3 := go_tot hn (hm j h2) h3
    have e4 := go_SG hn e1 (hm j h2) h3
    subst h4
    exact ⟨e4, by omega⟩
theorem WaS.lv (hn : n ≤ 8) (hm : ∀ j, j < ml.length → in8 n (mvN ml j)) (h0 : SG n s0) {d f : Nat} {s : Nat → Nat} (h : WaS ml s0 d f s) : lvl s0 s = d := by
  have := (h.tot hn hm h0).2
  unfold lvl
  omega
/-- a queue: layings G, first moves f, all before i gone on from, of i all moves before m; K: is kept; R: what is known of a laying that was seen -/
def QI (ml : List M3) (s0 : Nat → Nat) (K R : (Nat → Nat) → Prop) (G : List (Nat → Nat)) (f : Nat → Nat) (i m : Nat) : Prop :=
  0 < G.length ∧ G.getD 0 z0S = s0 ∧
  (∀ j, 0 < j → j < G.length → ∃ d, WaS ml s0 (d + 1) (f j) (G.getD j z0S)) ∧
  (∀ j j', 0 < j → j < j' → j' < G.length → lvl s0 (G.getD j z0S) < lvl s0 (G.getD j' z0S) ∨ lvl s0 (G.getD j z0S) = lvl s0 (G.getD j' z0S) ∧ f j ≤ f j') ∧
  (∀ j x, j < i ∨ j = i ∧ x < m → j < G.length → x < ml.length → okS (G.getD j z0S) (mvN ml x) → R (goS (G.getD j z0S) (mvN ml x)) ∧ (K (goS (G.getD j z0S) (mvN ml x)) → ∃ j', j' < G.length ∧ G.getD j' z0S = goS (G.getD j z0S) (mvN ml x) ∧ f j' ≤ if j = 0 then x else f j)) ∧
  (i < G.length → ∀ j, 0 < j → j < G.length → lvl s0 (G.getD j z0S) ≤ lvl s0 (G.getD i z0S) ∨ lvl s0 (G.getD j z0S) = lvl s0 (G.getD i z0S) + 1 ∧ f j ≤ if i = 0 then m else f i)
variable {K R : (Nat → Nat) → Prop} {G : List (Nat → Nat)} {f : Nat → Nat} {i m : Nat}
theorem QI.start : QI ml s0 K R [s0] f 0 0 := by
  refine ⟨Nat.one_pos, rfl, fun j h1 h2 => ?_, fun j j' h1 h2 h3 => ?_, fun j x h1 => ?_, fun _ j h1 h2 => ?_⟩
  · simp at h2; omega
  · simp at h3; omega
  · omega
  · simp at h2; omega
theorem QI.weak {R' : (Nat → Nat) → Prop} (h : QI ml s0 K R G f i m) (hR : ∀ s, R s → R' s) : QI ml s0 K R' G f i m := by
  obtain ⟨h1, h2, h3, h4, h5, h6⟩ := h
  exact ⟨h1, h2, h3, h4, fun j x a b c d => ⟨hR _ (h5 j x a b c d).1, (h5 j x a b c d).2⟩, h6⟩
/-- the way of a kept one, as of a laying in the queue -/
theorem QI.psAt (h : QI ml s0 K R G f i m) {j : Nat} (hj : j < G.length) : ∃ d, WaS ml s0 d (f j) (G.getD j z0S) ∧ (j = 0 → d = 0) ∧ (0 < j → 0 < d) := by
  obtain ⟨h1, h2, h3, -⟩ := h
  by_cases e : j = 0
  · subst e
    exact ⟨0, h2, fun _ => rfl, fun z => by omega⟩
  · obtain ⟨d, hd⟩ := h3 j (by omega) hj
    exact ⟨d + 1, hd, fun z => by omega, fun _ => by omega⟩
theorem QI.good (hn : n ≤ 8) (hm : ∀ j, j < ml.length → in8 n (mvN ml j)) (h0 : SG n s0) (h : QI ml s0 K R G f i m) {j : Nat} (hj : j < G.length) : SG n (G.getD j z0S) := by
  obtain ⟨d, hd, -⟩ := h.psAt hj
  exact (hd.tot hn hm h0).1
theorem QI.lvz (hn : n ≤ 8) (hm : ∀ j, j < ml.length → in8 n (mvN ml j)) (h0 : SG n s0) (h : QI ml s0 K R G f i m) {j : Nat} (hj : j < G.length) : lvl s0 (G.getD j z0S) = 0 ↔ j = 0 := by
  obtain ⟨d, hd, h1, h2⟩ := h.psAt hj
  rw [hd.lv hn hm h0]
  constructor
  · intro e; subst e
    by_cases z : j = 0
    · exact z
    · have := h2 (by omega); omega
  · exact h1
/-- a move that isn't to be done, or isn't kept -/
theorem QI.skip (h : QI ml s0 K R G f i m) (hs : m < ml.length → i < G.length → okS (G.getD i z0S) (mvN ml m) → R (goS (G.getD i z0S) (mvN ml m)) ∧ ¬ K (goS (G.getD i z0S) (mvN ml m))) : QI ml s0 K R G f i (m + 1) := by
  obtain ⟨h1, h2, h3, h4, h5, h6⟩ := h
  refine ⟨h1, h2, h3, h4, fun j x a b c d => ?_, fun a j b c => ?_⟩
  · by_cases e : j = i ∧ x = m
    · obtain ⟨rfl, rfl⟩ := e
      have := hs c b d
      exact ⟨this.1, fun z => absurd z this.2⟩
    · exact h5 j x (by omega) b c d
  · rcases h6 a j b c with z | z
    · exact Or.inl z
    · refine Or.inr ⟨z.1, ?_⟩
      by_cases e : i = 0
      · rw [if_pos e] at z ⊢; omega
      · rw [if_neg e] at z ⊢; omega
/-- a move to one that is there -/
theorem QI.old (hn : n ≤ 8) (hm : ∀ j, j < ml.length → in8 n (mvN ml j)) (h0 : SG n s0) (h : QI ml s0 K R G f i m) (hml : m < ml.length) (hi : i < G.length) (hok : okS (G.getD i z0S) (mvN ml m)) (hR : R (goS (G.getD i z0S) (mvN ml m))) (hG : goS (G.getD i z0S) (mvN ml m) ∈ G) : QI ml s0 K R G f i (m + 1) := by
  obtain ⟨d, hd, hd0, hd1⟩ := h.psAt hi
  have e0 := hd.lv hn hm h0
  have e1 := (hd.tot hn hm h0)
  have e2 := go_tot hn (hm m hml) hok
  obtain ⟨j', k1, k2⟩ := mem_gF hG
  have elv : lvl s0 (goS (G.getD i z0S) (mvN ml m)) = lvl s0 (G.getD i z0S) + 1 := by
    unfold lvl; omega
  have kz := h.lvz hn hm h0 k1
  have H := h
  obtain ⟨h1, h2, h3, h4, h5, h6⟩ := h
  have k3 := h6 hi j' (by rw [k2, elv] at kz; omega) k1
  refine ⟨h1, h2, h3, h4, fun j x a b c dd => ?_, fun a j b c => ?_⟩
  · by_cases e : j = i ∧ x = m
    · obtain ⟨rfl, rfl⟩ := e
      refine ⟨hR, fun _ => ⟨j', k1, k2, ?_⟩⟩
      rw [k2, elv] at k3
      rcases k3 with z | z
      · omega
      · exact z.2
    · exact h5 j x (by omega) b c dd
  · rcases h6 a j b c with z | z
    · exact Or.inl z
    · refine Or.inr ⟨z.1, ?_⟩
      by_cases e : i = 0
      · rw [if_pos e] at z ⊢; omega
      · rw [if_neg e] at z ⊢; omega
def newF (f : Nat → Nat) (N x : Nat) : Nat → Nat := fun j => if j = N then x else f j
theorem newF_at (f : Nat → Nat) (N x : Nat) : newF f N x N = x := if_pos rfl
theorem newF_lt {f : Nat → Nat} {N x j : Nat} (h : j < N) : newF f N x j = f j := if_neg (by omega)
/-- a move to a new one -/
theorem QI.new (hn : n ≤ 8) (hm : ∀ j, j < ml.length → in8 n (mvN ml j)) (h0 : SG n s0) (h : QI ml s0 K R G f i m) (hml : m < ml.length) (hi : i < G.length) (hok : okS (G.getD i z0S) (mvN ml m)) (hR : R (goS (G.getD i z0S) (mvN ml m))) :
    QI ml s0 K R (G ++ [goS (G.getD i z0S) (mvN ml m)]) (newF f G.length (if i = 0 then m else f i)) i (m + 1) := by
  obtain ⟨d, hd, hd0, hd1⟩ := h.psAt hi
  have e0 := hd.lv hn hm h0
  have e1 := (hd.tot hn hm h0)
  have e2 := go_tot hn (hm m hml) hok
  have elv : lvl s0 (goS (G.getD i z0S) (mvN ml m)) = lvl s0 (G.getD i z0S) + 1 := by
    unfold lvl; omega
  have hz : ∀ j, j < G.length → (lvl s0 (G.getD j z0S) = 0 ↔ j = 0) := fun j hj => h.lvz hn hm h0 hj
  obtain ⟨h1, h2, h3, h4, h5, h6⟩ := h
  have hl : (G ++ [goS (G.getD i z0S) (mvN ml m)]).length = G.length + 1 := by simp
  refine ⟨by omega, by rw [gF_app h1]; exact h2, fun j a b => ?_, fun j j' a b c => ?_, fun j x a b c dd => ?_, fun a j b c => ?_⟩
  · rw [hl] at b
    by_cases e : j = G.length
    · subst e
      rw [gF_new, newF_at]
      refine ⟨d, G.getD i z0S, m, ?_, hml, hok, rfl, fun z => ?_⟩
      · by_cases z : i = 0
        · have := hd0 z
          subst this
          exact hd
        · rw [if_neg z]; exact hd
      · by_cases z2 : i = 0
        · rw [if_pos z2]
        · exact absurd z (by have := hd1 (by omega); omega)
    · rw [gF_app (by omega), newF_lt (by omega)]
      exact h3 j a (by omega)
  · rw [hl] at c
    rw [gF_app (show j < G.length by omega), newF_lt (show j < G.length by omega)]
    by_cases e : j' = G.length
    · subst e
      rw [gF_new, newF_at, elv]
      rcases h6 hi j a (by omega) with z | z
      · exact Or.inl (by omega)
      · exact Or.inr ⟨z.1, z.2⟩
    · rw [gF_app (by omega), newF_lt (by omega)]
      exact h4 j j' a b (by omega)
  · rw [hl] at b
    have hj : j < G.length := by omega
    rw [gF_app hj] at dd ⊢
    by_cases e : j = i ∧ x = m
    · obtain ⟨rfl, rfl⟩ := e
      refine ⟨hR, fun _ => ⟨G.length, by omega, gF_new, ?_⟩⟩
      rw [newF_at, newF_lt hj]
      exact Nat.le_refl _
    · obtain ⟨a1, a2⟩ := h5 j x (by omega) hj c dd
      refine ⟨a1, fun k => ?_⟩
      obtain ⟨j', b1, b2, b3⟩ := a2 k
      refine ⟨j', by omega, by rw [gF_app b1]; exact b2, ?_⟩
      rw [newF_lt b1, newF_lt hj]
      exact b3
  · rw [hl] at c
    rw [gF_app hi, newF_lt hi]
    by_cases e : j = G.length
    · subst e
      rw [gF_new, newF_at]
      refine Or.inr ⟨elv, ?_⟩
      by_cases e : i = 0
      · rw [if_pos e, if_pos e]; omega
      · rw [if_neg e, if_neg e]; exact Nat.le_refl _
    · rw [gF_app (by omega), newF_lt (by omega)]
      rcases h6 hi j b (by omega) with z | z
      · exact Or.inl z
      · refine Or.inr ⟨z.1, ?_⟩
        by_cases e : i = 0
        · rw [if_pos e] at z ⊢; omega
        · rw [if_neg e] at z ⊢; omega
/-- all moves of one are done -/
theorem QI.pop (hn : n ≤ 8) (hm : ∀ j, j < ml.length → in8 n (mvN ml j)) (h0 : SG n s0) (h : QI ml s0 K R G f i ml.length) (hi : i < G.length) : QI ml s0 K R G f (i + 1) 0 := by
  have hz : ∀ j, j < G.length → (lvl s0 (G.getD j z0S) = 0 ↔ j = 0) := fun j hj => h.lvz hn hm h0 hj
  obtain ⟨h1, h2, h3, h4, h5, h6⟩ := h
  refine ⟨h1, h2, h3, h4, fun j x a b c d => h5 j x (by omega) b c d, fun a j b c => ?_⟩
  rw [if_neg (Nat.succ_ne_zero i)]
  by_cases e : i = 0
  · subst e
    have z1 := hz 0 h1
    have z2 := hz 1 a
    have z3 := h6 hi j b c
    have z4 := hz j c
    rcases z3 with z | z
    · omega
    · left
      show _ ≤ lvl s0 (G.getD 1 z0S)
      omega
  · rcases h6 hi j b c with z | z
    · rcases h4 i (i + 1) (by omega) (by omega) a with y | y
      · left; omega
      · left; omega
    · rw [if_neg e] at z
      rcases h4 i (i + 1) (by omega) (by omega) a with y | y
      · left; omega
      · right; omega
end WAY2
