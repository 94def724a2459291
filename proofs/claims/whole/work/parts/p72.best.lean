/-! THE BEST WAY: the fewest moves, and of like ones the first first move -/
section BST
variable {n : Nat} {ml : List M3} {s0 : Nat → Nat}
/-- D moves are the fewest to a goal, F the first of the first moves -/
def bestS (ml : List M3) (s0 : Nat → Nat) (gl : (Nat → Nat) → Prop) (D F : Nat) : Prop :=
  (∃ s, WaS ml s0 D F s ∧ gl s) ∧ ∀ d f s, WaS ml s0 d f s → gl s → D < d ∨ D = d ∧ F ≤ f
theorem best_or {gl : (Nat → Nat) → Prop} : (∃ D F, bestS ml s0 gl D F) ∨ ∀ d f s, WaS ml s0 d f s → ¬ gl s := by
  by_cases h : ∃ d f s, WaS ml s0 d f s ∧ gl s
  · left
    obtain ⟨d, hd⟩ := h
    obtain ⟨D, -, hD, hmin⟩ := least (P := fun d => ∃ f s, WaS ml s0 d f s ∧ gl s) hd
    obtain ⟨f, hf⟩ := hD
    obtain ⟨F, -, hF, hmin2⟩ := least (P := fun f => ∃ s, WaS ml s0 D f s ∧ gl s) hf
    refine ⟨D, F, hF, fun d f s h1 h2 => ?_⟩
    by_cases e : D < d
    · exact Or.inl e
    · right
      have e2 : ¬ d < D := fun z => hmin d z ⟨f, s, h1, h2⟩
      have e3 : D = d := by omega
      subst e3
      refine ⟨rfl, ?_⟩
      by_cases e4 : F ≤ f
      · exact e4
      · exact absurd ⟨s, h1, h2⟩ (hmin2 f (by omega))
  · right
    exact fun d f s h1 h2 => h ⟨d, f, s, h1, h2⟩
theorem best_uniq {gl : (Nat → Nat) → Prop} {D F D' F' : Nat} (h : bestS ml s0 gl D F) (h' : bestS ml s0 gl D' F') : D = D' ∧ F = F' := by
  obtain ⟨⟨s, h1, h2⟩, h3⟩ := h
  obtain ⟨⟨s', h1', h2'⟩, h3'⟩ := h'
  have a := h3 _ _ _ h1' h2'
  have b := h3' _ _ _ h1 h2
  omega
/-- a way whose layings are all kept -/
def KaS (ml : List M3) (s0 : Nat → Nat) (K : (Nat → Nat) → Prop) : Nat → Nat → (Nat → Nat) → Prop
  | 0, _, s => s = s0
  | d + 1, f, s => ∃ s' j, KaS ml s0 K d f s' ∧ j < ml.length ∧ okS s' (mvN ml j) ∧ s = goS s' (mvN ml j) ∧ (d = 0 → j = f) ∧ K s
/-- a goal is r moves away -/
def toG (ml : List M3) (gl : (Nat → Nat) → Prop) : Nat → (Nat → Nat) → Prop
  | 0, s => gl s
  | r + 1, s => ∃ j, j < ml.length ∧ okS s (mvN ml j) ∧ toG ml gl r (goS s (mvN ml j))
theorem KaS.way {K : (Nat → Nat) → Prop} : ∀ {d f : Nat} {s : Nat → Nat}, KaS ml s0 K d f s → WaS ml s0 d f s
  | 0, _, _, h => h
  | d + 1, f, s, h => by
    obtain ⟨s', j, h1, h2, h3, h4, h5, -⟩ := h
    exact ⟨s', j, h1.way, h2, h3, h4, h5⟩
theorem KaS.of {K : (Nat → Nat) → Prop} {gl : (Nat → Nat) → Prop} {f D : Nat} (hK : ∀ d s r, WaS ml s0 d f s → toG ml gl r s → d + r = D → 0 < d → 0 < r → K s) : ∀ {d r : Nat} {s : Nat → Nat}, WaS ml s0 d f s → toG ml gl r s → d + r = D → 0 < r → KaS ml s0 K d f s
  | 0, _, _, h, _, _, _ => h
  | d + 1, r, s, h, hr, e, h0 => by
    have hk := hK (d + 1) s r h hr e (by omega) h0
    obtain ⟨s', j, h1, h2, h3, h4, h5⟩ := h
    refine ⟨s', j, KaS.of hK (r := r + 1) h1 ⟨j, h2, h3, ?_⟩ (by omega) (by omega), h2, h3, h4, h5, hk⟩
    rw [← h4]; exact hr
/-- with no condition -/
theorem KaS.all : ∀ {d f : Nat} {s : Nat → Nat}, WaS ml s0 d f s → KaS ml s0 (fun _ => True) d f s
  | 0, _, _, h => h
  | d + 1, f, s, h => by
    obtain ⟨s', j, h1, h2, h3, h4, h5⟩ := h
    exact ⟨s', j, KaS.all h1, h2, h3, h4, h5, trivial⟩
variable {K R : (Nat → Nat) → Prop} {G : List (Nat → Nat)} {f : Nat → Nat} {i m : Nat}
theorem QI.before (hn : n ≤ 8) (hm : ∀ j, j < ml.length → in8 n (mvN ml j)) (h0 : SG n s0) (h : QI ml s0 K R G f i m) (hi : i < G.length) {j : Nat} (hj : j < G.length) (hl : lvl s0 (G.getD j z0S) < lvl s0 (G.getD i z0S)) : j < i := by
  by_cases e : j < i
  · exact e
  · by_cases e2 : j = i
    · subst e2; omega
    · by_cases e3 : i = 0
      · have := (h.lvz hn hm h0 hi).mpr e3
        omega
      · have := h.2.2.2.1 i j (by omega) (by omega) hj
        omega
theorem QI.way (hn : n ≤ 8) (hm : ∀ j, j < ml.length → in8 n (mvN ml j)) (h0 : SG n s0) (h : QI ml s0 K R G f i m) {fi : Nat} : ∀ {e : Nat} {s : Nat → Nat}, KaS ml s0 K e fi s → (∀ j, j < G.length → lvl s0 (G.getD j z0S) < e → j < i) → ∃ j, j < G.length ∧ G.getD j z0S = s ∧ (e = 0 ∨ f j ≤ fi)
  | 0, s, hk, _ => ⟨0, h.1, by have hk : s = s0 := hk; rw [hk]; exact h.2.1, Or.inl rfl⟩
  | e + 1, s, hk, hl => by
    obtain ⟨s', x, h1, h2, h3, h4, h5, h6⟩ := hk
    obtain ⟨j, j1, j2, j3⟩ := QI.way hn hm h0 h h1 (fun j hj hlt => hl j hj (by omega))
    have e1 := h1.way.lv hn hm h0
    have e2 : j < i := hl j j1 (by rw [j2, e1]; omega)
    obtain ⟨-, a2⟩ := h.2.2.2.2.1 j x (Or.inl e2) j1 h2 (by rw [j2]; exact h3)
    rw [j2, ← h4] at a2
    obtain ⟨j', b1, b2, b3⟩ := a2 h6
    refine ⟨j', b1, b2, Or.inr ?_⟩
    by_cases z : j = 0
    · have := (h.lvz hn hm h0 j1).mpr z
      rw [j2, e1] at this
      rw [if_pos z] at b3
      rw [← h5 this]; exact b3
    · have := (h.lvz hn hm h0 j1)
      rw [j2, e1] at this
      rw [if_neg z] at b3
      omega
/-- a move to a goal, the first that was seen: it is the best way -/
theorem QI.found (hn : n ≤ 8) (hm : ∀ j, j < ml.length → in8 n (mvN ml j)) (h0 : SG n s0) (h : QI ml s0 K R G f i m) {gl : (Nat → Nat) → Prop} (hR : ∀ s, R s → ¬ gl s) (hi : i < G.length) (hml : m < ml.length) (hok : okS (G.getD i z0S) (mvN ml m)) (hgo : gl (goS (G.getD i z0S) (mvN ml m)))
    {D F : Nat} (hb : bestS ml s0 gl (D + 1) F) (hk : ∀ s x, WaS ml s0 D F s → x < ml.length → okS s (mvN ml x) → gl (goS s (mvN ml x)) → KaS ml s0 K D F s) : lvl s0 (G.getD i z0S) = D ∧ (if i = 0 then m else f i) = F := by
  obtain ⟨⟨s, ⟨s', x, b1, b2, b3, b4, b5⟩, b6⟩, b7⟩ := hb
  rw [b4] at b6
  have hka := hk s' x b1 b2 b3 b6
  obtain ⟨d, hd, hd0, hd1⟩ := h.psAt hi
  have e0 := hd.lv hn hm h0
  have hw : WaS ml s0 (d + 1) (if i = 0 then m else f i) (goS (G.getD i z0S) (mvN ml m)) := by
    by_cases z : i = 0
    · rw [if_pos z]
      have := hd0 z
      subst this
      exact ⟨_, m, hd, hml, hok, rfl, fun _ => rfl⟩
    · rw [if_neg z]
      exact ⟨_, m, hd, hml, hok, rfl, fun y => absurd y (by have := hd1 (by omega); omega)⟩
  have hle := b7 _ _ _ hw hgo
  obtain ⟨j, j1, j2, j3⟩ := h.way hn hm h0 hka (fun j hj hlt => h.before hn hm h0 hi hj (by omega))
  have e1 := b1.lv hn hm h0
  rw [← j2] at e1
  have hnot : ¬ (j < i ∨ j = i ∧ x < m) := fun z => hR _ (h.2.2.2.2.1 j x z j1 b2 (by rw [j2]; exact b3)).1 (by rw [j2]; exact b6)
  by_cases z : i = 0
  · rw [if_pos z] at hle ⊢
    have l0 := (h.lvz hn hm h0 hi).mpr z
    have lj := (h.lvz hn hm h0 j1)
    have d0 : D = 0 := by omega
    have := b5 d0
    omega
  · rw [if_neg z] at hle ⊢
    by_cases y : j = i
    · subst y
      have := (h.lvz hn hm h0 j1)
      omega
    · have := h.2.2.2.1 i j (by omega) (by omega) j1
      have := (h.lvz hn hm h0 j1)
      omega
/-- the first goal that is taken off the queue -/
theorem QI.taken (hn : n ≤ 8) (hm : ∀ j, j < ml.length → in8 n (mvN ml j)) (h0 : SG n s0) (h : QI ml s0 (fun _ => True) R G f i m) {gl : (Nat → Nat) → Prop} (hi : i < G.length) (hng : ∀ j, j < i → ¬ gl (G.getD j z0S)) (hgo : gl (G.getD i z0S)) : bestS ml s0 gl (lvl s0 (G.getD i z0S)) (f i) ∨ i = 0 := by
  by_cases z : i = 0
  · exact Or.inr z
  · left
    obtain ⟨d, hd, hd0, hd1⟩ := h.psAt hi
    have e0 := hd.lv hn hm h0
    rw [e0]
    refine ⟨⟨_, hd, hgo⟩, fun d' f' s hw hg => ?_⟩
    by_cases y : d < d'
    · exact Or.inl y
    · right
      obtain ⟨j, j1, j2, j3⟩ := h.way hn hm h0 (KaS.all hw) (fun j hj hlt => h.before hn hm h0 hi hj (by omega))
      have e1 := hw.lv hn hm h0
      rw [← j2] at e1
      have hji : ¬ j < i := fun u => hng j u (by rw [j2]; exact hg)
      have lj := (h.lvz hn hm h0 j1)
      by_cases u : j = i
      · subst u; omega
      · have := h.2.2.2.1 i j (by omega) (by omega) j1
        omega
/-- the queue is at its end -/
theorem QI.all (hn : n ≤ 8) (hm : ∀ j, j < ml.length → in8 n (mvN ml j)) (h0 : SG n s0) (h : QI ml s0 (fun _ => True) R G f i m) (hi : G.length ≤ i) {d fi : Nat} {s : Nat → Nat} (hw : WaS ml s0 d fi s) : ∃ j, j < G.length ∧ G.getD j z0S = s := by
  obtain ⟨j, j1, j2, -⟩ := h.way hn hm h0 (KaS.all hw) (fun j hj _ => by omega)
  exact ⟨j, j1, j2⟩
end BST
