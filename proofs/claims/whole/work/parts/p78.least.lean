/-! NO FEWER MOVES WILL DO: what is wanting falls by no more than one a move -/
theorem e_val (c v : Nat) : eS c v = if v = c then 1 else 0 := by
  unfold eS
  by_cases e : v = c
  · rw [if_pos e, e, atS_at]
  · rw [if_neg e, atS_ne e]; rfl
theorem ad_val (h : Nat → Nat) (a v : Nat) : adS h a v = h v + eS a v := by
  rw [e_val]
  unfold adS
  by_cases e : v = a
  · rw [if_pos e, e, atS_at]
  · rw [if_neg e, atS_ne e]; rfl
theorem lv_val {h : Nat → Nat} {c : Nat} (h0 : 0 < h c) (v : Nat) : lvS h c v + eS c v = h v := by
  rw [e_val]
  unfold lvS
  by_cases e : v = c
  · rw [if_pos e, e, atS_at]; omega
  · rw [if_neg e, atS_ne e]; rfl
theorem go_val {g : Nat → Nat} {m : M3} (h : okS g m) (v : Nat) : goS g m v + eS m.1 v + eS m.2.1 v = g v + eS m.2.2 v := by
  have e1 := lv_val h.1 v
  have e2 := lv_val h.2 v
  have e3 : goS g m v = lvS (lvS g m.1) m.2.1 v + eS m.2.2 v := ad_val _ _ _
  omega
def hfS (NL : List (Nat × Nat)) (t due : Nat) (g : Nat → Nat) (r : Nat) : Prop :=
  ∃ h : Nat → Nat, (∀ v, ¬ v = t → h v ≤ g v) ∧ (due - g t) * 128 ≤ wtS NL h ∧ szS NL h ≤ r + (due - g t)
theorem sz_z0 : ∀ l : List (Nat × Nat), szS l z0S = 0 := by
  intro l
  induction l with
  | nil => rfl
  | cons p l ih => show 0 + szS l z0S = 0; omega
theorem hf_goal {NL : List (Nat × Nat)} {t due : Nat} {g : Nat → Nat} (h : due ≤ g t) : hfS NL t due g 0 :=
  ⟨z0S, fun _ _ => Nat.zero_le _, by rw [show due - g t = 0 by omega]; omega, by rw [sz_z0]; omega⟩
theorem hf_step {n : Nat} {nx : Nat → Nat} (hG : GoodG n nx) {t due : Nat} (ht : t < n) {g : Nat → Nat} {m : M3} (hm : legS n nx m) (hok : okS g m) (hg : g t < due) {r : Nat} (h : hfS (nlW n nx t (n - 1)) t due (goS g m) r) : hfS (nlW n nx t (n - 1)) t due g (r + 1) := by
  obtain ⟨h', b1, b2, b3⟩ := h
  have hv := go_val hok
  obtain ⟨a, b, c⟩ := m
  obtain ⟨⟨ha, hb, hc⟩, hac, hbc⟩ := hm
  have ha : a < n := ha
  have hb : b < n := hb
  have hc : c < n := hc
  have hac : (nx a).testBit c = true := hac
  have hbc : (nx b).testBit c = true := hbc
  have hv : ∀ v, goS g (a, b, c) v + eS a v + eS b v = g v + eS c v := hv
  have hw64 : ∀ x, wtS (nlW n nx t (n - 1)) (eS x) ≤ 64 * szS (nlW n nx t (n - 1)) (eS x) := fun x => wt_le _ (fun p hp => by
    have := (nlW_mem hp).2.1
    exact Nat.pow_le_pow_right (n := 2) (j := 6) (by omega) (by omega))
  have hn1 : ∀ x, szS (nlW n nx t (n - 1)) (eS x) ≤ 1 := fun x => nlW_one x (n - 1)
  by_cases hct : c = t
  · subst hct
    obtain ⟨wa, na, hat⟩ := wt_aim hG hc ha hac
    obtain ⟨wb, nb, hbt⟩ := wt_aim hG hc hb hbc
    refine ⟨adS (adS h' a) b, fun v hvt => ?_, ?_, ?_⟩
    · have e1 := hv v
      have e2 := b1 v hvt
      have e3 : eS c v = 0 := by rw [e_val, if_neg hvt]
      rw [ad_val, ad_val]
      omega
    · have e1 := hv c
      have e3 : eS a c = 0 := by rw [e_val, if_neg (fun z => hat z.symm)]
      have e4 : eS b c = 0 := by rw [e_val, if_neg (fun z => hbt z.symm)]
      have e5 : eS c c = 1 := by rw [e_val, if_pos rfl]
      rw [wt_ad, wt_ad, wa, wb]
      omega
    · have e1 := hv c
      have e3 : eS a c = 0 := by rw [e_val, if_neg (fun z => hat z.symm)]
      have e4 : eS b c = 0 := by rw [e_val, if_neg (fun z => hbt z.symm)]
      have e5 : eS c c = 1 := by rw [e_val, if_pos rfl]
      rw [sz_ad, sz_ad, na, nb]
      omega
  · have e1 := hv t
    have ec : eS c t = 0 := by rw [e_val, if_neg (fun z => hct z.symm)]
    have ecc : eS c c = 1 := by rw [e_val, if_pos rfl]
    have hle : ∀ v, ¬ v = t → h' c = 0 → h' v ≤ g v := fun v hvt h0 => by
      by_cases z : v = c
      · rw [z, h0]; exact Nat.zero_le _
      · have e2 := hv v
        have e3 := b1 v hvt
        have e4 : eS c v = 0 := by rw [e_val, if_neg z]
        omega
    have hlv : 0 < h' c → ∀ v, ¬ v = t → lvS h' c v + eS a v + eS b v ≤ g v := fun h0 v hvt => by
      have e2 := hv v
      have e3 := b1 v hvt
      have e4 := lv_val h0 v
      omega
    by_cases hj : ¬ a = t ∧ ¬ b = t
    · have ea : eS a t = 0 := by rw [e_val, if_neg (fun z => hj.1 z.symm)]
      have eb : eS b t = 0 := by rw [e_val, if_neg (fun z => hj.2 z.symm)]
      have et : goS g (a, b, c) t = g t := by omega
      rw [et] at b2 b3
      by_cases h0 : 0 < h' c
      · have w1 := wt_lv (nlW n nx t (n - 1)) h0
        have s1 := sz_lv (nlW n nx t (n - 1)) h0
        have wc := hw64 c
        have nc := hn1 c
        by_cases hz : szS (nlW n nx t (n - 1)) (eS c) = 0
        · refine ⟨lvS h' c, fun v hvt => by have := hlv h0 v hvt; omega, by omega, by omega⟩
        · refine ⟨adS (adS (lvS h' c) a) b, fun v hvt => by have := hlv h0 v hvt; rw [ad_val, ad_val]; omega, ?_, ?_⟩
          · have wa := wt_next hG ht ha hc hj.1 hac
            have wb := wt_next hG ht hb hc hj.2 hbc
            rw [wt_ad, wt_ad]
            omega
          · have na := hn1 a
            have nb := hn1 b
            rw [sz_ad, sz_ad]
            omega
      · exact ⟨h', fun v hvt => hle v hvt (by omega), b2, by omega⟩
    · have hadj : (nx c).testBit t = true := by
        by_cases z : a = t
        · subst z; rw [hG.2.2.2.1]; exact hac
        · by_cases y : b = t
          · subst y; rw [hG.2.2.2.1]; exact hbc
          · exact absurd ⟨z, y⟩ hj
      obtain ⟨wc, nc, -⟩ := wt_aim hG ht hc hadj
      have ea := e_val a t
      have eb := e_val b t
      have ha1 : eS a t ≤ 1 := by rw [ea]; split <;> omega
      have hb1 : eS b t ≤ 1 := by rw [eb]; split <;> omega
      have hj1 : 1 ≤ eS a t + eS b t := by
        by_cases z : a = t
        · rw [if_pos z.symm] at ea; omega
        · by_cases y : b = t
          · rw [if_pos y.symm] at eb; omega
          · exact absurd ⟨z, y⟩ hj
      by_cases h0 : 0 < h' c
      · have w1 := wt_lv (nlW n nx t (n - 1)) h0
        have s1 := sz_lv (nlW n nx t (n - 1)) h0
        exact ⟨lvS h' c, fun v hvt => by have := hlv h0 v hvt; omega, by omega, by omega⟩
      · by_cases h2 : eS a t + eS b t = 1
        · exact ⟨h', fun v hvt => hle v hvt (by omega), by omega, by omega⟩
        · obtain ⟨v, v1, v2⟩ := wt_pos (h := h') (nlW n nx t (n - 1)) (by omega)
          have w1 := wt_lv (nlW n nx t (n - 1)) v1
          have s1 := sz_lv (nlW n nx t (n - 1)) v1
          have wv := hw64 v
          have nv := hn1 v
          refine ⟨lvS h' v, fun x hxt => ?_, by omega, by omega⟩
          have := hle x hxt (by omega)
          have := lv_val v1 x
          omega
/-- the least number of moves -/
def leftS (NL : List (Nat × Nat)) (t due : Nat) (g : Nat → Nat) : Nat :=
  if (grS g NL ((due - g t) * 128) 0).1 = 0 then (grS g NL ((due - g t) * 128) 0).2 - (due - g t) else 1000
section LFT
variable {n : Nat} {nx : Nat → Nat} {t due : Nat} {g : Nat → Nat}
theorem left_le {r : Nat} (h : hfS (nlW n nx t (n - 1)) t due g r) : leftS (nlW n nx t (n - 1)) t due g ≤ r := by
  obtain ⟨h', b1, b2, b3⟩ := h
  obtain ⟨a1, a2⟩ := gr_best (row := g) (h := h') (nlW n nx t (n - 1)) (w0 := 1) (x := 0) (nd := (due - g t) * 128) (us := 0) (nlW_up _) (fun p hp => b1 _ (nl_aim hp)) (by omega)
  unfold leftS
  rw [if_pos a1]
  omega
theorem left_zero (h : due ≤ g t) : leftS (nlW n nx t (n - 1)) t due g = 0 := by
  have := left_le (hf_goal (NL := nlW n nx t (n - 1)) h)
  omega
theorem left_pos (h : g t < due) : 0 < leftS (nlW n nx t (n - 1)) t due g := by
  unfold leftS
  obtain ⟨-, -, a3⟩ := gr_many (row := g) (nlW n nx t (n - 1)) (nd := (due - g t) * 128) (us := 0) (fun p hp => (nlW_mem hp).2.1)
  by_cases e : (grS g (nlW n nx t (n - 1)) ((due - g t) * 128) 0).1 = 0
  · rw [if_pos e]
    have := a3 e
    omega
  · rw [if_neg e]; omega
/-- jars that are nearest, and those of the aim, are no more than all -/
theorem sz_tot : ∀ (l : List (Nat × Nat)) {k : Nat}, (∀ p ∈ l, p.1 < k) → (∀ c, szS l (eS c) ≤ 1) → ∀ g : Nat → Nat, szS l g ≤ totS (fun c => szS l (eS c) * g c) k := by
  intro l k
  induction l with
  | nil => intro _ _ g; exact Nat.zero_le _
  | cons p l ih =>
    intro h1 h2 g
    have ih2 := ih (fun q hq => h1 q (List.mem_cons_of_mem _ hq)) (fun c => by
      have : eS c p.1 + szS l (eS c) ≤ 1 := h2 c
      omega) g
    have e : (fun c => szS (p :: l) (eS c) * g c) = fun c => eS c p.1 * g c + szS l (eS c) * g c := by
      funext c
      show (eS c p.1 + szS l (eS c)) * g c = _
      rw [Nat.add_mul]
    rw [e, tot_add]
    have : g p.1 ≤ totS (fun c => eS c p.1 * g c) k := by
      have h3 := totS_le (g := fun c => eS c p.1 * g c) (k := k) (w := p.1) (h1 p (List.mem_cons_self))
      have e2 : eS p.1 p.1 = 1 := atS_at _ _ _
      have h3 : eS p.1 p.1 * g p.1 ≤ _ := h3
      rw [e2, Nat.one_mul] at h3
      exact h3
    show g p.1 + szS l g ≤ _
    omega
theorem tot_mono {f g : Nat → Nat} : ∀ {k : Nat}, (∀ c, c < k → f c ≤ g c) → totS f k ≤ totS g k := by
  intro k
  induction k with
  | zero => intro _; exact Nat.le_refl _
  | succ k ih =>
    intro h
    have h1 := ih (fun c hc => h c (by omega))
    have h2 := h k (by omega)
    show totS f k + f k ≤ totS g k + g k
    omega
/-- what is told is small, or all are not enough -/
theorem left_small (hn : n ≤ 8) (h : g t < due) : leftS (nlW n nx t (n - 1)) t due g = 1000 ∨ leftS (nlW n nx t (n - 1)) t due g + (due - g t) ≤ totS g 8 := by
  unfold leftS
  obtain ⟨-, a2, -⟩ := gr_many (row := g) (nlW n nx t (n - 1)) (nd := (due - g t) * 128) (us := 0) (fun p hp => (nlW_mem hp).2.1)
  have a3 := left_pos (n := n) (nx := nx) h
  by_cases e : (grS g (nlW n nx t (n - 1)) ((due - g t) * 128) 0).1 = 0
  · right
    unfold leftS at a3
    rw [if_pos e] at a3 ⊢
    have h1 := sz_tot (nlW n nx t (n - 1)) (k := 8) (fun p hp => by have := (nlW_mem hp).1; omega) (fun c => nlW_one c _) g
    have h2 := tot_mono (f := fun c => szS (nlW n nx t (n - 1)) (eS c) * g c) (g := g) (k := 8) (fun c _ => by
      show _ * g c ≤ g c
      have := Nat.mul_le_mul_right (g c) (nlW_one (n := n) (nx := nx) (t := t) c (n - 1))
      omega)
    omega
  · left
    rw [if_neg e]
end LFT
/-- a goal that is r moves away: no more than r are told -/
theorem left_way {n : Nat} {nx : Nat → Nat} (hG : GoodG n nx) {both : Bool} {t due : Nat} (ht : t < n) : ∀ {r : Nat} {s : Nat → Nat}, toG (mlS n nx both) (fun s => due ≤ s t) r s → (∀ r', r' < r → ¬ toG (mlS n nx both) (fun s => due ≤ s t) r' s) → hfS (nlW n nx t (n - 1)) t due s r
  | 0, _, h, _ => hf_goal h
  | r + 1, s, h, hmin => by
    obtain ⟨j, j1, j2, j3⟩ := h
    refine hf_step hG ht (mlS_leg (mvN_mem j1)) j2 ?_ (left_way hG ht j3 (fun r' hr' z => hmin (r' + 1) (by omega) ⟨j, j1, j2, z⟩))
    have := hmin 0 (by omega)
    by_cases e : s t < due
    · exact e
    · exact absurd (show due ≤ s t by omega) this
