/-! THE CLASS'S SEARCH: the list of moves, what was seen, the room of the queue -/
def MLr (ml : List M3) (tA tB gv : Nat → Int32) (mv : Int32) : Prop :=
  mv = nI ml.length ∧ ∀ i, i < ml.length → tA i = nI (mvN ml i).1 ∧ tB i = nI (mvN ml i).2.1 ∧ gv i = nI (mvN ml i).2.2
theorem MLr.add {ml : List M3} {tA tB gv : Nat → Int32} {mv : Int32} (h : MLr ml tA tB gv mv) (m : M3) : MLr (ml ++ [m]) (upd tA ml.length (nI m.1)) (upd tB ml.length (nI m.2.1)) (upd gv ml.length (nI m.2.2)) (nI (ml.length + 1)) := by
  refine ⟨by rw [List.length_append]; rfl, fun i hi => ?_⟩
  rw [List.length_append] at hi
  have hi : i < ml.length + 1 := hi
  unfold mvN
  by_cases e : i = ml.length
  · subst e
    rw [upd_at, upd_at, upd_at, List.getD_eq_getElem?_getD, List.getElem?_append_right (Nat.le_refl _), Nat.sub_self]
    exact ⟨rfl, rfl, rfl⟩
  · rw [upd_ne e, upd_ne e, upd_ne e, List.getD_eq_getElem?_getD, List.getElem?_append_left (by omega), ← List.getD_eq_getElem?_getD]
    exact h.2 i (by omega)
section LST
variable {n : Nat} {nx : Nat → Nat} {next : Nat → Int32}
theorem addMoves_ok (hn : n ≤ 8) {pre : List M3} {tA tB gv : Nat → Int32} {mv : Int32} (h : MLr pre tA tB gv mv) {a b t : Nat} (ht : t < 2 ^ 31) (hl : (pre ++ mlC t a b n).length ≤ 224) :
    ∃ tA' tB' gv' mv', Search_addMoves tA tB gv mv (nI n) (nI a) (nI b) (nI t) = some (tA', tB', gv', mv') ∧ MLr (pre ++ mlC t a b n) tA' tB' gv' mv' := by
  obtain ⟨⟨tA', tB', gv', mv'⟩, r1, r2⟩ := lp_inv (f := Search_addMoves_L3 (nI a) (nI b) (nI t) (nI n)) (fun k s => s.1 = nI k ∧ MLr (pre ++ mlC t a b k) s.2.1 s.2.2.1 s.2.2.2.1 s.2.2.2.2) n (fun r => MLr (pre ++ mlC t a b n) r.1 r.2.1 r.2.2.1 r.2.2.2)
    (by
      rintro k ⟨s1, tA, tB, gv, mv⟩ hk ⟨e1, e2⟩
      have e1 : s1 = nI k := e1
      have e2 : MLr (pre ++ mlC t a b k) tA tB gv mv := e2
      subst e1
      left
      have hlen : (pre ++ mlC t a b (k + 1)).length ≤ 224 := by
        have h1 := (mlC_pre (t := t) (a := a) (b := b) (c := k + 1) (k := n) (by omega)).length_le
        rw [List.length_append] at hl ⊢
        omega
      have hmv : mv = nI (pre ++ mlC t a b k).length := e2.1
      have hst : Search_addMoves_L3 (nI a) (nI b) (nI t) (nI n) (nI k, tA, tB, gv, mv) = if (if t.testBit k then (1 : Int32) else 0) = 0 then some (Sum.inl (nI k + 1, tA, tB, gv, mv)) else if mv < 224 then gd (ix mv 224) (gd (ix mv 224) (gd (ix mv 224) (some (Sum.inl (nI k + 1, upd tA mv.toNatClampNeg (nI a), upd tB mv.toNatClampNeg (nI b), upd gv mv.toNatClampNeg (nI k), mv + 1))))) else some (Sum.inl (nI k + 1, tA, tB, gv, mv)) := by
        unfold Search_addMoves_L3
        show (if nI k < nI n then (if ((nI t >>> (nI k &&& 31)) &&& 1) = 0 then _ else _) else _) = _
        rw [if_pos ((nI_ltN (by omega) (by omega)).mpr hk), bit_nI ht (by omega)]
        rfl
      rw [hst]
      cases hb : t.testBit k with
      | false =>
        refine ⟨(nI k + 1, tA, tB, gv, mv), if_pos rfl, nI_ad k 1, ?_⟩
        show MLr (pre ++ (mlC t a b k ++ if t.testBit k then _ else _)) tA tB gv mv
        rw [hb]
        simpa using e2
      | true =>
        have em : mlC t a b (k + 1) = mlC t a b k ++ [(a, b, k)] := by
          show mlC t a b k ++ (if t.testBit k then _ else _) = _
          rw [hb]; rfl
        rw [em, ← List.append_assoc, List.length_append] at hlen
        have hlen : (pre ++ mlC t a b k).length + 1 ≤ 224 := hlen
        rw [if_neg (show ¬ (if true = true then (1 : Int32) else 0) = 0 by decide), if_pos (show mv < 224 by rw [hmv]; exact (nI_ltN (b := 224) (by omega) (by omega)).mpr (by omega))]
        have hc : mv.toNatClampNeg = (pre ++ mlC t a b k).length := by rw [hmv, nI_clamp (by omega)]
        have hix : ix mv 224 = true := by rw [hmv]; exact ixN (by omega) (by omega)
        refine ⟨(nI k + 1, upd tA mv.toNatClampNeg (nI a), upd tB mv.toNatClampNeg (nI b), upd gv mv.toNatClampNeg (nI k), mv + 1), ?_, nI_ad k 1, ?_⟩
        · rw [gd_eq hix, gd_eq hix, gd_eq hix]
        · show MLr (pre ++ mlC t a b (k + 1)) (upd tA mv.toNatClampNeg (nI a)) (upd tB mv.toNatClampNeg (nI b)) (upd gv mv.toNatClampNeg (nI k)) (mv + 1)
          rw [em, ← List.append_assoc, hc, hmv, show (1 : Int32) = nI 1 from rfl, nI_ad]
          exact e2.add (a, b, k))
    (by
      rintro ⟨s1, σ⟩ ⟨e1, e2⟩
      have e1 : s1 = nI n := e1
      subst e1
      refine ⟨σ, ?_, e2⟩
      unfold Search_addMoves_L3
      exact if_neg (fun z => by have := (nI_ltN (by omega) (by omega)).mp z; omega))
    0 (0, tA, tB, gv, mv) (Nat.zero_le _) ⟨rfl, by show MLr (pre ++ []) tA tB gv mv; rw [List.append_nil]; exact h⟩
  exact ⟨tA', tB', gv', mv', ob_eq r1, r2⟩
theorem listMoves_ok (hG : GoodG n nx) (hn : n ≤ 8) (hx : ∀ w, w < 12 → next w = nI (nx w)) {both : Bool} {a2 : Int32} (ha2 : a2 = if both then 1 else 0) (tA0 tB0 gv0 : Nat → Int32) (mv0 : Int32) :
    ∃ tA tB gv, Search_listMoves tA0 tB0 gv0 mv0 (nI n) next a2 = some (tA, tB, gv, nI (mlS n nx both).length) ∧ MLr (mlS n nx both) tA tB gv (nI (mlS n nx both).length) := by
  have hb : ∀ a, nx a < 2 ^ 31 := fun a => Nat.lt_of_lt_of_le (hG.2.1 a) (Nat.pow_le_pow_right (by omega) (by omega))
  have hall := mlS_len hG hn both
  have hpl : ∀ {l : List M3}, l <+: mlS n nx both → l.length ≤ 224 := fun h => Nat.le_trans h.length_le hall
  obtain ⟨⟨tA1, tB1, gv1, mv1⟩, r1, r2⟩ := lp_inv (f := Search_listMoves_L7 a2 (nI n) next) (fun k s => s.1 = nI k ∧ MLr (mlI n nx k) s.2.1 s.2.2.1 s.2.2.2.1 s.2.2.2.2) n (fun r => MLr (mlI n nx n) r.1 r.2.1 r.2.2.1 r.2.2.2)
    (by
      rintro k ⟨s1, tA, tB, gv, mv⟩ hk ⟨e1, e2⟩
      have e1 : s1 = nI k := e1
      subst e1
      left
      obtain ⟨tA', tB', gv', mv', q1, q2⟩ := addMoves_ok hn e2 (a := k) (b := k) (hb k) (hpl ((mlI_pre (c := k + 1) (by omega)).trans (List.prefix_append _ _)))
      refine ⟨(nI k + 1, tA', tB', gv', mv'), ?_, nI_ad k 1, q2⟩
      unfold Search_listMoves_L7
      show (if nI k < nI n then gd (ix (nI k) 12) (ob (Search_addMoves tA tB gv mv (nI n) (nI k) (nI k) (next (nI k).toNatClampNeg)) _) else _) = _
      rw [if_pos ((nI_ltN (by omega) (by omega)).mpr hk), gd_eq (ixN (by omega) (by omega)), nI_clamp (by omega), hx k (by omega), ob_eq q1])
    (by
      rintro ⟨s1, σ⟩ ⟨e1, e2⟩
      have e1 : s1 = nI n := e1
      subst e1
      refine ⟨σ, ?_, e2⟩
      unfold Search_listMoves_L7
      exact if_neg (fun z => by have := (nI_ltN (by omega) (by omega)).mp z; omega))
    0 (0, tA0, tB0, gv0, 0) (Nat.zero_le _) ⟨rfl, rfl, fun i hi => by have : i < 0 := hi; omega⟩
  have r2 : MLr (mlI n nx n) tA1 tB1 gv1 mv1 := r2
  unfold Search_listMoves
  rw [ob_eq r1]
  have fin : ∀ {tA tB gv : Nat → Int32} {mv : Int32}, lp (Search_listMoves_L35 a2 (nI n) next) (0, tA1, tB1, gv1, mv1) = some (tA, tB, gv, mv) → MLr (mlS n nx both) tA tB gv mv → ∃ tA tB gv, ob (lp (Search_listMoves_L35 a2 (nI n) next) (0, tA1, tB1, gv1, mv1)) (fun x2 => some (x2.1, x2.2.1, x2.2.2.1, x2.2.2.2)) = some (tA, tB, gv, nI (mlS n nx both).length) ∧ MLr (mlS n nx both) tA tB gv (nI (mlS n nx both).length) := by
    intro tA tB gv mv h1 h2
    have := h2.1
    subst this
    exact ⟨tA, tB, gv, ob_eq h1, h2⟩
  cases both with
  | false =>
    have ha2 : a2 = 0 := ha2
    subst ha2
    refine fin (tA := tA1) (tB := tB1) (gv := gv1) (mv := mv1) (lp_inr ?_) ?_
    · unfold Search_listMoves_L35
      exact if_pos rfl
    · show MLr (mlI n nx n ++ []) _ _ _ _
      rw [List.append_nil]; exact r2
  | true =>
    have ha2 : a2 = 1 := ha2
    subst ha2
    have mid : ∀ a, a < n → ∀ (τ : (Nat → Int32) × (Nat → Int32) × (Nat → Int32) × Int32), MLr (mlI n nx n ++ mlJ n nx a) τ.1 τ.2.1 τ.2.2.1 τ.2.2.2 → ∃ τ', lp (Search_listMoves_L52 1 (nI a) (nI n) next) (nI (a + 1), τ) = some τ' ∧ MLr (mlI n nx n ++ mlJ n nx (a + 1)) τ'.1 τ'.2.1 τ'.2.2.1 τ'.2.2.2 := by
      intro a ha τ hτ
      have hpre : ∀ k, k ≤ n - (a + 1) → (mlI n nx n ++ mlJ n nx a) ++ mlB n nx a k <+: mlS n nx true := fun k hk => by
        rw [List.append_assoc]
        exact preA ((preA (mlB_pre hk)).trans (mlJ_pre (c := a + 1) (by omega)))
      obtain ⟨τ', q1, q2⟩ := lp_inv (f := Search_listMoves_L52 1 (nI a) (nI n) next) (fun k s => s.1 = nI (a + 1 + k) ∧ MLr ((mlI n nx n ++ mlJ n nx a) ++ mlB n nx a k) s.2.1 s.2.2.1 s.2.2.2.1 s.2.2.2.2) (n - (a + 1)) (fun r => MLr ((mlI n nx n ++ mlJ n nx a) ++ mlB n nx a (n - (a + 1))) r.1 r.2.1 r.2.2.1 r.2.2.2)
        (by
          rintro k ⟨s1, tA, tB, gv, mv⟩ hk ⟨e1, e2⟩
          have e1 : s1 = nI (a + 1 + k) := e1
          subst e1
          left
          have hp := hpl (hpre (k + 1) (by omega))
          have hp : (((mlI n nx n ++ mlJ n nx a) ++ (mlB n nx a k ++ mlC (nx a &&& nx (a + 1 + k)) a (a + 1 + k) n))).length ≤ 224 := hp
          rw [← List.append_assoc] at hp
          obtain ⟨tA', tB', gv', mv', q1, q2⟩ := addMoves_ok hn e2 (a := a) (b := a + 1 + k) (t := nx a &&& nx (a + 1 + k)) (Nat.lt_of_le_of_lt Nat.and_le_left (hb a)) hp
          refine ⟨(nI (a + 1 + k) + 1, tA', tB', gv', mv'), ?_, nI_ad (a + 1 + k) 1, by rw [List.append_assoc] at q2; exact q2⟩
          unfold Search_listMoves_L52
          show (if nI (a + 1 + k) < nI n then gd (ix (nI a) 12) (gd (ix (nI (a + 1 + k)) 12) (ob (Search_addMoves tA tB gv mv (nI n) (nI a) (nI (a + 1 + k)) (next (nI a).toNatClampNeg &&& next (nI (a + 1 + k)).toNatClampNeg)) _)) else _) = _
          rw [if_pos ((nI_ltN (by omega) (by omega)).mpr (by omega)), gd_eq (ixN (by omega) (by omega)), gd_eq (ixN (by omega) (by omega)), nI_clamp (by omega), nI_clamp (by omega), hx a (by omega), hx (a + 1 + k) (by omega), and_nI (by have := hb a; omega) (by have := hb (a + 1 + k); omega), ob_eq q1])
        (by
          rintro ⟨s1, σ⟩ ⟨e1, e2⟩
          have e1 : s1 = nI (a + 1 + (n - (a + 1))) := e1
          subst e1
          refine ⟨σ, ?_, e2⟩
          unfold Search_listMoves_L52
          exact if_neg (fun z => by have := (nI_ltN (by omega) (by omega)).mp z; omega))
        0 (nI (a + 1), τ) (Nat.zero_le _) ⟨rfl, by show MLr ((mlI n nx n ++ mlJ n nx a) ++ []) _ _ _ _; rw [List.append_nil]; exact hτ⟩
      refine ⟨τ', q1, ?_⟩
      rw [List.append_assoc] at q2
      exact q2
    obtain ⟨⟨tA2, tB2, gv2, mv2⟩, q1, q2⟩ := lp_inv (f := Search_listMoves_L35 1 (nI n) next) (fun k s => s.1 = nI k ∧ MLr (mlI n nx n ++ mlJ n nx k) s.2.1 s.2.2.1 s.2.2.2.1 s.2.2.2.2) n (fun r => MLr (mlI n nx n ++ mlJ n nx n) r.1 r.2.1 r.2.2.1 r.2.2.2)
      (by
        rintro k ⟨s1, τ⟩ hk ⟨e1, e2⟩
        have e1 : s1 = nI k := e1
        subst e1
        left
        obtain ⟨τ', q1, q2⟩ := mid k hk τ e2
        refine ⟨(nI k + 1, τ'), ?_, nI_ad k 1, q2⟩
        unfold Search_listMoves_L35
        rw [if_neg (by decide)]
        show (if nI k < nI n then ob (lp (Search_listMoves_L52 1 (nI k) (nI n) next) (nI k + nI 1, τ)) _ else _) = _
        rw [if_pos ((nI_ltN (by omega) (by omega)).mpr hk), nI_ad, ob_eq q1])
      (by
        rintro ⟨s1, σ⟩ ⟨e1, e2⟩
        have e1 : s1 = nI n := e1
        subst e1
        refine ⟨σ, ?_, e2⟩
        unfold Search_listMoves_L35
        rw [if_neg (by decide)]
        exact if_neg (fun z => by have := (nI_ltN (by omega) (by omega)).mp z; omega))
      0 (0, tA1, tB1, gv1, mv1) (Nat.zero_le _) ⟨rfl, by show MLr (mlI n nx n ++ []) _ _ _ _; rw [List.append_nil]; exact r2⟩
    exact fin q1 q2
end LST
/-- a bit for each rank -/
def bitS (seen : Nat → Int32) (r : Nat) : Bool := (seen (r / 32)).toBitVec.getLsbD (r % 32)
theorem nI_bit {x i : Nat} (hx : x < 2 ^ 32) : (nI x).toBitVec.getLsbD i = x.testBit i := by
  rw [BitVec.getLsbD, pk_tn hx]
theorem and_bit (x : Int32) {q : Nat} (hq : q < 32) : (x &&& nI (2 ^ q)) = 0 ↔ x.toBitVec.getLsbD q = false := by
  have h2 : 2 ^ q < 2 ^ 32 := Nat.pow_lt_pow_right (by omega) hq
  constructor
  · intro h
    have h1 : (x &&& nI (2 ^ q)).toBitVec.getLsbD q = (0 : Int32).toBitVec.getLsbD q := by rw [h]
    have h3 : (x &&& nI (2 ^ q)).toBitVec.getLsbD q = (x.toBitVec.getLsbD q && (nI (2 ^ q)).toBitVec.getLsbD q) := BitVec.getLsbD_and
    rw [h3, nI_bit h2, Nat.testBit_two_pow_self, Bool.and_true] at h1
    rw [h1]
    show (0#32).getLsbD q = false
    simp
  · intro h
    apply Int32.toBitVec.inj
    apply BitVec.eq_of_getLsbD_eq
    intro i hi
    have h3 : (x &&& nI (2 ^ q)).toBitVec.getLsbD i = (x.toBitVec.getLsbD i && (nI (2 ^ q)).toBitVec.getLsbD i) := BitVec.getLsbD_and
    have h4 : (0 : Int32).toBitVec.getLsbD i = false := by
      show (0#32).getLsbD i = false
      simp
    rw [h3, h4, nI_bit h2, Nat.testBit_two_pow]
    by_cases e : q = i
    · subst e; rw [h]; rfl
    · rw [decide_eq_false e, Bool.and_false]
theorem or_bit (x : Int32) {q i : Nat} (hq : q < 32) : (x ||| nI (2 ^ q)).toBitVec.getLsbD i = (x.toBitVec.getLsbD i || decide (q = i)) := by
  have h2 : 2 ^ q < 2 ^ 32 := Nat.pow_lt_pow_right (by omega) hq
  have h3 : (x ||| nI (2 ^ q)).toBitVec.getLsbD i = (x.toBitVec.getLsbD i || (nI (2 ^ q)).toBitVec.getLsbD i) := BitVec.getLsbD_or
  rw [h3, nI_bit h2, Nat.testBit_two_pow]
theorem bitS_set (seen : Nat → Int32) (k r : Nat) : bitS (upd seen (k / 32) (seen (k / 32) ||| nI (2 ^ (k % 32)))) r = (bitS seen r || decide (r = k)) := by
  unfold bitS
  by_cases e : r / 32 = k / 32
  · rw [e, upd_at, or_bit _ (Nat.mod_lt _ (by omega))]
    congr 1
    by_cases z : r = k
    · rw [decide_eq_true z, decide_eq_true (by rw [z])]
    · rw [decide_eq_false z, decide_eq_false (fun y => z (by omega))]
  · rw [upd_ne e, decide_eq_false (fun z => e (by rw [z])), Bool.or_false]
section ADD
variable {n : Nat} {below row seen lay st : Nat → Int32} {nseen nlay N : Nat} {g : Nat → Nat} {a1 : Int32}
theorem tot_n8 (hn : n ≤ 8) (hg : SG n g) : totS g n = totS g 8 := by
  have : ∀ k, n ≤ k → totS g k = totS g n := by
    intro k
    induction k with
    | zero => intro h; rw [show n = 0 by omega]
    | succ k ih =>
      intro h
      by_cases e : n = k + 1
      · rw [e]
      · show totS g k + g k = _
        rw [ih (by omega), hg.1 k (by omega), Nat.add_zero]
  exact (this 8 hn).symm
theorem add_head (hb : RBk below) (hn : n ≤ 8) (hg : SG n g) (hr : ∀ w, w < n → row w = nI (g w)) (hk : rkS g n n < 32 * nseen) (hs : nseen < 2 ^ 26) :
    Search_addIfNew below row seen nseen lay nlay st nlay (nI N) (nI n) a1 = if bitS seen (rkS g n n) = false then (if nI N < nI nlay then (gd (ix (nI N) nlay) (gd (ix (nI N) nlay) (some (upd seen (rkS g n n / 32) (seen (rkS g n n / 32) ||| nI (2 ^ (rkS g n n % 32))), upd lay (nI N).toNatClampNeg (cdS g), upd st (nI N).toNatClampNeg (vp_nar .byte a1), nI N + 1)))) else some (seen, lay, st, nI N)) else some (seen, lay, st, nI N) := by
  have ht := hg.2
  have htn := tot_n8 hn hg
  have h5 : nI (rkS g n n) >>> ((5 : Int32) &&& 31) = nI (rkS g n n / 32) := by
    rw [show (5 : Int32) = nI 5 from rfl]
    exact pk_shrN (by omega) _ 5 (sm32 5 (by omega))
  have h31 : (nI (rkS g n n) &&& 31) = nI (rkS g n n % 32) := by
    rw [show (31 : Int32) = nI 31 from rfl, and_nI (by omega) (by omega)]
    congr 1
    exact Nat.and_two_pow_sub_one_eq_mod _ 5
  have hdiv : rkS g n n / 32 < nseen := by omega
  have hm : rkS g n n % 32 < 32 := Nat.mod_lt _ (by omega)
  unfold Search_addIfNew
  rw [ob_eq (rank_ok hb hn (show n ≤ 8 from hn) (by omega) hr (by omega)), h5, h31, shl_nI hm, if_pos (show nI (rkS g n n / 32) < Int32.ofNat nseen from (nI_ltN (by omega) (by omega)).mpr hdiv), gd_eq (ixN hdiv (by omega)), gd_eq (ixN hdiv (by omega)), gd_eq (ixN hdiv (by omega)), nI_clamp (show rkS g n n / 32 < 2 ^ 31 by omega), ob_eq (packed_ok hn hg hr)]
  show (if (seen (rkS g n n / 32) &&& nI (2 ^ (rkS g n n % 32))) = 0 then _ else _) = _
  unfold bitS
  by_cases z : (seen (rkS g n n / 32)).toBitVec.getLsbD (rkS g n n % 32) = false
  · rw [if_pos ((and_bit _ hm).mpr z), if_pos z]
    rfl
  · rw [if_neg (fun y => z ((and_bit _ hm).mp y)), if_neg z]
end ADD
/-- no more layings than there is room for -/
theorem nodup_map_inj {φ : Nat → Nat} : ∀ {N : Nat}, (∀ i j, i < j → j < N → ¬ φ i = φ j) → ((List.range N).map φ).Nodup := by
  intro N
  induction N with
  | zero => intro _; exact List.nodup_nil
  | succ N ih =>
    intro h
    rw [List.range_succ, List.map_append, List.nodup_append]
    refine ⟨ih (fun i j h1 h2 => h i j h1 (by omega)), by simp, fun a ha b hb e => ?_⟩
    rw [List.mem_map] at ha
    obtain ⟨i, i1, i2⟩ := ha
    have hb : b = φ N := by simpa using hb
    exact h i N (List.mem_range.mp i1) (Nat.lt_succ_self N) (by rw [i2, e, hb])
theorem rk_eq {n : Nat} {g g' : Nat → Nat} (hg : SG n g) (hg' : SG n g') (h : rkS g n n = rkS g' n n) : g = g' := by
  have := (rkS_inj h).2
  funext j
  by_cases e : j < n
  · have := this (n - j - 1) (by omega)
    rw [show n - (n - j - 1) - 1 = j by omega] at this
    exact this
  · rw [hg.1 j (by omega), hg'.1 j (by omega)]
theorem rk_lt {n : Nat} (hn : n ≤ 8) {g : Nat → Nat} (hg : SG n g) {s : Nat} (h : totS g 8 < s) : rkS g n n < rbS n s := by
  have h1 := rkS_lt g n n
  have h2 := sxS_tot (g := g) (n := n) (k := n) (Nat.le_refl _)
  have h3 := tot_n8 hn hg
  rw [Nat.sub_self] at h2
  have h2 : sxS g n n + 0 = totS g n := h2
  exact Nat.lt_of_lt_of_le h1 (rbS_mono (by omega))
theorem QI.fits {n : Nat} {ml : List M3} {s0 : Nat → Nat} {K R : (Nat → Nat) → Prop} {G : List (Nat → Nat)} {f : Nat → Nat} {i m : Nat} (hn : n ≤ 8) (hm : ∀ j, j < ml.length → in8 n (mvN ml j)) (hml : ml.length ≤ 224) (h0 : SG n s0) (h : QI ml s0 K R G f i m) (hd : ∀ j j', j < j' → j' < G.length → ¬ G.getD j z0S = G.getD j' z0S) : G.length ≤ 225 + rbS n (totS s0 8 - 1) := by
  have key : ∀ j, 0 < j → j < G.length → (lvl s0 (G.getD j z0S) = 1 ∧ f j < 224 ∧ G.getD j z0S = goS s0 (mvN ml (f j))) ∨ (¬ lvl s0 (G.getD j z0S) = 1 ∧ rkS (G.getD j z0S) n n < rbS n (totS s0 8 - 1)) := by
    intro j j1 j2
    obtain ⟨d, hd⟩ := h.2.2.1 j j1 j2
    have e1 := hd.lv hn hm h0
    have e2 := hd.tot hn hm h0
    by_cases z : d = 0
    · subst z
      left
      obtain ⟨s', x, w1, w2, w3, w4, w5⟩ := hd
      have w1 : s' = s0 := w1
      subst w1
      have := w5 rfl
      subst this
      exact ⟨e1, by omega, w4⟩
    · right
      exact ⟨by omega, rk_lt hn e2.1 (by omega)⟩
  have hN : ((List.range (G.length - 1)).map (fun j => if lvl s0 (G.getD (j + 1) z0S) = 1 then f (j + 1) else 224 + rkS (G.getD (j + 1) z0S) n n)).length ≤ 224 + rbS n (totS s0 8 - 1) := by
    refine nodup_len (nodup_map_inj (fun i j hij hj e => ?_)) (fun q hq => ?_)
    · have a1 := key (i + 1) (by omega) (by omega)
      have a2 := key (j + 1) (by omega) (by omega)
      apply hd (i + 1) (j + 1) (by omega) (by omega)
      rcases a1 with ⟨b1, b2, b3⟩ | ⟨b1, b2⟩
      · rw [if_pos b1] at e
        rcases a2 with ⟨c1, c2, c3⟩ | ⟨c1, c2⟩
        · rw [if_pos c1] at e
          rw [b3, c3, e]
        · rw [if_neg c1] at e; omega
      · rw [if_neg b1] at e
        rcases a2 with ⟨c1, c2, c3⟩ | ⟨c1, c2⟩
        · rw [if_pos c1] at e; omega
        · rw [if_neg c1] at e
          exact rk_eq (h.good hn hm h0 (by omega)) (h.good hn hm h0 (by omega)) (by omega)
    · rw [List.mem_map] at hq
      obtain ⟨j, j1, j2⟩ := hq
      have j1 := List.mem_range.mp j1
      rw [← j2]
      rcases key (j + 1) (by omega) (by omega) with ⟨c1, c2, c3⟩ | ⟨c1, c2⟩
      · rw [if_pos c1]; omega
      · rw [if_neg c1]; omega
  rw [List.length_map, List.length_range] at hN
  omega
