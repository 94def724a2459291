/-! SYMMETRIES: the class's order, looks, twins -/
theorem b1 : ∀ i : Nat, i < 32 → (1 : Int32).toBitVec.getLsbD i = decide (i = 0) := by decide +kernel
theorem bm1 : ∀ i : Nat, i < 32 → (-1 : Int32).toBitVec.getLsbD i = true := by decide +kernel
theorem shrw_bit (x : Int32) {w : Nat} (hw : w < 32) : ((x >>> (nI w &&& 31)) &&& 1) = if x.toBitVec.getLsbD w then 1 else 0 := by
  apply Int32.toBitVec.inj
  apply BitVec.eq_of_getLsbD_eq
  intro i hi
  show (BitVec.sshiftRight x.toBitVec ((nI w &&& 31).toBitVec.smod 32).toNat &&& (1 : Int32).toBitVec).getLsbD i = _
  rw [sm32 _ hw, BitVec.getLsbD_and, BitVec.getLsbD_sshiftRight, b1 i hi]
  have e : (if x.toBitVec.getLsbD w = true then (1 : Int32) else 0).toBitVec.getLsbD i = (x.toBitVec.getLsbD w && decide (i = 0)) := by
    cases x.toBitVec.getLsbD w with
    | true => rw [if_pos rfl, b1 i hi]; rfl
    | false =>
      rw [if_neg (by decide)]
      show (0#32).getLsbD i = _
      simp
  rw [e]
  by_cases z : i = 0
  · subst z
    rw [decide_eq_false (show ¬ 32 ≤ 0 by omega), Nat.add_zero, if_pos hw]
    rfl
  · rw [decide_eq_false z, Bool.and_false, Bool.and_false]
theorem nIw_bit {m i : Nat} (hm : m < 2 ^ 32) : (nI m).toBitVec.getLsbD i = m.testBit i := by
  rw [← BitVec.testBit_toNat, pk_tn hm]
theorem nInot_bit {m i : Nat} (hm : m < 2 ^ 32) (hi : i < 32) : (nI m ^^^ (-1)).toBitVec.getLsbD i = !(m.testBit i) := by
  show ((nI m).toBitVec ^^^ (-1 : Int32).toBitVec).getLsbD i = _
  rw [BitVec.getLsbD_xor, bm1 i hi, nIw_bit hm, Bool.xor_true]
theorem lowest_ok (x : Int32) : ∃ l, Symmetry_lowest x = some (nI l) ∧ ((l < 11 ∧ x.toBitVec.getLsbD l = true ∧ ∀ w, w < l → x.toBitVec.getLsbD w = false) ∨ (l = 11 ∧ ∀ w, w < 11 → x.toBitVec.getLsbD w = false)) := by
  obtain ⟨r, r1, r2⟩ := lp_inv (f := Symmetry_lowest_L2 x) (fun k s => s = nI k ∧ ∀ w, w < k → x.toBitVec.getLsbD w = false) 11 (fun r => (∃ l, r = Sum.inl (nI l) ∧ l < 11 ∧ x.toBitVec.getLsbD l = true ∧ ∀ w, w < l → x.toBitVec.getLsbD w = false) ∨ (r = Sum.inr () ∧ ∀ w, w < 11 → x.toBitVec.getLsbD w = false))
    (by
      rintro k s hk ⟨rfl, e2⟩
      have hhead : Symmetry_lowest_L2 x (nI k) = if (if x.toBitVec.getLsbD k then (1 : Int32) else 0) = 0 then some (.inl (nI k + 1)) else some (.inr (.inl (nI k))) := by
        unfold Symmetry_lowest_L2
        rw [if_pos (show nI k < 11 from (nI_ltN (b := 11) (by omega) (by omega)).mpr hk), shrw_bit x (by omega)]
      cases hb : x.toBitVec.getLsbD k with
      | true =>
        right
        exact ⟨_, hhead.trans (by rw [hb]; exact if_neg (by decide)), Or.inl ⟨k, rfl, hk, hb, e2⟩⟩
      | false =>
        left
        refine ⟨_, hhead.trans (by rw [hb]; exact if_pos rfl), nI_ad k 1, fun w hw => ?_⟩
        by_cases y : w = k
        · rw [y]; exact hb
        · exact e2 w (by omega))
    (by
      rintro s ⟨rfl, e2⟩
      refine ⟨Sum.inr (), ?_, Or.inr ⟨rfl, e2⟩⟩
      unfold Symmetry_lowest_L2
      exact if_neg (by decide))
    0 0 (Nat.zero_le _) ⟨rfl, fun w hw => by omega⟩
  unfold Symmetry_lowest
  rw [ob_eq r1]
  rcases r2 with ⟨l, rfl, l1, l2, l3⟩ | ⟨rfl, l1⟩
  · exact ⟨l, rfl, Or.inl ⟨l1, l2, l3⟩⟩
  · exact ⟨11, rfl, Or.inr ⟨rfl, l1⟩⟩
/-- the order -/
def orS (n : Nat) (ord : Nat → Nat) : Prop := (∀ i, i < n → ord i < n) ∧ ∀ i j, i < n → j < n → ord i = ord j → i = j
def twS (nx : Nat → Nat) (v u : Nat) : Prop := ∀ x, ¬ x = u → ¬ x = v → (nx u).testBit x = (nx v).testBit x
section ORD
variable {n : Nat} {nx : Nat → Nat} {next ways : Nat → Int32}
theorem some_left {ord : Nat → Nat} {k : Nat} (hk : k < n) : ∃ w, w < n ∧ ∀ i, i < k → ¬ ord i = w := by
  refine Classical.byContradiction (fun hno => ?_)
  have hs : List.range n ⊆ (List.range k).map ord := fun w hw => by
    rw [List.mem_map]
    refine Classical.byContradiction (fun h2 => hno ⟨w, List.mem_range.mp hw, fun i hi e => h2 ⟨i, List.mem_range.mpr hi, e⟩⟩)
  have := List.Nodup.length_le_of_subset List.nodup_range hs
  rw [List.length_map, List.length_range, List.length_range] at this
  omega
theorem order_ok (hG : GoodG n nx) (hx : ∀ w, w < 12 → next w = nI (nx w)) {start : Nat} (hs : start < n ∨ n = 0) (hs2 : start < 12) (order : Nat → Int32) :
    ∃ ord order', lp (Symmetry_begin_L15 (nI n) next) (0, (1 : Int32) <<< (nI start &&& 31), 0, order) = some order' ∧ orS n ord ∧ (∀ i, i < n → order' i = nI (ord i)) ∧ (0 < n → ord 0 = start) := by
  have n12 := hG.1
  have h2n : 2 ^ n ≤ 2 ^ 12 := Nat.pow_le_pow_right (by omega) n12
  have h32 : ∀ P, mkP n P < 2 ^ 32 := fun P => Nat.lt_of_lt_of_le (mkP_lt n P) (by omega)
  rcases hs with hs | rfl
  case inr =>
    refine ⟨fun _ => 0, order, lp_inr ?_, ⟨fun i hi => by omega, fun i j hi => by omega⟩, fun i hi => by omega, fun h => by omega⟩
    unfold Symmetry_begin_L15
    exact if_neg (show ¬ (0 : Int32) < nI 0 by decide)
  obtain ⟨r, r1, r2⟩ := lp_inv (f := Symmetry_begin_L15 (nI n) next) (fun k s => s.2.2.1 = nI k ∧ ∃ ord nr, (∀ i, i < k → ord i < n) ∧ (∀ i j, i < k → j < k → ord i = ord j → i = j) ∧ (∀ i, i < k → s.2.2.2 i = nI (ord i)) ∧ s.1 = nI (mkP n (fun w => ∃ i, i < k ∧ ord i = w)) ∧ s.2.1 = nI nr ∧ nr < 2 ^ n ∧ (k = 0 → nr = 2 ^ start) ∧ (0 < k → ord 0 = start)) n (fun r => ∃ ord, orS n ord ∧ (∀ i, i < n → r i = nI (ord i)) ∧ (0 < n → ord 0 = start))
    (by
      rintro k ⟨s1, s2, s3, od⟩ hk ⟨e1, ord, nr, e2, e3, e4, e5, e6, e7, e8, e9⟩
      dsimp only at e1 e4 e5 e6
      subst e1; subst e5; subst e6
      left
      -- the next one
      have hl : ∃ l, l < n ∧ (∀ i, i < k → ¬ ord i = l) ∧ (k = 0 → l = start) ∧ Symmetry_begin_L15 (nI n) next (nI (mkP n (fun w => ∃ i, i < k ∧ ord i = w)), nI nr, nI k, od) = some (.inl (nI (mkP n (fun w => ∃ i, i < k ∧ ord i = w)) ||| nI (2 ^ l), nI nr ||| nI (nx l), nI k + 1, upd od k (nI l))) := by
        have hJ : ∀ (x : Int32) (l : Nat), l < n → Symmetry_lowest x = some (nI l) → Symmetry_begin_L15_J48 (nI (mkP n (fun w => ∃ i, i < k ∧ ord i = w))) (nI nr) (nI k) x od (nI n) next = some (.inl (nI (mkP n (fun w => ∃ i, i < k ∧ ord i = w)) ||| nI (2 ^ l), nI nr ||| nI (nx l), nI k + 1, upd od k (nI l))) := fun x l hl hx2 => by
          unfold Symmetry_begin_L15_J48
          rw [ob_eq hx2, gd_eq (ixN (show k < 12 by omega) (by omega)), gd_eq (ixN (show l < 12 by omega) (by omega)), shl_nI (by omega), nI_clamp (show l < 2 ^ 31 by omega), nI_clamp (show k < 2 ^ 31 by omega), hx l (by omega)]
        have hhead : Symmetry_begin_L15 (nI n) next (nI (mkP n (fun w => ∃ i, i < k ∧ ord i = w)), nI nr, nI k, od) = if nI (less nr (mkP n (fun w => ∃ i, i < k ∧ ord i = w))) = 0 then Symmetry_begin_L15_J48 (nI (mkP n (fun w => ∃ i, i < k ∧ ord i = w))) (nI nr) (nI k) (nI (mkP n (fun w => ∃ i, i < k ∧ ord i = w)) ^^^ (-1)) od (nI n) next else Symmetry_begin_L15_J48 (nI (mkP n (fun w => ∃ i, i < k ∧ ord i = w))) (nI nr) (nI k) (nI (less nr (mkP n (fun w => ∃ i, i < k ∧ ord i = w)))) od (nI n) next := by
          unfold Symmetry_begin_L15
          dsimp only
          rw [if_pos ((nI_ltN (by omega) (by omega)).mpr hk), nand_nI (by omega) (h32 _)]
        have hll := less_lt (b := mkP n (fun w => ∃ i, i < k ∧ ord i = w)) e7
        by_cases z : less nr (mkP n (fun w => ∃ i, i < k ∧ ord i = w)) = 0
        · rw [z, if_pos (show nI 0 = 0 from rfl)] at hhead
          obtain ⟨w0, w1, w2⟩ := some_left (ord := ord) hk
          have hbit : ∀ w, w < 32 → (nI (mkP n (fun w => ∃ i, i < k ∧ ord i = w)) ^^^ (-1)).toBitVec.getLsbD w = !((mkP n (fun w => ∃ i, i < k ∧ ord i = w)).testBit w) := fun w hw => nInot_bit (h32 _) hw
          have hw0 : (nI (mkP n (fun w => ∃ i, i < k ∧ ord i = w)) ^^^ (-1)).toBitVec.getLsbD w0 = true := by
            rw [hbit w0 (by omega)]
            cases hb : (mkP n (fun w => ∃ i, i < k ∧ ord i = w)).testBit w0 with
            | false => rfl
            | true =>
              obtain ⟨-, i, i1, i2⟩ := (mkP_bit _ _ _).mp hb
              exact absurd i2 (w2 i i1)
          have hk0 : ¬ k = 0 := fun y => by
            have := e8 y
            subst y
            have h3 : (less nr (mkP n (fun w => ∃ i, i < 0 ∧ ord i = w))).testBit start = true := by
              rw [less_bit, this, Nat.testBit_two_pow_self]
              cases hb : (mkP n (fun w => ∃ i, i < 0 ∧ ord i = w)).testBit start with
              | false => rfl
              | true =>
                obtain ⟨-, i, i1, i2⟩ := (mkP_bit _ _ _).mp hb
                omega
            rw [z, Nat.zero_testBit] at h3
            cases h3
          obtain ⟨l, l1, l2 | l2⟩ := lowest_ok (nI (mkP n (fun w => ∃ i, i < k ∧ ord i = w)) ^^^ (-1))
          · have hln : l ≤ w0 := by
              rcases Nat.lt_or_ge w0 l with y | y
              · rw [l2.2.2 w0 y] at hw0; cases hw0
              · exact y
            refine ⟨l, by omega, fun i hi e => ?_, fun y => absurd y hk0, hhead.trans (hJ _ l (by omega) l1)⟩
            have h3 := l2.2.1
            rw [hbit l (by omega), (mkP_bit n (fun w => ∃ i, i < k ∧ ord i = w) l).mpr ⟨by omega, i, hi, e⟩] at h3
            cases h3
          · have hw11 : w0 = 11 := by
              rcases Nat.lt_or_ge w0 11 with y | y
              · rw [l2.2 w0 y] at hw0; cases hw0
              · omega
            refine ⟨l, by omega, fun i hi e => w2 i hi (by omega), fun y => absurd y hk0, hhead.trans (hJ _ l (by omega) l1)⟩
        · rw [if_neg (show ¬ nI (less nr (mkP n (fun w => ∃ i, i < k ∧ ord i = w))) = 0 from fun y => z ((nI_inj (b := 0) (by omega) (by omega)).mp y))] at hhead
          have hbit : ∀ w, (nI (less nr (mkP n (fun w => ∃ i, i < k ∧ ord i = w)))).toBitVec.getLsbD w = (nr.testBit w && !((mkP n (fun w => ∃ i, i < k ∧ ord i = w)).testBit w)) := fun w => by rw [nIw_bit (by omega), less_bit]
          have hex : ∃ w, w < n ∧ (nI (less nr (mkP n (fun w => ∃ i, i < k ∧ ord i = w)))).toBitVec.getLsbD w = true := by
            refine Classical.byContradiction (fun hno => z (zero_of_bits (fun i => ?_)))
            cases hb : (less nr (mkP n (fun w => ∃ i, i < k ∧ ord i = w))).testBit i with
            | false => rfl
            | true => exact absurd ⟨i, bit_lt hll hb, by rw [nIw_bit (by omega)]; exact hb⟩ hno
          have hgood : ∀ l, (nI (less nr (mkP n (fun w => ∃ i, i < k ∧ ord i = w)))).toBitVec.getLsbD l = true → l < n ∧ (∀ i, i < k → ¬ ord i = l) ∧ (k = 0 → l = start) := fun l hl => by
            rw [hbit l, Bool.and_eq_true, Bool.not_eq_true'] at hl
            have hln := bit_lt e7 hl.1
            refine ⟨hln, fun i hi e => ?_, fun y => ?_⟩
            · rw [(mkP_bit n (fun w => ∃ i, i < k ∧ ord i = w) l).mpr ⟨hln, i, hi, e⟩] at hl
              cases hl.2
            · have h4 := hl.1
              rw [e8 y, Nat.testBit_two_pow] at h4
              exact (of_decide_eq_true h4).symm
          obtain ⟨l, l1, l2 | l2⟩ := lowest_ok (nI (less nr (mkP n (fun w => ∃ i, i < k ∧ ord i = w))))
          · obtain ⟨g1, g2, g3⟩ := hgood l l2.2.1
            exact ⟨l, g1, g2, g3, hhead.trans (hJ _ l g1 l1)⟩
          · obtain ⟨w, w1, w2⟩ := hex
            have hw : w = 11 := by
              rcases Nat.lt_or_ge w 11 with y | y
              · rw [l2.2 w y] at w2; cases w2
              · omega
            obtain ⟨g1, g2, g3⟩ := hgood w w2
            have e : l = w := by omega
            rw [← e] at g1 g2 g3
            exact ⟨l, g1, g2, g3, hhead.trans (hJ _ l g1 l1)⟩
      obtain ⟨l, l1, l2, l3, l4⟩ := hl
      refine ⟨_, l4, nI_ad k 1, fun i => if i = k then l else ord i, nr ||| nx l, fun i hi => ?_, fun i j hi hj e => ?_, fun i hi => ?_, ?_, ?_, ?_, fun y => by omega, fun _ => ?_⟩
      · by_cases y : i = k
        · show (if i = k then l else ord i) < n
          rw [if_pos y]; exact l1
        · show (if i = k then l else ord i) < n
          rw [if_neg y]; exact e2 i (by omega)
      · have e : (if i = k then l else ord i) = if j = k then l else ord j := e
        by_cases y1 : i = k
        · rw [if_pos y1] at e
          by_cases y2 : j = k
          · omega
          · rw [if_neg y2] at e; exact absurd e.symm (l2 j (by omega))
        · rw [if_neg y1] at e
          by_cases y2 : j = k
          · rw [if_pos y2] at e; exact absurd e (l2 i (by omega))
          · rw [if_neg y2] at e; exact e3 i j (by omega) (by omega) e
      · show upd od k (nI l) i = nI (if i = k then l else ord i)
        by_cases y : i = k
        · rw [if_pos y, y, upd_at]
        · rw [if_neg y, upd_ne y]; exact e4 i (by omega)
      · show nI (mkP n _) ||| nI (2 ^ l) = _
        rw [mkP_one l1, mkP_or n12]
        congr 1
        refine mkP_congr (fun w _ => ?_)
        constructor
        · rintro (⟨i, i1, i2⟩ | y)
          · exact ⟨i, by omega, by show (if i = k then l else ord i) = w; rw [if_neg (by omega)]; exact i2⟩
          · exact ⟨k, by omega, by show (if k = k then l else ord k) = w; rw [if_pos rfl]; exact y.symm⟩
        · rintro ⟨i, i1, i2⟩
          have i2 : (if i = k then l else ord i) = w := i2
          by_cases y : i = k
          · rw [if_pos y] at i2; exact Or.inr i2.symm
          · rw [if_neg y] at i2; exact Or.inl ⟨i, by omega, i2⟩
      · show nI nr ||| nI (nx l) = _
        have := hG.2.1 l
        rw [or_nI (by omega) (by omega)]
      · exact Nat.or_lt_two_pow e7 (hG.2.1 l)
      · show (if 0 = k then l else ord 0) = start
        by_cases y : 0 = k
        · rw [if_pos y]; exact l3 y.symm
        · rw [if_neg y]; exact e9 (by omega))
    (by
      rintro ⟨s1, s2, s3, od⟩ ⟨e1, ord, nr, e2, e3, e4, e5, e6, e7, e8, e9⟩
      dsimp only at e1 e4
      subst e1
      refine ⟨od, ?_, ord, ⟨e2, e3⟩, e4, e9⟩
      unfold Symmetry_begin_L15
      exact if_neg (fun z => by have := (nI_ltN (by omega) (by omega)).mp z; omega))
    0 (0, (1 : Int32) <<< (nI start &&& 31), 0, order) (Nat.zero_le _) ⟨rfl, fun _ => 0, 2 ^ start, fun i hi => by omega, fun i j hi => by omega, fun i hi => by omega, by
      show (0 : Int32) = nI _
      rw [mkP_congr (Q := fun _ => False) (fun w _ => ⟨fun ⟨i, i1, _⟩ => by omega, False.elim⟩), mkP_none]
      rfl, shl_nI (by omega), Nat.pow_lt_pow_right (by omega) hs, fun _ => rfl, fun h => by omega⟩
  obtain ⟨ord, o1, o2, o3⟩ := r2
  exact ⟨ord, r, r1, o1, o2, o3⟩
theorem look_ok (hG : GoodG n nx) (hr : RW n nx ways) {v : Nat} (hv : v < n) : Symmetry_look (nI n) ways (nI v) = some (loS n nx v) := by
  have n12 := hG.1
  unfold Symmetry_look
  have : lp (Symmetry_look_L5 (nI v) (nI n) ways) (Int64.ofNat 0, 0) = some (loF (fun u => hoI (dI n nx v u)) n) := by
    refine lp_run (fun k => (loF (fun u => hoI (dI n nx v u)) k, nI k)) n ?_ ?_
    · intro k hk
      unfold Symmetry_look_L5 Symmetry_look_L5_J45
      dsimp only
      rw [if_pos ((nI_ltN (by omega) (by omega)).mpr hk), ob_eq (way_in n12 hv hk), hr v k hv hk, show nI k + 1 = nI (k + 1) from nI_ad k 1]
      show _ = some (Sum.inl (loF (fun u => hoI (dI n nx v u)) k + hoI (dI n nx v k), nI (k + 1)))
      unfold hoI
      by_cases z : dI n nx v k < 0
      · rw [if_pos z, if_pos z]
      · rw [if_neg z, if_neg z]
    · unfold Symmetry_look_L5
      exact if_neg (fun z => by have := (nI_ltN (by omega) (by omega)).mp z; omega)
  exact ob_eq this
theorem twins_ok (hG : GoodG n nx) (hx : ∀ w, w < 12 → next w = nI (nx w)) {v : Nat} (hv : v < n) : Symmetry_twinsOf (nI n) next (nI v) = some (nI (mkP n (twS nx v))) := by
  have n12 := hG.1
  have h2n : 2 ^ n ≤ 2 ^ 12 := Nat.pow_le_pow_right (by omega) n12
  have hp : ∀ u, u < n → 2 ^ u < 2 ^ 12 := fun u hu => Nat.pow_lt_pow_right (by omega) (by omega)
  obtain ⟨r, r1, r2⟩ := lp_inv (f := Symmetry_twinsOf_L4 (nI v) (nI n) next) (fun k s => s.2 = nI k ∧ s.1 = nI (mkP n (fun u => u < k ∧ twS nx v u))) n (fun r => r = nI (mkP n (twS nx v)))
    (by
      rintro k ⟨s1, s2⟩ hk ⟨e1, e2⟩
      dsimp only at e1 e2
      subst e1; subst e2
      left
      have hvl := hG.2.1 v
      have hkl := hG.2.1 k
      have hxor : nx v ^^^ nx k < 2 ^ 12 := Nat.lt_of_lt_of_le (Nat.xor_lt_two_pow hvl hkl) h2n
      have hor : 2 ^ v ||| 2 ^ k < 2 ^ 12 := Nat.or_lt_two_pow (hp v hv) (hp k hk)
      have hpv := hp v hv
      have hpk := hp k hk
      have htw : nI (less (nx v ^^^ nx k) (2 ^ v ||| 2 ^ k)) = 0 ↔ twS nx v k := by
        have hl := less_lt (b := 2 ^ v ||| 2 ^ k) hxor
        constructor
        · intro z x h1 h2
          have z2 := (nI_inj (b := 0) (by omega) (by omega)).mp z
          have z3 : (less (nx v ^^^ nx k) (2 ^ v ||| 2 ^ k)).testBit x = false := by rw [z2, Nat.zero_testBit]
          rw [less_bit, Nat.testBit_xor, Nat.testBit_or, Nat.testBit_two_pow, Nat.testBit_two_pow, decide_eq_false (fun y => h2 y.symm), decide_eq_false (fun y => h1 y.symm)] at z3
          cases ha : (nx v).testBit x <;> cases hb : (nx k).testBit x <;> rw [ha, hb] at z3 <;> first | rfl | (exact absurd z3 (by decide))
        · intro h
          rw [zero_of_bits (m := less (nx v ^^^ nx k) (2 ^ v ||| 2 ^ k)) (fun x => ?_)]
          · rfl
          · rw [less_bit, Nat.testBit_xor, Nat.testBit_or, Nat.testBit_two_pow, Nat.testBit_two_pow]
            by_cases y1 : v = x
            · rw [decide_eq_true y1]; simp
            · by_cases y2 : k = x
              · rw [decide_eq_true y2]; simp
              · rw [h x (fun y => y2 y.symm) (fun y => y1 y.symm)]; simp
      have hhead : Symmetry_twinsOf_L4 (nI v) (nI n) next (nI (mkP n (fun u => u < k ∧ twS nx v u)), nI k) = if nI (less (nx v ^^^ nx k) (2 ^ v ||| 2 ^ k)) = 0 then some (.inl (nI (mkP n (fun u => u < k ∧ twS nx v u)) ||| nI (2 ^ k), nI k + 1)) else some (.inl (nI (mkP n (fun u => u < k ∧ twS nx v u)) ||| 0, nI k + 1)) := by
        unfold Symmetry_twinsOf_L4 Symmetry_twinsOf_L4_J59
        dsimp only
        rw [if_pos ((nI_ltN (by omega) (by omega)).mpr hk), gd_eq (ixN (show v < 12 by omega) (by omega)), gd_eq (ixN (show k < 12 by omega) (by omega)), nI_clamp (show v < 2 ^ 31 by omega), nI_clamp (show k < 2 ^ 31 by omega), hx v (by omega), hx k (by omega), shl_nI (show v < 32 by omega), shl_nI (show k < 32 by omega), xor_nI (by omega) (by omega), or_nI (by omega) (by omega), nand_nI (by omega) (by omega)]
      by_cases z : twS nx v k
      · refine ⟨_, hhead.trans (if_pos (htw.mpr z)), nI_ad k 1, ?_⟩
        show nI (mkP n _) ||| nI (2 ^ k) = _
        rw [mkP_one hk, mkP_or n12]
        congr 1
        refine mkP_congr (fun w _ => ?_)
        constructor
        · rintro (y | y)
          · exact ⟨by omega, y.2⟩
          · rw [y]; exact ⟨by omega, z⟩
        · rintro ⟨y1, y2⟩
          by_cases y : w = k
          · exact Or.inr y
          · exact Or.inl ⟨by omega, y2⟩
      · refine ⟨_, hhead.trans (if_neg (fun y => z (htw.mp y))), nI_ad k 1, ?_⟩
        show nI (mkP n _) ||| 0 = _
        rw [show (0 : Int32) = nI (mkP n (fun _ => False)) by rw [mkP_none]; rfl, mkP_or n12]
        congr 1
        refine mkP_congr (fun w _ => ?_)
        constructor
        · rintro (y | y)
          · exact ⟨by omega, y.2⟩
          · exact y.elim
        · rintro ⟨y1, y2⟩
          by_cases y : w = k
          · rw [y] at y2; exact absurd y2 z
          · exact Or.inl ⟨by omega, y2⟩)
    (by
      rintro ⟨s1, s2⟩ ⟨e1, e2⟩
      dsimp only at e1 e2
      subst e1
      refine ⟨s1, ?_, e2.trans ?_⟩
      · unfold Symmetry_twinsOf_L4
        exact if_neg (fun z => by have := (nI_ltN (by omega) (by omega)).mp z; omega)
      · congr 1
        exact mkP_congr (fun w hw => ⟨fun y => y.2, fun y => ⟨hw, y⟩⟩))
    0 (0, 0) (Nat.zero_le _) ⟨rfl, by
      show (0 : Int32) = nI _
      rw [mkP_congr (Q := fun _ => False) (fun w _ => ⟨fun y => by omega, False.elim⟩), mkP_none]
      rfl⟩
  unfold Symmetry_twinsOf
  rw [ob_eq r1, r2]
def beS (n : Nat) (nx : Nat → Nat) (ord : Nat → Nat) (order : Nat → Int32) (looks : Nat → Int64) (twins : Nat → Int32) : Prop := orS n ord ∧ (∀ i, i < n → order i = nI (ord i)) ∧ (∀ v, v < n → looks v = loS n nx v) ∧ ∀ v, v < n → twins v = nI (mkP n (twS nx v))
theorem begin_ok (hG : GoodG n nx) (hx : ∀ w, w < 12 → next w = nI (nx w)) (hr : RW n nx ways) {start : Nat} (hs : start < n ∨ n = 0) (hs2 : start < 12) (order : Nat → Int32) (looks : Nat → Int64) (twins : Nat → Int32) :
    ∃ ord order' looks' twins', Symmetry_begin order looks twins (nI n) next ways (nI start) = some (order', looks', twins') ∧ beS n nx ord order' looks' twins' ∧ (0 < n → ord 0 = start) := by
  have n12 := hG.1
  obtain ⟨ord, order', o1, o2, o3, o4⟩ := order_ok hG hx hs hs2 order
  obtain ⟨⟨lo, tw⟩, r1, r2, r3⟩ := lp_inv (f := Symmetry_begin_L93 (nI n) next ways) (fun k s => s.1 = nI k ∧ (∀ v, v < k → s.2.1 v = loS n nx v) ∧ ∀ v, v < k → s.2.2 v = nI (mkP n (twS nx v))) n (fun r => (∀ v, v < n → r.1 v = loS n nx v) ∧ ∀ v, v < n → r.2 v = nI (mkP n (twS nx v)))
    (by
      rintro k ⟨s1, lo, tw⟩ hk ⟨e1, e2, e3⟩
      dsimp only at e1 e2 e3
      subst e1
      left
      refine ⟨(nI k + 1, vp_updL lo k (loS n nx k), upd tw k (nI (mkP n (twS nx k)))), ?_, nI_ad k 1, fun v hv => ?_, fun v hv => ?_⟩
      · unfold Symmetry_begin_L93
        dsimp only
        rw [if_pos ((nI_ltN (by omega) (by omega)).mpr hk), ob_eq (look_ok hG hr hk), gd_eq (ixN (show k < 12 by omega) (by omega)), ob_eq (twins_ok hG hx hk), gd_eq (ixN (show k < 12 by omega) (by omega)), nI_clamp (show k < 2 ^ 31 by omega)]
      · show (if v = k then loS n nx k else lo v) = loS n nx v
        by_cases y : v = k
        · rw [if_pos y, y]
        · rw [if_neg y]; exact e2 v (by omega)
      · show upd tw k _ v = _
        by_cases y : v = k
        · rw [y, upd_at]
        · rw [upd_ne y]; exact e3 v (by omega))
    (by
      rintro ⟨s1, lo, tw⟩ ⟨e1, e2, e3⟩
      dsimp only at e1 e2 e3
      subst e1
      refine ⟨(lo, tw), ?_, e2, e3⟩
      unfold Symmetry_begin_L93
      exact if_neg (fun z => by have := (nI_ltN (by omega) (by omega)).mp z; omega))
    0 (0, looks, twins) (Nat.zero_le _) ⟨rfl, fun v hv => by omega, fun v hv => by omega⟩
  refine ⟨ord, order', lo, tw, ?_, ⟨o2, o3, r2, r3⟩, o4⟩
  unfold Symmetry_begin
  rw [ob_eq o1, ob_eq r1]
end ORD
