/-! PRODUCT: the call -/
abbrev T25m := Int32 × Int32 × Int32 × Int32 × Int32 × Int32 × (Nat → Int32) × (Nat → Int32) × (Nat → Int32) × (Nat → Int32) × Int32 × (Nat → Int32) × (Nat → Int32) × (Nat → Int32) × (Nat → Int32) × (Nat → Int32) × Int32 × Int32 × Int32 × Int32 × Int32 × (Nat → Int32) × (Nat → Int32) × Int32 × Int32
def PCs (o : Option (Int32 × Int32 × Int32 × Int32 × Int32 × Int32 × (Nat → Int32) × Int32 × (Nat → Int32) × Int32 × (Nat → Int32) × Int32 × (Nat → Int32) × Int32 × (Nat → Int32) × Int32 × (Nat → Int32) × (Nat → Int32) × Int32 × (Nat → Int32) × (Nat → Int32) × Int32 × (Nat → Int32) × (Nat → Int32) × (Nat → Int32) × Nat × (Nat → Int32) × Nat × (Nat → Int32) × (Nat → Int32) × (Nat → Int32) × (Nat → Int32) × (Nat → Int32) × Int32 × Int32 × Int32 × Int32 × Nat × Nat)) (r len : Int32) (yn : T15o) : Prop := ∃ (c0 : Int32) (c1 : Int32) (c2 : Int32) (c3 : Int32) (c4 : (Nat → Int32)) (c5 : Int32) (c6 : (Nat → Int32)) (c7 : Int32) (c8 : (Nat → Int32)) (c9 : Int32) (c10 : (Nat → Int32)) (c11 : Int32) (c12 : (Nat → Int32)) (c13 : Int32) (c14 : (Nat → Int32)) (c15 : (Nat → Int32)) (c16 : Int32) (c17 : (Nat → Int32)) (c18 : (Nat → Int32)) (c19 : Int32) (c20 : (Nat → Int32)) (c21 : (Nat → Int32)), o = some (r, len, c0, c1, c2, c3, c4, c5, c6, c7, c8, c9, c10, c11, c12, c13, c14, c15, c16, c17, c18, c19, c20, c21, yn)
def PMs (o : Option (Int32 × (Nat → Int32) × (Nat → Int32) × Int32 × Int32 × (Nat → Int32) × (Nat → Int32) × Int32 × Int32 × Int32 × Int32 × Int32 × Int32 × Int32 × (Nat → Int32) × (Nat → Int32) × (Nat → Int32) × (Nat → Int32) × Int32 × (Nat → Int32) × (Nat → Int32) × (Nat → Int32) × (Nat → Int32) × (Nat → Int32) × Int32 × Int32 × Int32 × Int32 × Int32 × (Nat → Int32) × (Nat → Int32) × Int32 × Int32)) (r : Int32) (nt : Nat → Int32) (we tp : Int32) : Prop := ∃ (wa : Nat → Int32) (wW : Int32) (fa li : Nat → Int32) (ym : T25m), o = some (r, nt, wa, we, wW, fa, li, tp, ym)
/-- what product keeps of the numbers: sizes, and what it made -/
def SZp (nf : Nat) (y : T15o) : Prop := SZ2 y.2.1 y.2.2.2.1 ∧ nf ≤ y.2.1 ∧ y.2.2.2.2.2.2.2.2.2.2.2.2.2.1 ≤ 72 ∧ y.2.2.2.2.2.2.2.2.2.2.2.2.2.2 + 3 * nf ≤ 3 * y.2.1
theorem laysProduct_ok {n m : Nat} {A B : Nat → Nat → Bool} (hn0 : 1 ≤ n) (hn : n ≤ 12) (hm0 : 1 ≤ m) (hm : m ≤ 12) (hnm : n * m ≤ 12) {fN sN : Nat → Int32} (hf : ∀ w, w < n → fN w = nI (nxOf n A w)) (hs : ∀ w, w < m → sN w = nI (nxOf m B w)) (f : Int32) (many nx part new : Nat → Int32) :
    ∃ many' nx' new', Mo_laysProduct f many nx part new fN sN (nI n) (nI m) = some (f, many', nx', new') ∧ many' 0 = nI (n * m) ∧ ∀ w, w < n * m → nx' w = nI (nxOf (n * m) (adjP m A B) w) := by
  obtain ⟨d1, a1, a2, a3⟩ := Mo_laysProduct_L22_ok hn fN nx
  obtain ⟨d2, b1, b2, b3⟩ := Mo_laysProduct_L50_ok hm sN d1
  obtain ⟨nx', new', c1, c2, -⟩ := joins_prod (A := A) (B := B) (d := 0) (by omega) hnm (by omega) hn (by omega) hm (many := upd (upd many 0 (nI n)) 1 (nI m)) (nextAt := d2) (part := part) (nn := new) (by rw [upd_ne (by omega), upd_at]) (upd_at _ _ _) (fun w hw => by
    rw [Nat.mul_zero, Nat.zero_add, b3 w (by omega), a2 w hw, hf w hw]) (fun w hw => by
    show d2 (12 * 1 + w) = _
    rw [Nat.mul_one, b2 w hw, hs w hw]) f
  refine ⟨upd (upd (upd many 0 (nI n)) 1 (nI m)) 0 (nI (n * m)), nx', new', ?_, ?_, fun w hw => ?_⟩
  · unfold Mo_laysProduct
    rw [gd_eq (show ix 0 4 = true from rfl), gd_eq (show ix 1 4 = true from rfl), ob_eq a1, ob_eq b1]
    show ob (Mo_joins f (upd (upd many 0 (nI n)) 1 (nI m)) d2 part new (nI 0)) _ = _
    rw [ob_eq c1]
  · show upd _ 0 (nI (n * m)) 0 = _
    rw [upd_at]
  · have := c2 w hw
    rw [Nat.mul_zero, Nat.zero_add] at this
    exact this
theorem product_ok {n : Nat} {nx : Nat → Nat} (hG : GoodG n nx) {nextTo bytes tape : Nat → Int32} {len taped : Int32} (hx2 : ∀ w, w < 12 → nextTo w = nI (nx w)) (h : RT bytes len tape taped) {bc bs : Nat} (hbc : 100 ≤ bc) (hbs : 196608 ≤ bs) {nf nm : Nat} (hz : SZ2 nf nm)
    (en at_ fa w0 : Int32) (n0 : Nat → Int32) (w1 : Int32) (n1 : Nat → Int32) (w2 : Int32) (n2 : Nat → Int32) (wp : Int32) (np : Nat → Int32) (wx : Int32) (xx : Nat → Int32) (wf : Int32) (nff yf : Nat → Int32) (ws : Int32) (ns ys : Nat → Int32) (wq : Int32) (nq yq : Nat → Int32)
    (fo ma sh0 fi0 two full change : Nat → Int32) (mv wn sz ls : Int32) (was : Nat → Int32) (wasW : Int32) (far line : Nat → Int32) (pl l0 fm num cm sm : Int32) (many nextAt part new : Nat → Int32) (dep : Int32) (μ : T10m) (fN sN : Nat → Int32) (fM sM : Int32) (a1 : Int32) :
    ∃ r len' yn nt' tp', PCs (Dj_product bc bs bytes len en at_ fa w0 n0 w1 n1 w2 n2 wp np wx xx wf nff yf ws ns ys wq nq yq fo nf ma nm sh0 fi0 two full change mv wn sz ls a1) r len' yn ∧ SZp nf yn ∧
      PMs (Mo_product nextTo was (nI n) wasW far line tape taped pl l0 fm num cm sm many nextAt part new dep μ.1 μ.2.1 μ.2.2.1 μ.2.2.2.1 μ.2.2.2.2.1 μ.2.2.2.2.2.1 μ.2.2.2.2.2.2.1 μ.2.2.2.2.2.2.2.1 μ.2.2.2.2.2.2.2.2.1 μ.2.2.2.2.2.2.2.2.2 fN sN fM sM a1) r nt' (nI n) tp' ∧ RT bytes len' tape tp' ∧ ∀ w, w < 12 → nt' w = nI (nx w) := by
  have n12 := hG.1
  obtain ⟨k, hk, rfl, rfl, hbt⟩ := h
  have hR : RT bytes (nI k) tape (nI k) := ⟨k, hk, rfl, rfl, hbt⟩
  have hsame : SZp nf (fo, nf, ma, nm, sh0, fi0, two, full, change, mv, wn, sz, ls, 0, 0) := ⟨hz, Nat.le_refl _, Nat.zero_le _, by show 0 + 3 * nf ≤ 3 * nf; omega⟩
  by_cases h1 : a1 < 1
  · refine ⟨-1, nI k, _, nextTo, nI k, ?_, hsame, ?_, hR, hx2⟩
    · unfold Dj_product
      rw [ob_eq (holds_no1 h1), if_pos rfl]
      exact ⟨_, _, _, _, _, _, _, _, _, _, _, _, _, _, _, _, _, _, _, _, _, _, rfl⟩
    · unfold Mo_product
      rw [ob_eq (Mo_in_no1 h1), if_pos rfl]
      exact ⟨_, _, _, _, _, rfl⟩
  by_cases h2 : a1 ≤ 60
  case neg =>
    refine ⟨-1, nI k, _, nextTo, nI k, ?_, hsame, ?_, hR, hx2⟩
    · unfold Dj_product
      rw [ob_eq (holds_no2 h2), if_pos rfl]
      exact ⟨_, _, _, _, _, _, _, _, _, _, _, _, _, _, _, _, _, _, _, _, _, _, rfl⟩
    · unfold Mo_product
      rw [ob_eq (Mo_in_no2 h2), if_pos rfl]
      exact ⟨_, _, _, _, _, rfl⟩
  obtain ⟨E, hE, rfl⟩ := nI_between (h := 60) (by decide) (fun z => h1 (Int32.lt_trans z (by decide))) h2
  by_cases h3 : nI E ≤ nI k
  case neg =>
    refine ⟨-1, nI k, _, nextTo, nI k, ?_, hsame, ?_, hR, hx2⟩
    · unfold Dj_product
      rw [ob_eq (holds_no3 h3), if_pos rfl]
      exact ⟨_, _, _, _, _, _, _, _, _, _, _, _, _, _, _, _, _, _, _, _, _, _, rfl⟩
    · unfold Mo_product
      rw [ob_eq (Mo_in_yes h1 h2), if_neg one_ne0, if_neg h3]
      exact ⟨_, _, _, _, _, rfl⟩
  have h3' : E ≤ k := (nI_leN (by omega) (by omega)).mp h3
  have hT : TX bytes tape E := ⟨by omega, fun i hi => hbt i (by omega)⟩
  have hbeg : Tape_begin (nI k) en at_ fa (nI E) = some (0, nI E, 0, 0) := rfl
  have hbeg2 : Mo_beginsText pl l0 cm sm (nI E) = some (0, nI E, 0, 0) := rfl
  rcases two_both hT hE w0 n0 w1 n1 w2 n2 wp np wx xx wf nff ws ns wq nq fm num many nextAt part new dep fN sN fM sM with ⟨e, a, F, tl, p, tr, g1, g2, g3⟩ | ⟨n', m, A, B, e, a, r0, r1, r2, r3, r4, r5, r6, r7, r8, r9, xA, xB, xP, p, num', many', nx', part', new', dp', fN', sN', k1, k2, k3, k4, k5, sA, sB, cA, cB, cP, g1, g2, g3, g4⟩
  · refine ⟨F, 0, _, nextTo, 0, ?_, hsame, ?_, RT_zero _ _, hx2⟩
    · unfold Dj_product
      rw [ob_eq (holds_yes h1 h2 h3), if_neg one_ne0, ob_eq hbeg]
      dsimp only
      rw [ob_eq g1]
      dsimp only
      rw [if_neg g2]
      exact ⟨_, _, _, _, _, _, _, _, _, _, _, _, _, _, _, _, _, _, _, _, _, _, rfl⟩
    · unfold Mo_product
      rw [ob_eq (Mo_in_yes h1 h2), if_neg one_ne0, if_pos h3, ob_eq hbeg2]
      dsimp only
      rw [ob_eq g3]
      dsimp only
      rw [if_pos rfl]
      exact ⟨_, _, _, _, _, rfl⟩
  · have gA := nxOf_good k2 sA
    have gB := nxOf_good k4 sB
    have gP := nxOf_good k5 (adjP_sy (m := m) sA sB)
    obtain ⟨yA, mA1, mA2⟩ := measure_ok gA cA yf
    obtain ⟨yB, mB1, mB2⟩ := measure_ok gB cB ys
    obtain ⟨yP, mP1, mP2⟩ := measure_ok gP cP yq
    obtain ⟨wN, q1, q2⟩ := Mo_product_L54_ok nextTo was
    obtain ⟨t1, b1, b2⟩ := becomes_firstNext_ok k2 g3 (fun w hw => if_neg (by omega)) nextTo (nI n)
    obtain ⟨t2, c1, c2⟩ := becomes_secondNext_ok k4 g4 (fun w hw => if_neg (by omega)) t1 (nI n')
    obtain ⟨many9, nx9, new9, d1, d2, d3⟩ := laysProduct_ok (A := A) (B := B) k1 k2 k3 k4 k5 g3 g4 fm many' nx' part' new'
    obtain ⟨t3, f1, f2⟩ := becomes_nextAt_ok k5 d3 (fun w hw => if_neg (by omega)) t2 (nI m)
    obtain ⟨t4, i1, i2⟩ := becomes_wasNext_ok n12 (fun w hw => (q2 w (by omega)).trans (hx2 w (by omega))) hG.2.2.1 t3 (nI (n' * m))
    -- the reference, whatever is told
    have href : ∀ (v1 v2 v3 : Int32) (x1 x2 x3 : (Nat → Int32) × (Nat → Int32) × T10m), Mo_numberOfLand t1 (nI n') far line μ.1 μ.2.1 μ.2.2.1 μ.2.2.2.1 μ.2.2.2.2.1 μ.2.2.2.2.2.1 μ.2.2.2.2.2.2.1 μ.2.2.2.2.2.2.2.1 μ.2.2.2.2.2.2.2.2.1 μ.2.2.2.2.2.2.2.2.2 = some (v1, x1) →
        Mo_numberOfLand t2 (nI m) x1.1 x1.2.1 x1.2.2.1 x1.2.2.2.1 x1.2.2.2.2.1 x1.2.2.2.2.2.1 x1.2.2.2.2.2.2.1 x1.2.2.2.2.2.2.2.1 x1.2.2.2.2.2.2.2.2.1 x1.2.2.2.2.2.2.2.2.2.1 x1.2.2.2.2.2.2.2.2.2.2.1 x1.2.2.2.2.2.2.2.2.2.2.2 = some (v2, x2) →
        Mo_numberOfLand t3 (nI (n' * m)) x2.1 x2.2.1 x2.2.2.1 x2.2.2.2.1 x2.2.2.2.2.1 x2.2.2.2.2.2.1 x2.2.2.2.2.2.2.1 x2.2.2.2.2.2.2.2.1 x2.2.2.2.2.2.2.2.2.1 x2.2.2.2.2.2.2.2.2.2.1 x2.2.2.2.2.2.2.2.2.2.2.1 x2.2.2.2.2.2.2.2.2.2.2.2 = some (v3, x3) →
        PMs (Mo_product nextTo was (nI n) wasW far line tape (nI k) pl l0 fm num cm sm many nextAt part new dep μ.1 μ.2.1 μ.2.2.1 μ.2.2.2.1 μ.2.2.2.2.1 μ.2.2.2.2.2.1 μ.2.2.2.2.2.2.1 μ.2.2.2.2.2.2.2.1 μ.2.2.2.2.2.2.2.2.1 μ.2.2.2.2.2.2.2.2.2 fN sN fM sM (nI E)) (if v1 < 0 then 1000000 else if v2 < 0 then 1000000 else if v3 < 0 then 1000000 else v1 * v2 - v3) t4 (nI n) 0 := by
      intro v1 v2 v3 x1 x2 x3 e1 e2 e3
      unfold Mo_product Mo_product_J163
      rw [ob_eq (Mo_in_yes h1 h2), if_neg one_ne0, if_pos h3, ob_eq hbeg2]
      dsimp only
      rw [ob_eq g2]
      dsimp only
      rw [if_neg one_ne0, ob_eq q1, ob_eq b1]
      dsimp only
      rw [ob_eq e1]
      dsimp only
      rw [ob_eq c1]
      dsimp only
      rw [ob_eq e2]
      dsimp only
      rw [ob_eq d1]
      dsimp only
      rw [gd_eq (show ix 0 4 = true from rfl), show ((0 : Int32).toNatClampNeg) = 0 from rfl]
      simp only [d2]
      rw [ob_eq f1]
      dsimp only
      rw [ob_eq e3]
      dsimp only
      rw [ob_eq i1]
      dsimp only
      by_cases u1 : v1 < 0
      · rw [if_pos u1, if_pos u1]; exact ⟨_, _, _, _, _, rfl⟩
      · rw [if_neg u1, if_neg u1]
        by_cases u2 : v2 < 0
        · rw [if_pos u2, if_pos u2]; exact ⟨_, _, _, _, _, rfl⟩
        · rw [if_neg u2, if_neg u2]
          by_cases u3 : v3 < 0
          · rw [if_pos u3, if_pos u3]; exact ⟨_, _, _, _, _, rfl⟩
          · rw [if_neg u3, if_neg u3]; exact ⟨_, _, _, _, _, rfl⟩
    obtain ⟨v1, x1, e1, e1'⟩ := landRef_ok gA b2 mA2 far line μ
    obtain ⟨v2, x2, e2, e2'⟩ := landRef_ok gB c2 mB2 x1.1 x1.2.1 x1.2.2
    obtain ⟨v3, x3, e3, e3'⟩ := landRef_ok gP f2 mP2 x2.1 x2.2.1 x2.2.2
    have hM := href v1 v2 v3 x1 x2 x3 e1 e2 e3
    rcases e1' with ⟨z1, z2, z3⟩ | ⟨why, z1, z2, z3⟩
    · rcases e2' with ⟨y1, y2, y3⟩ | ⟨why, y1, y2, y3⟩
      · rcases e3' with ⟨x1', x2', x3'⟩ | ⟨why, x1', x2', x3'⟩
        · -- all are told
          obtain ⟨M1, yn1, X1, A1, A2, A3, A4⟩ := other_ok gA cA b2 mA2 (bc := bc) (bs := bs) (by omega) (by omega) hz z3 fo ma sh0 fi0 two full change mv wn sz ls far line μ
          rw [e1] at A4
          cases A4
          obtain ⟨s1, s2, s3, s4⟩ := A2
          have hf1 : yn1.2.1 ≤ 65536 := by rcases s1.1 with z | z <;> omega
          obtain ⟨M2, yn2, X2, B1, B2, B3, B4⟩ := other_ok gB cB c2 mB2 (bc := bc - (0 + yn1.2.2.2.2.2.2.2.2.2.2.2.2.2.1)) (bs := bs - (0 + yn1.2.2.2.2.2.2.2.2.2.2.2.2.2.2)) (by omega) (by omega) s1 y3 yn1.1 yn1.2.2.1 yn1.2.2.2.2.1 yn1.2.2.2.2.2.1 yn1.2.2.2.2.2.2.1 yn1.2.2.2.2.2.2.2.1 yn1.2.2.2.2.2.2.2.2.1 yn1.2.2.2.2.2.2.2.2.2.1 yn1.2.2.2.2.2.2.2.2.2.2.1 yn1.2.2.2.2.2.2.2.2.2.2.2.1 yn1.2.2.2.2.2.2.2.2.2.2.2.2.1 x1.1 x1.2.1 x1.2.2
          rw [e2] at B4
          cases B4
          obtain ⟨t1', t2', t3', t4'⟩ := B2
          have hf2 : yn2.2.1 ≤ 65536 := by rcases t1'.1 with z | z <;> omega
          obtain ⟨M3, yn3, X3, C1, C2, C3, C4⟩ := other_ok gP cP f2 mP2 (bc := bc - ((0 + yn1.2.2.2.2.2.2.2.2.2.2.2.2.2.1) + yn2.2.2.2.2.2.2.2.2.2.2.2.2.2.1)) (bs := bs - ((0 + yn1.2.2.2.2.2.2.2.2.2.2.2.2.2.2) + yn2.2.2.2.2.2.2.2.2.2.2.2.2.2.2)) (by omega) (by omega) t1' x3' yn2.1 yn2.2.2.1 yn2.2.2.2.2.1 yn2.2.2.2.2.2.1 yn2.2.2.2.2.2.2.1 yn2.2.2.2.2.2.2.2.1 yn2.2.2.2.2.2.2.2.2.1 yn2.2.2.2.2.2.2.2.2.2.1 yn2.2.2.2.2.2.2.2.2.2.2.1 yn2.2.2.2.2.2.2.2.2.2.2.2.1 yn2.2.2.2.2.2.2.2.2.2.2.2.2.1 x2.1 x2.2.1 x2.2.2
          rw [e3] at C4
          cases C4
          obtain ⟨u1', u2', u3', u4'⟩ := C2
          have hf3 : yn3.2.1 ≤ 65536 := by rcases u1'.1 with z | z <;> omega
          rw [if_neg z2, if_neg y2, if_neg x2'] at hM
          refine ⟨_, 0, (yn3.1, yn3.2.1, yn3.2.2.1, yn3.2.2.2.1, yn3.2.2.2.2.1, yn3.2.2.2.2.2.1, yn3.2.2.2.2.2.2.1, yn3.2.2.2.2.2.2.2.1, yn3.2.2.2.2.2.2.2.2.1, yn3.2.2.2.2.2.2.2.2.2.1, yn3.2.2.2.2.2.2.2.2.2.2.1, yn3.2.2.2.2.2.2.2.2.2.2.2.1, yn3.2.2.2.2.2.2.2.2.2.2.2.2.1, ((0 + yn1.2.2.2.2.2.2.2.2.2.2.2.2.2.1) + yn2.2.2.2.2.2.2.2.2.2.2.2.2.2.1) + yn3.2.2.2.2.2.2.2.2.2.2.2.2.2.1, ((0 + yn1.2.2.2.2.2.2.2.2.2.2.2.2.2.2) + yn2.2.2.2.2.2.2.2.2.2.2.2.2.2.2) + yn3.2.2.2.2.2.2.2.2.2.2.2.2.2.2), t4, 0, ?_, ⟨u1', by show nf ≤ yn3.2.1; omega, by dsimp only; omega, by dsimp only; omega⟩, hM, RT_zero _ _, i2⟩
          unfold Dj_product Dj_product_J124
          rw [ob_eq (holds_yes h1 h2 h3), if_neg one_ne0, ob_eq hbeg]
          dsimp only
          rw [ob_eq g1]
          dsimp only
          rw [if_pos rfl, ob_eq mA1, ob_eq mB1, ob_eq mP1]
          rw [ob_eq z1, if_pos rfl, ob_eq y1, if_pos rfl, ob_eq x1', if_pos rfl, Nat.sub_zero, Nat.sub_zero, ob_eq A1]
          dsimp only
          rw [gd_eq (cuOk_yes (by omega) (by omega)), ob_eq B1]
          dsimp only
          rw [gd_eq (cuOk_yes (by omega) (by omega)), ob_eq C1]
          dsimp only
          rw [gd_eq (cuOk_yes (by omega) (by omega))]
          exact ⟨_, _, _, _, _, _, _, _, _, _, _, _, _, _, _, _, _, _, _, _, _, _, rfl⟩
        · rw [if_neg z2, if_neg y2, if_pos x3'] at hM
          refine ⟨_, 0, _, t4, 0, ?_, hsame, hM, RT_zero _ _, i2⟩
          unfold Dj_product Dj_product_J124
          rw [ob_eq (holds_yes h1 h2 h3), if_neg one_ne0, ob_eq hbeg]
          dsimp only
          rw [ob_eq g1]
          dsimp only
          rw [if_pos rfl, ob_eq mA1, ob_eq mB1, ob_eq mP1]
          rw [ob_eq z1, if_pos rfl, ob_eq y1, if_pos rfl, ob_eq x2', if_neg x1']
          exact ⟨_, _, _, _, _, _, _, _, _, _, _, _, _, _, _, _, _, _, _, _, _, _, rfl⟩
      · rw [if_neg z2, if_pos y3] at hM
        refine ⟨_, 0, _, t4, 0, ?_, hsame, hM, RT_zero _ _, i2⟩
        unfold Dj_product Dj_product_J124
        rw [ob_eq (holds_yes h1 h2 h3), if_neg one_ne0, ob_eq hbeg]
        dsimp only
        rw [ob_eq g1]
        dsimp only
        rw [if_pos rfl, ob_eq mA1, ob_eq mB1, ob_eq mP1]
        rw [ob_eq z1, if_pos rfl, ob_eq y2, if_neg y1]
        exact ⟨_, _, _, _, _, _, _, _, _, _, _, _, _, _, _, _, _, _, _, _, _, _, rfl⟩
    · rw [if_pos z3] at hM
      refine ⟨_, 0, _, t4, 0, ?_, hsame, hM, RT_zero _ _, i2⟩
      unfold Dj_product Dj_product_J124
      rw [ob_eq (holds_yes h1 h2 h3), if_neg one_ne0, ob_eq hbeg]
      dsimp only
      rw [ob_eq g1]
      dsimp only
      rw [if_pos rfl, ob_eq mA1, ob_eq mB1, ob_eq mP1]
      rw [ob_eq z2, if_neg z1]
      exact ⟨_, _, _, _, _, _, _, _, _, _, _, _, _, _, _, _, _, _, _, _, _, _, rfl⟩
