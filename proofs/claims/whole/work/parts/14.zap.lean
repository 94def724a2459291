/-! MORE WAYS TO SEE THE WORLD BEHIND A CALL -/
theorem AftG.listZ {hs hs' hc hc' : List ce} {is0 is1 bd : List Nat} {kp : Nat → Bool} (hl0 : is0.length = hc.length) (hl : (is0 ++ is1).length = hc'.length) (hn : va_nd (is0 ++ is1) = true) (h1 : is1 = (List.range is1.length).map (fun j => hs.length + j))
    (hb0 : (List.range is0.length).all (fun j => kp j || inB bd ((is0 ++ is1).getD j j)) = true) (hb1 : is1.all (inB bd) = true)
    (h2 : (is0 ++ is1).map (fun i => hs'[i]?) = hc'.map (fun c => some (rE (fun j => (is0 ++ is1).getD j j) c))) (h4 : zap is0 0 hs = zap is0 0 (hs'.take hs.length)) (h5 : hs'.length = hs.length + is1.length) (hw : wokx (is0 ++ is1) bd 0 hs = true) (hr : wltB hc'.length hc' = true) : AftG (fun j => (is0 ++ is1).getD j j) bd kp hc hc' hs hs' := by
  have hget : ∀ j, j < hc'.length → (is0 ++ is1)[j]? = some ((is0 ++ is1).getD j j) := by
    intro j hj
    rw [List.getD_eq_getElem?_getD, List.getElem?_eq_getElem (by omega)]; rfl
  have hll : is0.length + is1.length = hc'.length := by rw [← hl, List.length_append]
  have hnewp : ∀ j, j < hc'.length → hc.length ≤ j → (is0 ++ is1).getD j j = hs.length + (j - hc.length) := by
    intro j hj hj2
    have h3 := hget j hj
    rw [List.getElem?_append_right (by omega)] at h3
    have h5 : ((List.range is1.length).map (fun j => hs.length + j))[j - is0.length]? = some (hs.length + (j - is0.length)) := by
      rw [List.getElem?_map, List.getElem?_range (by omega)]; rfl
    rw [← h1, h3] at h5
    have := Option.some.inj h5
    omega
  have hout : ∀ k, (∀ j, j < hc'.length → (is0 ++ is1).getD j j ≠ k) → k ∉ is0 ++ is1 := by
    intro k hk hm
    obtain ⟨j, hj⟩ := List.getElem?_of_mem hm
    have hjl : j < hc'.length := by rw [← hl]; exact (List.getElem?_eq_some_iff.mp hj).1
    have := hget j hjl
    rw [hj] at this
    exact hk j hjl (Option.some.inj this).symm
  refine ⟨fun i j hi hj hij => va_nd_inj _ hn i j _ (hget i hi) (by rw [show (is0 ++ is1).getD i i = (is0 ++ is1).getD j j from hij]; exact hget j hj), ?_, ?_, ?_, ?_, ?_, ?_, by omega⟩
  · intro j hj hj2
    show hs[(is0 ++ is1).getD j j]? = none
    rw [hnewp j hj hj2]
    exact List.getElem?_eq_none (by omega)
  · intro j hj hq
    rw [← inB_mem]
    by_cases hj0 : j < hc.length
    · have h3 := List.all_eq_true.mp hb0 j (List.mem_range.mpr (by omega))
      rcases hq with hq | hq
      · omega
      · rw [hq] at h3
        simpa using h3
    · have h3 := hget j hj
      rw [List.getElem?_append_right (by omega)] at h3
      exact List.all_eq_true.mp hb1 _ (List.mem_of_getElem? h3)
  · intro j c hj
    have hjl := (List.getElem?_eq_some_iff.mp hj).1
    have h3 := congrArg (fun L => L[j]?) h2
    simp only [List.getElem?_map, hget j hjl, hj, Option.map_some] at h3
    exact Option.some.inj h3
  · intro k hk
    have hk2 := hout k hk
    by_cases h3 : k < hs.length
    · have h6 : (zap is0 0 hs)[k]? = (zap is0 0 (hs'.take hs.length))[k]? := congrArg (fun L => L[k]?) h4
      have h7 : 0 + k ∉ is0 := by rw [Nat.zero_add]; exact fun z => hk2 (List.mem_append_left _ z)
      rw [zap_get hs 0 k h7, zap_get _ 0 k h7, List.getElem?_take_of_lt h3] at h6
      exact h6.symm
    · rw [List.getElem?_eq_none (l := hs) (by omega)]
      rcases Nat.lt_or_ge (k - hs.length) is1.length with h6 | h6
      · exfalso
        refine hk (hc.length + (k - hs.length)) (by omega) ?_
        show (is0 ++ is1).getD (hc.length + (k - hs.length)) (hc.length + (k - hs.length)) = k
        rw [hnewp _ (by omega) (by omega)]
        omega
      · exact List.getElem?_eq_none (by omega)
  · intro k c hc0 hk
    refine wokx_at hs 0 hw k c hc0 ?_
    rw [Nat.zero_add]
    exact hout k hk
  · intro c hc0
    have h3 := List.all_eq_true.mp hr c hc0
    rcases c with x | ⟨ci, fs⟩
    · trivial
    · intro k hk
      have h4 := List.all_eq_true.mp (show fs.all _ = true from h3) _ hk
      left
      simpa [Nat.blt_eq] using h4
theorem Sub.suf {n : Nat} {A hc : List ce} (hA : A.length = n) : Sub (fun j => n + j) hc (A ++ hc.map (rE (fun j => n + j))) := ⟨fun i j _ _ h => by
  have h2 : n + i = n + j := h
  omega, fun j c h => by
  show (A ++ hc.map (rE (fun j => n + j)))[n + j]? = _
  rw [List.getElem?_append_right (by omega), show n + j - A.length = j by omega, List.getElem?_map, h]; rfl⟩
theorem Aft.suf {n : Nat} {A hc hc' : List ce} (hA : A.length = n) (hl : hc'.length = hc.length) : Aft (fun j => n + j) hc hc' (A ++ hc.map (rE (fun j => n + j))) (A ++ hc'.map (rE (fun j => n + j))) := ⟨hl, fun j c h => by
  show (A ++ hc'.map (rE (fun j => n + j)))[n + j]? = _
  rw [List.getElem?_append_right (by omega), show n + j - A.length = j by omega, List.getElem?_map, h]; rfl, fun k hk => by
  by_cases h : k < n
  · rw [List.getElem?_append_left (by omega), List.getElem?_append_left (by omega)]
  · have h2 : hc.length ≤ k - n := Nat.le_of_not_lt fun h3 => hk (k - n) h3 (show n + (k - n) = k by omega)
    rw [List.getElem?_append_right (by omega), List.getElem?_append_right (by omega), List.getElem?_eq_none (by simp; omega), List.getElem?_eq_none (by simp; omega)]⟩
