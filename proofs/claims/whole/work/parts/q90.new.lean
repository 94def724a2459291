/-! a new object, its place told -/
section NO
variable {M : MD} {Z : VZ} {cells slots pc idx : Nat} {l : List (Option Value)} {st : List Value} {hs : List ce}
theorem V.newO2 {ci n cells' slots' pc' : Nat} {fs : List Value} {hs' : List ce} (hn : hs.length = n) (hse : hs ++ [.inr (ci, fs)] = hs') (hce : cells + 1 = cells') (hsl' : slots + (clD ci).2.2 = slots') (hpc : pc + 3 = pc') (hci : ci < 13) (hcl : Cond.classLink (ownL.getD M.1 "") idx (clD ci).1 ∈ tbl) (hin : Cond.instantiable (clD ci).1 (clD ci).2.2 ∈ tbl) (hini : Cond.initialized (clD ci).1 ∈ tbl) (hfs : ∀ j, j < (clD ci).2.2 → defaultValue (clY ci j) = vp_V fs j) (hnr : fs.all (fun v => rok [] v && !(match v with | .ref _ => true | _ => false)) = true)
    (hc : cells' ≤ Z.2.1) (hsl : slots' ≤ Z.2.2.1)
    (hlo : l.all (ook [n]) = true) (hso : st.all (rok [n]) = true) (hwo : hs.all (cok [n]) = true) (hkp0 : Z.2.2.2.1 n = false) (hd : decode M.2.2.1 pc = .ok (.new idx, 3))
    (k : V M Z cells' slots' pc' l (.ref n :: st) hs') : V M Z cells slots pc l st hs := by
  subst hn hse hce hsl' hpc
  exact V.newO hci hcl hin hini hfs hnr hc hsl hlo hso hwo hkp0 hd k
theorem V.newA2 {np cells' slots' pc' : Nat} {hs' : List ce} {n : Int32} {N t : Nat} {ty : FieldType} {atype : ArrayType} {a0 : vp_A} (hnp : hs.length = np) (hse : hs ++ [.inl (t, a0)] = hs') (hce : cells + 1 = cells') (hsl' : slots + N = slots') (hpc : pc + 2 = pc') (harr : Cond.arrayClass (newarray.typeOf atype) ∈ tbl) (hty : newarray.typeOf atype = ty) (ht : ∀ G : GX, (tysG G)[t]? = some (G.2.1 t, ty)) (hra : ∀ (U : State) (cA : ClassId), va_RA U cA ty → U.vm.findClass ("[" ++ ty.toString) = some cA)
    (ha : ∀ cA : ClassId, vp_cell cA a0 = arrV cA N (fun _ => defaultValue ty)) (hn : ¬ n < 0) (hN : n.toNatClampNeg = N) (hbytes : N * componentBytes ty ≤ 536870912) (hc : cells' ≤ Z.2.1) (hsl : slots' ≤ Z.2.2.1)
    (hlo : l.all (ook [np]) = true) (hso : st.all (rok [np]) = true) (hwo : hs.all (cok [np]) = true) (hkp0 : Z.2.2.2.1 np = false) (hd : decode M.2.2.1 pc = .ok (.newarray atype, 2))
    (k : V M Z cells' slots' pc' l (.ref np :: st) hs') : V M Z cells slots pc l (.int n :: st) hs := by
  subst hnp hse hce hsl' hpc
  exact V.newA harr hty ht hra ha hn hN hbytes hc hsl hlo hso hwo hkp0 hd k
end NO
theorem AftG.listZ2 {n : Nat} {hs hs' hc hc' : List ce} {is0 is1 bd : List Nat} {kp : Nat → Bool} (hlen : hs.length = n) (hl0 : is0.length = hc.length) (hl : (is0 ++ is1).length = hc'.length) (hn : va_nd (is0 ++ is1) = true) (h1 : is1 = (List.range is1.length).map (fun j => n + j))
    (hb0 : (List.range is0.length).all (fun j => kp j || inB bd ((is0 ++ is1).getD j j)) = true) (hb1 : is1.all (inB bd) = true)
    (h2 : (is0 ++ is1).map (fun i => hs'[i]?) = hc'.map (fun c => some (rE (fun j => (is0 ++ is1).getD j j) c))) (h4 : zap is0 0 hs = zap is0 0 (hs'.take n)) (h5 : hs'.length = n + is1.length) (hw : wokx (is0 ++ is1) bd 0 hs = true) (hr : wltB hc'.length hc' = true) : AftG (fun j => (is0 ++ is1).getD j j) bd kp hc hc' hs hs' := by
  subst hlen
  exact AftG.listZ hl0 hl hn h1 hb0 hb1 h2 h4 h5 hw hr
