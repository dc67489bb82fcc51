/-! the machine of the constructors: its steps -/
theorem aI_in : Cond.arrayClass .int ∈ aWS := aW_t 92 (by decide +kernel) (by decide +kernel)
theorem aJ_in : Cond.arrayClass .long ∈ aWS := aW_t 141 (by decide +kernel) (by decide +kernel)
theorem aB_in : Cond.arrayClass .byte ∈ aWS := aW_t 75 (by decide +kernel) (by decide +kernel)
theorem aZ_in : Cond.arrayClass .boolean ∈ aWS := aW_t 1446 (by decide +kernel) (by decide +kernel)
theorem bEnd : Cond.fieldLink (aCN 9) 15 RX9 "END" "LFoldedRealm$Sort;" ∈ aWS := aW_t 41 (by decide +kernel) (by decide +kernel)
def bIok (ci : Nat) : Prop := ∀ r : vw_C, vwCl[ci]? = some r → Cond.instantiable r.1 r.2.2 ∈ aWS ∧ Cond.initialized r.1 ∈ aWS
section
variable {p : Program} {l : Launch} {e : Env} {R : Room} {s : State} {m : MethodId} {args : Array Value} {below : List Frame} {meth : Method} {c : Code} {cc : ByteArray} {nL on : Nat} {ad : Nat → Nat} {cy : Nat → ClassId} {D : va_G} {A : Nat → Prop} {Qs : State → Prop} {o kb e0 : Nat} {nl : List aQ}
theorem b1_put (X : bCx p s m args meth c cc nL on cy D A e0) {q : aQ} (hq : aLok q) (h1 : q.1 = on) {i pc x k z : Nat} (h2 : q.2.1 = i) {v : Value} {r : List Value} {cs : List bC} {fs : List Value} {nc ns : Nat} (hd : decode cc pc = .ok (.putfield i, 3)) (ho : o ≤ x) (hc : cs[x - o]? = some (k, z, fs)) (hk : k = q.2.2.1) (hon : q.2.2.1 = on) (hf : q.2.2.2 < fs.length) (hfit : bFit ((aft q.2.2.1).getD q.2.2.2 9) v = true)
    {B : Array Slot} {H : Heap} {locs : List Loc} (hP : va_P D vwCl (bW ad cy o cs) H) (hD : va_D A (bW ad cy o cs)) (hS : va_S A s.heap H locs)
    (kk : ∀ (H1 : Heap) (locs1 : List Loc), va_P D vwCl (bW ad cy o (cs.set (x - o) (k, z, fs.set q.2.2.2 v))) H1 → va_D A (bW ad cy o (cs.set (x - o) (k, z, fs.set q.2.2.2 v))) → va_S A s.heap H1 locs1 → W p l e R s m args below meth c H1 locs1 nc ns Qs (F0 m (pc + 3) B (r.map (atv ad)))) :
    W p l e R s m args below meth c H locs nc ns Qs (F0 m pc B (atv ad v :: .ref (ad x) :: r.map (atv ad))) := by
  obtain ⟨hexec, hb, hml, hown, hts, hK, hA, hAO1, hAO2, hZ, hin, hNW⟩ := X
  obtain ⟨⟨C, T, N⟩, h3, h4, h5⟩ := hq
  have h3' : q.2.2.1 < 12 := (List.getElem?_eq_some_iff.mp h3).1
  have h20 : Nat.blt k 20 = true := Nat.ble_eq_true_of_le (by omega)
  obtain ⟨h7, ty0, h8, h9, h10, h11⟩ := aCk_ok _ _ h3
  obtain ⟨f1, f2⟩ := bFit_ok (ad := ad) hfit (h11 _ h4)
  have hg := bW_get (ad := ad) (cy := cy) (o := o) hc
  rw [bE_obj h20, show o + (x - o) = x from by omega, hk] at hg
  have hset := bW_set (ad := ad) (cy := cy) (o := o) (c := (k, z, fs.set q.2.2.2 v)) ((List.getElem?_eq_some_iff.mp hc).1)
  rw [bE_obj h20, show o + (x - o) = x from by omega, List.map_set] at hset
  have hlen : q.2.2.2 < (fs.map (atv ad)).length := by rw [List.length_map]; exact hf
  rw [h1, h2] at h5
  cases hfin : (T q.2.2.2).2.2.2 with
  | false =>
    refine va_put (D := D) hexec hb hts h7 ty0 h8 h9 hown hK hP hD hS (x - o) hg h3 q.2.2.2 h4 (hts _ h5) (fun _ h => h) hfin (h8 _ h4) f1 f2 hlen hd (fun H1 locs1 q1 q2 q3 => ?_)
    rw [← hk, hset] at q1 q2
    exact kk H1 locs1 q1 q2 q3
  | true =>
    refine va_putF (D := D) hexec hb hts h7 ty0 h8 h9 hown hK hP hD hS (x - o) hg h3 q.2.2.2 h4 (hts _ h5) (fun _ h => h) hfin hin (by rw [← hon]; exact bOwn _ h3' _ h3 _ h4) (h8 _ h4) f1 f2 hlen hd (fun H1 locs1 q1 q2 q3 => ?_)
    rw [← hk, hset] at q1 q2
    exact kk H1 locs1 q1 q2 q3
theorem b1_new (X : bCx p s m args meth c cc nL on cy D A e0) {q : aQ} (hq : bNok q) (hI : bIok q.2.2.1) (h1 : q.1 = on) {i pc : Nat} (h2 : q.2.1 = i) {ls : aLs} {st : List Value} {cs : List bC} {nc ns : Nat} (hd : decode cc pc = .ok (.new i, 3)) (hlim : o + cs.length < 2000) (hls : bLs (o + cs.length) ls = true) (hr : st.all (bLim (o + cs.length)) = true) (hcs : bAll (o + cs.length) cs = true) (hnc : nc + 1 ≤ R.cells) (hns : ns + (aft q.2.2.1).length ≤ R.slots)
    (hgo : ∀ ad', bAg (o + cs.length) ad ad' → bG p l e R s m args below meth c nL cy D A Qs o (pc + 3) (ls, .ref (o + cs.length) :: st, cs ++ [(q.2.2.1, 0, (aft q.2.2.1).map bDf)], nc + 1, ns + (aft q.2.2.1).length) ad') : bG p l e R s m args below meth c nL cy D A Qs o pc (ls, st, cs, nc, ns) ad := by
  obtain ⟨hexec, hb, hml, hown, hts, hK, hA, hAO1, hAO2, hZ, hin, hNW⟩ := X
  obtain ⟨⟨C, T, N⟩, h3, h5⟩ := hq
  obtain ⟨i1, i2⟩ := hI _ h3
  have h3' : q.2.2.1 < 12 := (List.getElem?_eq_some_iff.mp h3).1
  have h20 : Nat.blt q.2.2.1 20 = true := Nat.ble_eq_true_of_le (by omega)
  obtain ⟨h7, ty0, h8, h9, h10, h11⟩ := aCk_ok _ _ h3
  have h10 : (aft q.2.2.1).length = N := h10
  intro B H locs hl hP hD hS
  dsimp only at hl hP hD ⊢
  rw [h1, h2] at h5
  have hns' : ns + N ≤ R.slots := by rw [← h10]; exact hns
  refine va_new (D := D) (fs := (aft q.2.2.1).map bDf) hexec hb hts h7 ty0 h8 hown (hts _ h5) (hts _ i1) (hts _ i2) hK hP hD hS hA h3 ?_ hnc hns' hd (fun q1 H1 z1 z2 z3 => ?_)
  · intro j hj
    rw [bDf_ok (h11 j hj)]
    unfold vp_V
    rw [List.getD_eq_getElem?_getD, List.getD_eq_getElem?_getD, List.getElem?_map]
    have hj' : j < (aft q.2.2.1).length := by rw [h10]; exact hj
    rw [List.getElem?_eq_getElem hj']
    rfl
  · rw [← h10]
    refine bG_push (S := (ls, st, cs, nc, ns)) hlim hls hr hcs hgo hl (fun ad' _ => ?_) z1 z2 z3
    rw [bE_obj h20, List.map_map]
    congr 2
    exact List.map_congr_left fun t _ => bDf_atv t
theorem b1_newa (X : bCx p s m args meth c cc nL on cy D A e0) (hkb : kb = 20 ∨ kb = 30) {t : ArrayType} (ht : bAK t ≤ 3) {n : Int32} {pc : Nat} {ls : aLs} {r : List Value} {cs : List bC} {nc ns : Nat} (hd : decode cc pc = .ok (.newarray t, 2)) (hlim : o + cs.length < 2000) (hls : bLs (o + cs.length) ls = true) (hr : r.all (bLim (o + cs.length)) = true) (hcs : bAll (o + cs.length) cs = true) (hnc : nc + 1 ≤ R.cells) (hns : ns + n.toNatClampNeg ≤ R.slots) (hn : 0 ≤ n) (hm : n.toNatClampNeg ≤ 2000)
    (hgo : ∀ ad', bAg (o + cs.length) ad ad' → bG p l e R s m args below meth c nL cy D A Qs o (pc + 2) (ls, .ref (o + cs.length) :: r, cs ++ [(kb + bAK t, n.toNatClampNeg, [])], nc + 1, ns + n.toNatClampNeg) ad') : bG p l e R s m args below meth c nL cy D A Qs o pc (ls, .int n :: r, cs, nc, ns) ad := by
  obtain ⟨hexec, hb, hml, hown, hts, hK, hA, hAO1, hAO2, hZ, hin, hNW⟩ := X
  obtain ⟨k1, k2⟩ := bKb hkb (show bAK t ≤ 5 by omega)
  have harr : Cond.arrayClass (newarray.typeOf t) ∈ aWS := by
    cases t <;> first | exact aI_in | exact aJ_in | exact aB_in | exact aZ_in | exact absurd ht (by decide)
  have hty : newarray.typeOf t = bTy (bAK t) := by
    cases t <;> first | rfl | exact absurd ht (by decide)
  have hcell : ∀ cA : ClassId, vp_cell cA (n.toNatClampNeg, bRw ad (kb + bAK t, n.toNatClampNeg, [])) = arrV cA n.toNatClampNeg (fun _ => defaultValue (bTy (bAK t))) := by
    intro cA
    unfold bRw
    dsimp only
    rw [k2]
    cases t <;> first | rfl | exact absurd ht (by decide)
  have hby : n.toNatClampNeg * componentBytes (bTy (bAK t)) ≤ 536870912 := by
    have : componentBytes (bTy (bAK t)) ≤ 8 := by
      cases t <;> first | decide | exact absurd ht (by decide)
    calc n.toNatClampNeg * componentBytes (bTy (bAK t)) ≤ 2000 * 8 := Nat.mul_le_mul hm this
      _ ≤ 536870912 := by decide
  intro B H locs hl hP hD hS
  dsimp only at hl hP hD ⊢
  refine va_newa (D := D) hexec hb (hts _ harr) hty hK hP hD hS hA hcell (Int32.not_lt.mpr hn) rfl hby hnc hns hd (fun q1 cA H1 z0 z1 z2 z3 => ?_)
  have hcA := bCy (show bAK t ≤ 5 by omega) hK z0
  subst hcA
  refine bG_push (S := (ls, .int n :: r, cs, nc, ns)) hlim hls hr hcs hgo hl (fun ad' _ => ?_) z1 z2 z3
  rw [bE_arr k1, k2]
  congr 3
theorem b1_newq (X : bCx p s m args meth c cc nL on cy D A e0) (hkb : kb = 20 ∨ kb = 30) {q : aQ} (hq : bNok q) (h1 : q.1 = on) {i pc : Nat} (h2 : q.2.1 = i) {n : Int32} {ls : aLs} {r : List Value} {cs : List bC} {nc ns : Nat} (ht : bRK q.2.2.1 ≤ 5) (hd : decode cc pc = .ok (.anewarray i, 3)) (hlim : o + cs.length < 2000) (hls : bLs (o + cs.length) ls = true) (hr : r.all (bLim (o + cs.length)) = true) (hcs : bAll (o + cs.length) cs = true) (hnc : nc + 1 ≤ R.cells) (hns : ns + n.toNatClampNeg ≤ R.slots) (hn : 0 ≤ n) (hm : n.toNatClampNeg ≤ 2000)
    (hgo : ∀ ad', bAg (o + cs.length) ad ad' → bG p l e R s m args below meth c nL cy D A Qs o (pc + 3) (ls, .ref (o + cs.length) :: r, cs ++ [(kb + bRK q.2.2.1, n.toNatClampNeg, List.replicate n.toNatClampNeg .null)], nc + 1, ns + n.toNatClampNeg) ad') : bG p l e R s m args below meth c nL cy D A Qs o pc (ls, .int n :: r, cs, nc, ns) ad := by
  obtain ⟨hexec, hb, hml, hown, hts, hK, hA, hAO1, hAO2, hZ, hin, hNW⟩ := X
  obtain ⟨⟨C, T, N⟩, h3, h5⟩ := hq
  rw [h1, h2] at h5
  have hC : va_AO C s ∧ FieldType.object C = bTy (bRK q.2.2.1) ∧ (bRK q.2.2.1 = 4 ∨ bRK q.2.2.1 = 5) := by
    unfold bRK at ht ⊢
    cases h4 : Nat.beq q.2.2.1 4 with
    | true =>
      rw [Nat.eq_of_beq_eq_true h4] at h3
      cases h3
      exact ⟨hAO1, rfl, Or.inl rfl⟩
    | false =>
      rw [h4] at ht
      cases h8 : Nat.beq q.2.2.1 8 with
      | true =>
        rw [Nat.eq_of_beq_eq_true h8] at h3
        cases h3
        exact ⟨hAO2, rfl, Or.inr rfl⟩
      | false => rw [h8] at ht; exact absurd ht (by decide)
  obtain ⟨c1, c2, c3⟩ := hC
  obtain ⟨k1, k2⟩ := bKb hkb ht
  intro B H locs hl hP hD hS
  dsimp only at hl hP hD ⊢
  have hby : n.toNatClampNeg * 4 ≤ 536870912 := by
    calc n.toNatClampNeg * 4 ≤ 2000 * 4 := Nat.mul_le_mul hm (Nat.le_refl _)
      _ ≤ 536870912 := by decide
  refine va_newq (D := D) hexec hb hown (hts _ h5) c1 hK hP hD hS hA (Int32.not_lt.mpr hn) rfl hby hnc hns hd (fun q1 cA H1 z0 z1 z2 z3 => ?_)
  rw [c2] at z0
  have hcA := bCy ht hK z0
  subst hcA
  refine bG_push (S := (ls, .int n :: r, cs, nc, ns)) hlim hls hr hcs hgo hl (fun ad' _ => ?_) z1 z2 z3
  rw [bE_arr k1, k2]
  congr 3
  have hnone : (fun k => bOp ad' ((List.replicate n.toNatClampNeg Value.null).getD k .null)) = fun _ => none := by
    funext k
    rw [List.getD_eq_getElem?_getD, List.getElem?_replicate]
    split <;> rfl
  unfold bRw
  dsimp only
  rw [k2]
  rcases c3 with c3 | c3 <;> simp only [c3, hnone]
theorem b1_ast (X : bCx p s m args meth c cc nL on cy D A e0) (hkb : kb = 20 ∨ kb = 30) {pc x k z v kv zv : Nat} {vs : List Value} {n : Int32} {r : List Value} {cs : List bC} {fs : List Value} {nc ns : Nat} (hd : decode cc pc = .ok (.aastore, 1)) (ho : o ≤ x) (hov : o ≤ v) (hc : cs[x - o]? = some (k, z, fs)) (hv : cs[v - o]? = some (kv, zv, vs)) (hk : k = kb + bRK kv) (ht : bRK kv ≤ 5) (hn : 0 ≤ n) (hz : n.toNatClampNeg < z) (hfz : fs.length = z)
    {B : Array Slot} {H : Heap} {locs : List Loc} (hP : va_P D vwCl (bW ad cy o cs) H) (hD : va_D A (bW ad cy o cs)) (hS : va_S A s.heap H locs)
    (kk : ∀ (H1 : Heap) (locs1 : List Loc), va_P D vwCl (bW ad cy o (cs.set (x - o) (k, z, fs.set n.toNatClampNeg (.ref v)))) H1 → va_D A (bW ad cy o (cs.set (x - o) (k, z, fs.set n.toNatClampNeg (.ref v)))) → va_S A s.heap H1 locs1 → W p l e R s m args below meth c H1 locs1 nc ns Qs (F0 m (pc + 1) B (r.map (atv ad)))) :
    W p l e R s m args below meth c H locs nc ns Qs (F0 m pc B (.ref (ad v) :: .int n :: .ref (ad x) :: r.map (atv ad))) := by
  obtain ⟨hexec, hb, hml, hown, hts, hK, hA, hAO1, hAO2, hZ, hin, hNW⟩ := X
  obtain ⟨k1, k2⟩ := bKb hkb ht
  rw [← hk] at k1 k2
  have hkv : (kv = 4 ∧ bRK kv = 4) ∨ (kv = 8 ∧ bRK kv = 5) := by
    unfold bRK at ht ⊢
    cases h4 : Nat.beq kv 4 with
    | true => exact Or.inl ⟨Nat.eq_of_beq_eq_true h4, rfl⟩
    | false =>
      rw [h4] at ht
      cases h8 : Nat.beq kv 8 with
      | true => exact Or.inr ⟨Nat.eq_of_beq_eq_true h8, rfl⟩
      | false => rw [h8] at ht; exact absurd ht (by decide)
  have hrow : ∀ gs : List Value, bRw ad (k, z, gs) = .inr (.inr (.inr (.inr fun j => bOp ad (gs.getD j .null)))) := by
    intro gs
    unfold bRw
    dsimp only
    rw [k2]
    rcases hkv with ⟨-, c3⟩ | ⟨-, c3⟩ <;> simp only [c3]
  have hg := bW_get (ad := ad) (cy := cy) (o := o) hc
  rw [bE_arr k1, k2, show o + (x - o) = x from by omega, hrow] at hg
  have hgv := bW_get (ad := ad) (cy := cy) (o := o) hv
  rw [bE_obj (Nat.ble_eq_true_of_le (by omega)), show o + (v - o) = v from by omega] at hgv
  have hset := bW_set (ad := ad) (cy := cy) (o := o) (c := (k, z, fs.set n.toNatClampNeg (.ref v))) ((List.getElem?_eq_some_iff.mp hc).1)
  rw [bE_arr k1, k2, show o + (x - o) = x from by omega, hrow] at hset
  have hup : (fun j => bOp ad ((fs.set n.toNatClampNeg (.ref v)).getD j .null)) = va_up (fun j => bOp ad (fs.getD j .null)) n.toNatClampNeg (some (ad v)) := by
    funext j
    unfold va_up
    show _ = if j = n.toNatClampNeg then some (ad v) else bOp ad (fs.getD j .null)
    rw [List.getD_eq_getElem?_getD, List.getD_eq_getElem?_getD, List.getElem?_set]
    by_cases ej : n.toNatClampNeg = j
    · subst ej
      rw [if_pos rfl, if_pos (by omega), if_pos rfl]
      rfl
    · rw [if_neg ej, if_neg (fun z => ej z.symm)]
  rw [hup] at hset
  have hin2 : vp_in n z := by
    rintro (q | q)
    · exact absurd q (Int32.not_lt.mpr hn)
    · omega
  rcases hkv with ⟨e1, e2⟩ | ⟨e1, e2⟩
  · subst e1
    exact va_astq (D := D) (r := (RX5, TX5, 6)) hexec hb hK hP hD hS (x - o) 4 (v - o) 4 hg (by rw [e2]; rfl) hgv rfl hin2 hd (fun H1 locs1 z1 z2 z3 => kk H1 locs1 (hset ▸ z1) (hset ▸ z2) z3)
  · subst e1
    exact va_astq (D := D) (r := (RX10, TX10, 7)) hexec hb hK hP hD hS (x - o) 5 (v - o) 8 hg (by rw [e2]; rfl) hgv rfl hin2 hd (fun H1 locs1 z1 z2 z3 => kk H1 locs1 (hset ▸ z1) (hset ▸ z2) z3)
theorem b1_get (X : bCx p s m args meth c cc nL on cy D A e0) {q : aQ} (hq : aLok q) (h1 : q.1 = on) {i pc x k z : Nat} (h2 : q.2.1 = i) {v : Value} {r : List Value} {cs : List bC} {fs : List Value} {nc ns : Nat} (hd : decode cc pc = .ok (.getfield i, 3)) (ho : o ≤ x) (hc : cs[x - o]? = some (k, z, fs)) (hk : k = q.2.2.1) (hf : fs[q.2.2.2]? = some v)
    {B : Array Slot} {H : Heap} {locs : List Loc} (hP : va_P D vwCl (bW ad cy o cs) H)
    (kk : W p l e R s m args below meth c H locs nc ns Qs (F0 m (pc + 3) B (atv ad v :: r.map (atv ad)))) :
    W p l e R s m args below meth c H locs nc ns Qs (F0 m pc B (.ref (ad x) :: r.map (atv ad))) := by
  obtain ⟨hexec, hb, hml, hown, hts, hK, hA, hAO1, hAO2, hZ, hin, hNW⟩ := X
  obtain ⟨⟨C, T, N⟩, h3, h4, h5⟩ := hq
  have h3' : q.2.2.1 < 12 := (List.getElem?_eq_some_iff.mp h3).1
  have h20 : Nat.blt k 20 = true := Nat.ble_eq_true_of_le (by omega)
  have hg := bW_get (ad := ad) (cy := cy) (o := o) hc
  rw [bE_obj h20, show o + (x - o) = x from by omega, hk] at hg
  rw [h1, h2] at h5
  exact va_get (D := D) hexec hb hts (aCk_ok _ _ h3).1 hown hK hP (x - o) hg h3 q.2.2.2 h4 (hts _ h5) (fun _ h => h) (by rw [List.getElem?_map, hf]; rfl) hd kk
end
