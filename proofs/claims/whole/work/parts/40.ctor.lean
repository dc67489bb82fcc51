/-! the contracts of the two constructors -/
theorem metX {l : Launch} {ad : Nat → Nat} {cy : Nat → ClassId} {D : va_G} {A : Nat → Prop} (hA : ∀ i ∈ idX, A (ad i)) (hi : ∀ i j, i ∈ idX → j ∈ idX → ad i = ad j → i = j) (had : ∀ x y, 2000 ≤ x → x ≤ 2099 → 2000 ≤ y → y ≤ 2099 → ad x = ad y → x = y) :
    ∀ (d j : Nat) (av : List Value) (S : aS) (Q : Value → aS → Prop), j < nmX → aWX d j av S Q → aMet l ad cy D idX A (aZX ad A) miX d j av S Q :=
  a_met aZX_ok okX mtX_ok ckX idX_nd hA hi regX had (fun _ _ _ _ _ _ _ _ _ _ _ _ _ X => pxX_ok X)
theorem aZtt {A : Nat → Prop} : aZok A (fun _ => True) := ⟨fun _ _ _ _ _ => trivial, fun _ _ _ _ _ _ _ _ => trivial⟩
theorem metM {l : Launch} {ad : Nat → Nat} {cy : Nat → ClassId} {D : va_G} {A : Nat → Prop} (hA : ∀ i ∈ idM, A (ad i)) (hi : ∀ i j, i ∈ idM → j ∈ idM → ad i = ad j → i = j) (had : ∀ x y, 2000 ≤ x → x ≤ 2099 → 2000 ≤ y → y ≤ 2099 → ad x = ad y → x = y) :
    ∀ (d j : Nat) (av : List Value) (S : aS) (Q : Value → aS → Prop), j < nmM → aWM d j av S Q → aMet l ad cy D idM A (fun _ => True) miM d j av S Q :=
  a_met aZtt okM mtM_ok ckM idM_nd hA hi regM had (fun _ _ _ _ _ _ _ _ _ _ _ _ _ X => pxM_ok X)
section
variable {p : Program} {l : Launch} {e : Env} {R : Room} {s : State} {m : MethodId} {args : Array Value} {below : List Frame} {meth : Method} {c : Code} {cc : ByteArray} {nL on : Nat} {ad : Nat → Nat} {cy : Nat → ClassId} {D : va_G} {ids : List Nat} {A : Nat → Prop} {Qs : State → Prop} {pc cells slots : Nat} {B : Array Slot} {H H0 : Heap} {locs : List Loc} {rest : List Value} {S : aS}
theorem rc_get (X : CallFix p m c cc nL s args aWS (aCN on)) (hK : va_K D vwCl (atys cy) s) {i a k t x : Nat} (hd : decode cc pc = .ok (.getfield i, 3)) (hl : aLok (on, i, a, k)) (hreg : x ∈ ids) (ht : (aft a)[k]? = some t) (hx : akd x = a) (hP : va_P D vwCl (aws ad cy ids S) H)
    (kk : W p l e R s m args below meth c H locs cells slots Qs (F0 m (pc + 3) B (afv ad S x (t, k) :: rest))) : W p l e R s m args below meth c H locs cells slots Qs (F0 m pc B (.ref (ad x) :: rest)) := by
  obtain ⟨hexec, hb, hml, hown, hts⟩ := X
  obtain ⟨q0, h1, h2⟩ := aws_at (ad := ad) (cy := cy) (S := S) hreg
  obtain ⟨⟨C, T, N⟩, h3, h4, h5⟩ := hl
  have ha : a < 12 := (List.getElem?_eq_some_iff.mp h3).1
  rw [ace_obj hx (Nat.ble_eq_true_of_le (by omega))] at h2
  exact va_get (D := D) hexec hb hts (aCk_ok a _ h3).1 hown hK hP q0 h2 h3 k h4 (hts _ h5) (fun _ h => h) (aft_get ht) hd kk
theorem rc_iast (X : CallFix p m c cc nL s args aWS (aCN on)) (hK : va_K D vwCl (atys cy) s) {a x : Nat} {i : Int32} {v : Int32} (hd : decode cc pc = .ok (.iastore, 1)) (h20 : Nat.blt a 20 = false) (hm : a % 10 = 0) (hreg : x ∈ ids) (hn : ids.Nodup) (hA : ∀ i ∈ ids, A (ad i)) (hi : ∀ i j, i ∈ ids → j ∈ ids → ad i = ad j → i = j) (hx : akd x = a) (hin : vp_in i (aln x)) (hP : va_P D vwCl (aws ad cy ids S) H) (hS : va_S A H0 H locs)
    (kk : ∀ (H1 : Heap) (locs1 : List Loc), va_P D vwCl (aws ad cy ids (sa S x i.toNatClampNeg v)) H1 → va_S A H0 H1 locs1 → W p l e R s m args below meth c H1 locs1 cells slots Qs (F0 m (pc + 1) B rest)) : W p l e R s m args below meth c H locs cells slots Qs (F0 m pc B (.int v :: .int i :: .ref (ad x) :: rest)) := by
  obtain ⟨hexec, hb, hml, hown, hts⟩ := X
  obtain ⟨q0, h1, h2⟩ := aws_at (ad := ad) (cy := cy) (S := S) hreg
  rw [ace_arr hx h20, arw_I hx (Or.inl hm), hm] at h2
  have hset := aws_set (ad := ad) (cy := cy) (S := S) (S' := sa S x i.toNatClampNeg v) hn h1 (fun j hj => ace_sa j hj)
  rw [ace_arr hx h20, arw_I hx (Or.inl hm), hm] at hset
  have hu : (sa S x i.toNatClampNeg v).2.2.2.1 x = upd (S.2.2.2.1 x) i.toNatClampNeg v := by simp only [sa, va_up, if_pos]
  rw [hu] at hset
  exact va_iast hexec hb hK hP (aws_D hn hA hi) hS q0 0 h2 rfl hin hd (fun H1 locs1 q1 _ q3 => kk H1 locs1 (hset ▸ q1) q3)
end
theorem bInX {ad : Nat → Nat} {cy : Nat → ClassId} {A : Nat → Prop} {S : aS} (h : va_D A (bW ad cy 0 (bCs 0 152 S))) : (∀ i ∈ idX, A (ad i)) ∧ ∀ i j, i ∈ idX → j ∈ idX → ad i = ad j → i = j := by
  obtain ⟨h1, h2⟩ := bW_inj h
  constructor
  · intro i hi
    obtain ⟨k, hk, rfl⟩ := List.mem_map.mp hi
    exact h1 k (List.mem_range.mp hk)
  · intro i j hi hj e
    obtain ⟨k, hk, rfl⟩ := List.mem_map.mp hi
    obtain ⟨k', hk', rfl⟩ := List.mem_map.mp hj
    have := h2 k k' (List.mem_range.mp hk) (List.mem_range.mp hk') e
    subst this
    rfl
theorem bInM {ad : Nat → Nat} {cy : Nat → ClassId} {A : Nat → Prop} {S : aS} (h : va_D A (bW ad cy 1000 (bCs 1000 41 S))) : (∀ i ∈ idM, A (ad i)) ∧ ∀ i j, i ∈ idM → j ∈ idM → ad i = ad j → i = j := by
  obtain ⟨h1, h2⟩ := bW_inj h
  constructor
  · intro i hi
    obtain ⟨k, hk, rfl⟩ := List.mem_map.mp hi
    exact h1 k (List.mem_range.mp hk)
  · intro i j hi hj e
    obtain ⟨k, hk, rfl⟩ := List.mem_map.mp hi
    obtain ⟨k', hk', rfl⟩ := List.mem_map.mp hj
    have := h2 k k' (List.mem_range.mp hk) (List.mem_range.mp hk') e
    subst this
    rfl
/-- how deep calls go: enough for all -/
def dd : Nat := 100
def cRm (mc ms : Nat) : Room := { frames := 110, cells := mc, slots := ms, locals := 120 * 110 }
def cPc (o : Nat) (cy : Nat → ClassId) (D : va_G) (A : Nat → Prop) (ad : Nat → Nat) (cs : List bC) : Array Value → State → Prop := fun v U => bPc o cy D A (ad 2000) ad [.ref o] cs v U ∧ aZX ad A U
theorem cPc_blind {o : Nat} {cy : Nat → ClassId} {D : va_G} {A : Nat → Prop} {ad : Nat → Nat} {cs : List bC} : FrameBlind (cPc o cy D A ad cs) := fun a U g mk h => ⟨bPc_blind a U g mk h.1, aZX_ok.1 U g mk a h.2⟩
def cQc (o : Nat) (ids : List Nat) (cy : Nat → ClassId) (D : va_G) (A : Nat → Prop) (ad : Nat → Nat) (QQ : aS → Prop) : Array Value → State → Outcome → State → Prop := va_Qv (S := (Nat → Nat) × aS) (fun u => bAg (o + 1) ad u.1 ∧ QQ u.2 ∧ (∀ i ∈ ids, A (u.1 i)) ∧ ∀ i j, i ∈ ids → j ∈ ids → u.1 i = u.1 j → i = j) (fun u t => va_P D vwCl (aws u.1 cy ids u.2) t.heap) A
theorem dXi_156 : decode cX12_init 156 = .ok (.aload_n 0, 1) := by decide +kernel
theorem dXi_157 : decode cX12_init 157 = .ok (.getfield 38, 3) := by decide +kernel
theorem dXi_160 : decode cX12_init 160 = .ok (.aload_n 0, 1) := by decide +kernel
theorem dXi_161 : decode cX12_init 161 = .ok (.getfield 28, 3) := by decide +kernel
theorem dXi_164 : decode cX12_init 164 = .ok (.invokevirtual 81, 3) := by decide +kernel
theorem dXi_167 : decode cX12_init 167 = .ok (.return_, 1) := by decide +kernel
theorem aLkX1 : aLok (10, 38, 10, 4) := aLT_ok _ (by decide +kernel)
theorem aLkX2 : aLok (10, 28, 10, 2) := aLT_ok _ (by decide +kernel)
theorem aLkM1 : aLok (11, 13, 11, 10) := aLT_ok _ (by decide +kernel)
theorem lkBegin : Cond.methodLink (aCN 10) 81 (miX 37).1 ∈ aWS := aW_t 343 (by decide +kernel) (by decide +kernel)
theorem lkFresh : Cond.methodLink (aCN 11) 132 (miM 39).1 ∈ aWS := aW_t 1252 (by decide +kernel) (by decide +kernel)
set_option maxRecDepth 100000 in
theorem cX_init (l : Launch) {ad : Nat → Nat} {cy : Nat → ClassId} {D : va_G} {A : Nat → Prop} {QQ : aS → Prop} (had : ∀ x y, 2000 ≤ x → x ≤ 2099 → 2000 ≤ y → y ≤ 2099 → ad x = ad y → x = y) (hW : aWX dd 37 [.ref 40, .ref 6] S0X (fun v S' => v = .null ∧ QQ S')) :
    Met l yX12_init (Cond.code yX12_init cX12_init 2 none :: aWS) (cRm 151 5874) (cPc 0 cy D A ad [(10, 0, (aft 10).map bDf)]) (cQc 0 idX cy D A ad QQ) 151 5874 A := by
  refine metF (cc := cX12_init) (maxL := 2) (ret := none) (by decide +kernel) rfl ?_
  intro p e s m args below meth c s₁ B hml hv
  obtain ⟨⟨hargs, hP, hD, hK, hA, hAO1, hAO2, hZ, hN⟩, hZX⟩ := hv
  subst hargs
  have hts := atoms_spec B.pre
  have hts' : ∀ w ∈ aWS, w.before (([Value.ref 0] : List Value).map (atv ad)).toArray s = true := fun w hw => hts w (List.mem_cons_of_mem _ hw)
  have hlocks := B.notSynchronized
  have hr := B.returns
  have hx := B.exec
  have hb := B.bytes
  have hown : s.vm.findClass (aCN 10) = some m.cls := findClass_of_methodNamed B.named
  have X : bCx p s m (([Value.ref 0] : List Value).map (atv ad)).toArray meth c (bBM 10).2.1 (bBM 10).2.2.1 10 cy D A (ad 2000) :=
    ⟨hx, hb, hml, hown, hts', hK, hA, hAO1, hAO2, hZ, (name_of_methodNamed B.named B.method).1, hN⟩
  have XF : CallFix p m c cX12_init 2 s (([Value.ref 0] : List Value).map (atv ad)).toArray aWS (aCN 10) := ⟨hx, hb, hml, hown, hts'⟩
  rw [lg_entry_eq]
  have hl := lv_entry (([Value.ref 0] : List Value).map (atv ad)) (n := 2) (Nat.le_of_ble_eq_true rfl)
  have hl' : aHas ad ((lg_sl (([Value.ref 0] : List Value).map (atv ad)) ++ List.replicate (2 - (lg_sl (([Value.ref 0] : List Value).map (atv ad))).length) Slot.unset).toArray) 2 (alc [.ref 0] 2) := by
    refine ⟨rfl, ?_⟩
    unfold alc
    rw [apr_args]
    exact hl
  refine bst_ok (l := l) (cy := cy) (D := D) (A := A) (e0 := ad 2000) (Or.inl rfl) bnl_ok bI_ok bcl_ok bcl_B 2000 6 10 0 _ _ runX p e _ s m _ below meth c _ ad X (Nat.le_of_ble_eq_true rfl) (Nat.le_of_ble_eq_true rfl) (Nat.le_refl _) (Nat.le_refl _) rfl (fun ad' hag => ?_) _ s.heap [] hl' hP hD va_S.rf
  intro B1 H locs hl1 hP1 hD1 hS1
  dsimp only at hl1 hP1 hD1 ⊢
  obtain ⟨hin1, hin2⟩ := bInX hD1
  have hPa := bW_aws rfl rfl hP1
  have had' : ∀ x y, 2000 ≤ x → x ≤ 2099 → 2000 ≤ y → y ≤ 2099 → ad' x = ad' y → x = y := by
    intro x y h1 h2 h3 h4 h5
    rw [hag x (Or.inr h1), hag y (Or.inr h3)] at h5
    exact had x y h1 h2 h3 h4 h5
  show W p l e _ s m _ below meth c H locs 151 5874 _ (F0 m 156 B1 [])
  refine lv_aload_n hx hb dXi_156 rfl (hl1.at (i := 0) (v := .ref 0) rfl) ?_
  refine rc_get (ids := idX) (S := S0X) (x := 0) XF hK dXi_157 aLkX1 (by decide +kernel) rfl rfl hPa ?_
  refine lv_aload_n hx hb dXi_160 rfl (hl1.at (i := 0) (v := .ref 0) rfl) ?_
  refine rc_get (ids := idX) (S := S0X) (x := 0) XF hK dXi_161 aLkX2 (by decide +kernel) rfl rfl hPa ?_
  show W p l e _ s m _ below meth c H locs 151 5874 _ (F0 m 164 B1 ((([Value.ref 6] : List Value).map (atv ad')).reverse ++ .ref (ad' 40) :: ([] : List Value).map (atv ad')))
  refine rc_callV (MI := miX) (j := 37) (d := dd) (As := [.ref 6]) (rest := []) (b0 := 40) (S := S0X) (ids := idX) (A := A) (A0 := A) XF hN hK aZX_ok (fun U hU hW => aZX_ok.2 s U H locs (aZX_ag hag hZX) hW hS1 hU) (okX 37 (by decide)) (by decide) lkBegin rfl rfl (by decide +kernel) (Nat.le_of_ble_eq_true rfl) (Nat.le_of_ble_eq_true rfl) (Nat.le_refl _) (Nat.le_refl _) (metX hin1 hin2 had' dd 37 _ _ _ (by decide) hW) dXi_164 (by decide) hl1.2.1 hPa hS1 (fun _ h => h) (fun v S' H1 locs1 hq hp1 hk1 hz1 hs1 => ?_)
  obtain ⟨rfl, hQ⟩ := hq
  exact W.vret hx hb hr (fun t ht hW => ⟨⟨(ad', S'), rfl, ⟨hag, hQ, hin1, hin2⟩, (show va_P D vwCl (aws ad' cy idX S') t.heap by rw [ht]; exact hp1)⟩, hs1.F ht⟩) hs1.2.2 dXi_167 hlocks
theorem dMi_323 : decode cX13_init 323 = .ok (.aload_n 0, 1) := by decide +kernel
theorem dMi_324 : decode cX13_init 324 = .ok (.getfield 13, 3) := by decide +kernel
theorem dMi_327 : decode cX13_init 327 = .ok (.iconst 2, 1) := by decide +kernel
theorem dMi_328 : decode cX13_init 328 = .ok (.iconst 3, 1) := by decide +kernel
theorem dMi_329 : decode cX13_init 329 = .ok (.iastore, 1) := by decide +kernel
theorem dMi_330 : decode cX13_init 330 = .ok (.aload_n 0, 1) := by decide +kernel
theorem dMi_331 : decode cX13_init 331 = .ok (.invokevirtual 132, 3) := by decide +kernel
theorem dMi_334 : decode cX13_init 334 = .ok (.return_, 1) := by decide +kernel
set_option maxRecDepth 100000 in
theorem cM_init (l : Launch) {ad : Nat → Nat} {cy : Nat → ClassId} {D : va_G} {A : Nat → Prop} {QQ : aS → Prop} (had : ∀ x y, 2000 ≤ x → x ≤ 2099 → 2000 ≤ y → y ≤ 2099 → ad x = ad y → x = y) (hW : aWM dd 39 [.ref 1000] (sa S0M 1002 2 3) (fun v S' => v = .null ∧ QQ S')) :
    Met l yX13_init (Cond.code yX13_init cX13_init 1 none :: aWS) (cRm 40 5276) (cPc 1000 cy D A ad [(11, 0, (aft 11).map bDf)]) (cQc 1000 idM cy D A ad QQ) 40 5276 A := by
  refine metF (cc := cX13_init) (maxL := 1) (ret := none) (by decide +kernel) rfl ?_
  intro p e s m args below meth c s₁ B hml hv
  obtain ⟨⟨hargs, hP, hD, hK, hA, hAO1, hAO2, hZ, hN⟩, hZX⟩ := hv
  subst hargs
  have hts := atoms_spec B.pre
  have hts' : ∀ w ∈ aWS, w.before (([Value.ref 1000] : List Value).map (atv ad)).toArray s = true := fun w hw => hts w (List.mem_cons_of_mem _ hw)
  have hlocks := B.notSynchronized
  have hr := B.returns
  have hx := B.exec
  have hb := B.bytes
  have hown : s.vm.findClass (aCN 11) = some m.cls := findClass_of_methodNamed B.named
  have X : bCx p s m (([Value.ref 1000] : List Value).map (atv ad)).toArray meth c (bBM 11).2.1 (bBM 11).2.2.1 11 cy D A (ad 2000) :=
    ⟨hx, hb, hml, hown, hts', hK, hA, hAO1, hAO2, hZ, (name_of_methodNamed B.named B.method).1, hN⟩
  have XF : CallFix p m c cX13_init 1 s (([Value.ref 1000] : List Value).map (atv ad)).toArray aWS (aCN 11) := ⟨hx, hb, hml, hown, hts'⟩
  rw [lg_entry_eq]
  have hl := lv_entry (([Value.ref 1000] : List Value).map (atv ad)) (n := 1) (Nat.le_of_ble_eq_true rfl)
  have hl' : aHas ad ((lg_sl (([Value.ref 1000] : List Value).map (atv ad)) ++ List.replicate (1 - (lg_sl (([Value.ref 1000] : List Value).map (atv ad))).length) Slot.unset).toArray) 1 (alc [.ref 1000] 1) := by
    refine ⟨rfl, ?_⟩
    unfold alc
    rw [apr_args]
    exact hl
  refine bst_ok (l := l) (cy := cy) (D := D) (A := A) (e0 := ad 2000) (Or.inr rfl) bnl_ok bI_ok bcl_ok bcl_B 2000 6 11 0 _ _ runM p e _ s m _ below meth c _ ad X (Nat.le_of_ble_eq_true rfl) (Nat.le_of_ble_eq_true rfl) (Nat.le_refl _) (Nat.le_refl _) rfl (fun ad' hag => ?_) _ s.heap [] hl' hP hD va_S.rf
  intro B1 H locs hl1 hP1 hD1 hS1
  dsimp only at hl1 hP1 hD1 ⊢
  obtain ⟨hin1, hin2⟩ := bInM hD1
  have hPa := bW_aws rfl rfl hP1
  have had' : ∀ x y, 2000 ≤ x → x ≤ 2099 → 2000 ≤ y → y ≤ 2099 → ad' x = ad' y → x = y := by
    intro x y h1 h2 h3 h4 h5
    rw [hag x (Or.inr h1), hag y (Or.inr h3)] at h5
    exact had x y h1 h2 h3 h4 h5
  show W p l e _ s m _ below meth c H locs 40 5276 _ (F0 m 323 B1 [])
  refine lv_aload_n hx hb dMi_323 rfl (hl1.at (i := 0) (v := .ref 1000) rfl) ?_
  refine rc_get (ids := idM) (S := S0M) (x := 1000) XF hK dMi_324 aLkM1 (by decide +kernel) rfl rfl hPa ?_
  refine lv_iconst (v := 2) hx hb dMi_327 rfl ?_
  refine lv_iconst (v := 3) hx hb dMi_328 rfl ?_
  show W p l e _ s m _ below meth c H locs 40 5276 _ (F0 m 329 B1 (.int 3 :: .int 2 :: .ref (ad' 1002) :: []))
  refine rc_iast (ids := idM) (S := S0M) (a := 30) (x := 1002) XF hK dMi_329 rfl rfl (by decide +kernel) idM_nd hin1 hin2 rfl (by show ¬ ((2 : Int32) < 0 ∨ 8 ≤ (2 : Int32).toNatClampNeg); decide) hPa hS1 (fun H2 locs2 hP2 hS2 => ?_)
  refine lv_aload_n hx hb dMi_330 rfl (hl1.at (i := 0) (v := .ref 1000) rfl) ?_
  show W p l e _ s m _ below meth c H2 locs2 40 5276 _ (F0 m 331 B1 ((([] : List Value).map (atv ad')).reverse ++ .ref (ad' 1000) :: ([] : List Value).map (atv ad')))
  refine rc_callV (MI := miM) (j := 39) (d := dd) (As := []) (rest := []) (b0 := 1000) (ids := idM) (A := A) (A0 := A) (Zc := fun _ => True) XF hN hK aZtt (fun _ _ _ => trivial) (okM 39 (by decide)) (by decide) lkFresh rfl rfl (by decide +kernel) (Nat.le_of_ble_eq_true rfl) (Nat.le_of_ble_eq_true rfl) (Nat.le_refl _) (Nat.le_refl _) (metM hin1 hin2 had' dd 39 _ _ _ (by decide) hW) dMi_331 (by decide) hl1.2.1 hP2 hS2 (fun _ h => h) (fun v S' H1 locs1 hq hp1 hk1 hz1 hs1 => ?_)
  obtain ⟨rfl, hQ⟩ := hq
  exact W.vret hx hb hr (fun t ht hW => ⟨⟨(ad', S'), rfl, ⟨hag, hQ, hin1, hin2⟩, (show va_P D vwCl (aws ad' cy idM S') t.heap by rw [ht]; exact hp1)⟩, hs1.F ht⟩) hs1.2.2 dMi_334 hlocks
