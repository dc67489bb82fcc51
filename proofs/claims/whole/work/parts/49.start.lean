/-! the law makes its objects -/
section
variable {p : Program} {l : Launch} {e : Env} {s : State} {m : MethodId} {args : Array Value} {below : List Frame} {meth : Method} {c : Code} {cy : Nat → ClassId} {D : va_G} {Qs : State → Prop}
theorem l_make (X : CallFix p m c code 7 s args aWS (aCN 12)) (hN : ∀ w ∈ aNW, va_Nw w s) (hK : va_K D vwCl (atys cy) s) (hAO1 : va_AO RX5 s) (hAO2 : va_AO RX10 s) {ci o i1 i2 pc mc ms maxL cells slots : Nat} {r : vw_C} {y : MethodName} {bytes : ByteArray} {ids : List Nat} {QQ : aS → Prop} {ad : Nat → Nat} (ho : o < 2000) (hc : vwCl[ci]? = some r) (hcl : Cond.classLink (aCN 12) i1 r.1 ∈ aWS)
    (hlk : Cond.methodLink (aCN 12) i2 y ∈ aWS) (hcode : Cond.code y bytes maxL none ∈ aWS) (hini : Cond.initialized y.cls ∈ aWS) (hins : Cond.instanceMethod y ∈ aWS) (hy1 : y.name = "<init>") (hyd : y.cls ≠ "java/lang/invoke/MethodHandle" ∧ y.cls ≠ "java/lang/invoke/VarHandle" ∧ (parseMethodDescriptor y.desc).map (fun d => d.parameters.length) = some 0) (hmx : maxL ≤ 100)
    (hM : ∀ (A : Nat → Prop) (ad : Nat → Nat), (∀ x y, 2000 ≤ x → x ≤ 2099 → 2000 ≤ y → y ≤ 2099 → ad x = ad y → x = y) → Met l y (Cond.code y bytes maxL none :: aWS) (cRm mc ms) (cPc o cy D A ad [(ci, 0, (aft ci).map bDf)]) (cQc o ids cy D A ad QQ) mc ms A)
    (hco : ∀ x y, 2000 ≤ x → x ≤ 2099 → 2000 ≤ y → y ≤ 2099 → ad x = ad y → x = y) (hZ : ∀ A : Nat → Prop, (∀ a : Nat, a < s.heap.size → ¬ A a) → aZX ad A s)
    {B : Array Slot} {H : Heap} (hsz : B.size = 7) (hun : ∀ q : Nat, q < s.heap.size → H[q]? = s.heap[q]?) (hge : s.heap.size ≤ H.size) (d1 : decode code pc = .ok (.new i1, 3)) (d2 : decode code (pc + 3) = .ok (.dup, 1)) (d3 : decode code (pc + 4) = .ok (.invokespecial i2, 3)) (hce : cells + 1 + mc ≤ 601024) (hsl : slots + r.2.2 + ms ≤ 7293034)
    (kk : ∀ (ad' : Nat → Nat) (S' : aS) (H1 : Heap) (locs1 : List Loc), bAg o ad ad' → QQ S' → (∀ i ∈ ids, H.size ≤ ad' i) → (∀ i j, i ∈ ids → j ∈ ids → ad' i = ad' j → i = j) → va_P D vwCl (aws ad' cy ids S') H1 → (∀ q : Nat, q < H.size → H1[q]? = H[q]?) → H.size ≤ H1.size → (∀ z ∈ locs1, H.size ≤ z.base) → W p l e room_1 s m args below meth c H1 locs1 (cells + 1 + mc) (slots + r.2.2 + ms) Qs (F0 m (pc + 7) B [.ref (ad' o)])) :
    W p l e room_1 s m args below meth c H [] cells slots Qs (F0 m pc B []) := by
  obtain ⟨hx, hb, hml, hown, hts⟩ := id X
  obtain ⟨C, T, N⟩ := r
  obtain ⟨h7, ty0, h8, h9, h10, h11⟩ := aCk_ok _ _ hc
  have h10 : (aft ci).length = N := h10
  have hci : ci < 12 := (List.getElem?_eq_some_iff.mp hc).1
  have h20 : Nat.blt ci 20 = true := Nat.ble_eq_true_of_le (by omega)
  obtain ⟨w1, w2⟩ := bI_ok ci _ hc
  have hP0 : va_P D vwCl [] H := fun k q h => by simp at h
  have hD0 : va_D (fun z => H.size ≤ z) [] := ⟨fun i j p q h => by simp at h, fun k q h => by simp at h⟩
  refine va_new (D := D) (A := fun z => H.size ≤ z) (H0 := H) (ws := []) (tys := atys cy) (fs := (aft ci).map bDf) hx hb hts h7 ty0 h8 hown (hts _ hcl) (hts _ w1) (hts _ w2) hK hP0 hD0 va_S.rf (fun _ h => h) hc ?_ (show cells + 1 ≤ 601024 by omega) (show slots + N ≤ 7293034 from Nat.le_trans (Nat.le_add_right _ _) hsl) d1 (fun q0 H1 z1 z2 z3 => ?_)
  · intro j hj
    rw [bDf_ok (h11 j hj)]
    unfold vp_V
    rw [List.getD_eq_getElem?_getD, List.getD_eq_getElem?_getD, List.getElem?_map]
    have hj' : j < (aft ci).length := by rw [h10]; exact hj
    rw [List.getElem?_eq_getElem hj']
    rfl
  have hun1 : ∀ q : Nat, q < H.size → H1[q]? = H[q]? := fun q hq => z3.2.1 q hq (Nat.not_le.mpr hq)
  refine lv_dup hx hb d2 rfl ?_
  have hag : bAg o ad (fun n => if n = o then q0 else ad n) := by
    intro n hn
    show (if n = o then q0 else ad n) = ad n
    rw [if_neg (by omega)]
  have hco' : ∀ x y, 2000 ≤ x → x ≤ 2099 → 2000 ≤ y → y ≤ 2099 → (fun n => if n = o then q0 else ad n) x = (fun n => if n = o then q0 else ad n) y → x = y := by
    intro x y g1 g2 g3 g4 g5
    rw [hag x (Or.inr g1), hag y (Or.inr g3)] at g5
    exact hco x y g1 g2 g3 g4 g5
  have hw : bW (fun n => if n = o then q0 else ad n) cy o [(ci, 0, (aft ci).map bDf)] = [(q0, .inr (ci, (aft ci).map bDf))] := by
    show [((if o = o then q0 else ad o), bE (fun n => if n = o then q0 else ad n) cy (ci, 0, (aft ci).map bDf))] = _
    rw [if_pos rfl, bE_obj h20, List.map_map, show (atv (fun n => if n = o then q0 else ad n) ∘ bDf) = bDf from funext fun t => bDf_atv t]
  have hZ1 : ∀ U : State, U.heap = H1 → s.WarmedH U.vm → aZX (fun n => if n = o then q0 else ad n) (fun z => H.size ≤ z) U := by
    intro U hU hW
    exact aZX_ok.2 s U H1 [] (aZX_ag hag (hZ _ (fun a ha => Nat.not_le.mpr (Nat.lt_of_lt_of_le ha hge)))) hW ⟨Nat.le_trans hge z3.1, fun q h1 _ => (hun1 q (Nat.lt_of_lt_of_le h1 hge)).trans (hun q h1), fun _ h => by cases h⟩ hU
  have hpre : PreS s H1 (cPc o cy D (fun z => H.size ≤ z) (fun n => if n = o then q0 else ad n) [(ci, 0, (aft ci).map bDf)]) [.ref q0] := by
    refine ⟨cPc_blind, fun U hU hW => ⟨⟨?_, by rw [hU, hw]; exact z1, by rw [hw]; exact z2, va_K.moved hW.alike hK, by rw [hU]; exact fun q hq => Nat.le_trans z3.1 hq, va_AO.moved hW.alike hAO1, va_AO.moved hW.alike hAO2, ((hZ1 U hU hW).1.1 0 (by decide)).1, aNW_warm hW hN⟩, hZ1 U hU hW⟩⟩
    show _ = (([Value.ref o] : List Value).map (atv (fun n => if n = o then q0 else ad n))).toArray
    show _ = [Value.ref (if o = o then q0 else ad o)].toArray
    rw [if_pos rfl]
  have hG : GoodIn aWS (Cond.code y bytes maxL none :: aWS) := aGood (ws := []) hcode (fun _ h => by cases h)
  refine va_callv (A0 := fun z => H.size ≤ z) (H0 := H) (va_runI (As := []) (rest := [.ref q0]) (Ts := aWS) X (hM _ _ hco') (cwI 0 hts hG rfl rfl rfl (hts _ hini) (hts _ hlk) (hts _ hins) hy1 hyd ⟨Nat.le_of_ble_eq_true rfl, ?_⟩) hpre rfl rfl hsz rfl (Nat.le_of_ble_eq_true rfl) d3 ⟨hce, hsl⟩) z3 (fun _ _ h => h) (fun _ h => h) (fun u t H2 locs2 e1 e2 hu hB e3 e4 hS2 => ?_)
  · show 8 + (maxL + 11) + 120 * 110 ≤ 84000
    omega
  · obtain ⟨g1, g2, g3, g4⟩ := hu
    have hq0 : u.1 o = q0 := by
      rw [g1 o (Or.inl (Nat.lt_succ_self o))]
      show (if o = o then q0 else ad o) = q0
      rw [if_pos rfl]
    have hfin := kk u.1 u.2 H2 locs2 (hag.trans (g1.le (Nat.le_succ o))) g2 g3 g4 (by rw [← e1]; exact hB) (fun q hq => hS2.2.1 q hq (Nat.not_le.mpr hq)) hS2.1 hS2.2.2
    rw [hq0] at hfin
    exact hfin
end
