/-! the law: what holds wherever it stands; its calls -/
def setX (ad : Nat → Nat) : Nat → Prop := fun z => ∃ i ∈ idX, z = ad i
def setM (ad : Nat → Nat) : Nat → Prop := fun z => ∃ i ∈ idM, z = ad i
/-- the class's cells, the reference's, the law's own row of one long -/
def lW (ad : Nat → Nat) (cy : Nat → ClassId) (D : va_G) (q : Nat) (SX SM : aS) (o : Int64) (H : Heap) : Prop :=
  va_P D vwCl (aws ad cy idX SX) H ∧ va_P D vwCl (aws ad cy idM SM) H ∧ va_P D vwCl [(q, .inl (cy 1, 1, .inr (.inl fun _ => o)))] H
def lCx (p : Program) (s : State) (m : MethodId) (args : Array Value) (c : Code) (b L : Nat) (xs : Nat → Int32) (ad : Nat → Nat) (cy : Nat → ClassId) (D : va_G) (q : Nat) : Prop :=
  CallFix p m c code 7 s args aWS (aCN 12) ∧ (∀ w ∈ aNW, va_Nw w s) ∧ va_K D vwCl (atys cy) s ∧ aZX ad (setX ad) s ∧
  ((∀ i j, i ∈ idX → j ∈ idX → ad i = ad j → i = j) ∧ (∀ i j, i ∈ idM → j ∈ idM → ad i = ad j → i = j) ∧ (∀ i j, i ∈ idX → j ∈ idM → ad i ≠ ad j) ∧ (∀ i ∈ idX, ad i ≠ q) ∧ (∀ i ∈ idM, ad i ≠ q)) ∧
  ((∀ i ∈ idX, s.heap.size ≤ ad i) ∧ (∀ i ∈ idM, s.heap.size ≤ ad i) ∧ s.heap.size ≤ q) ∧
  (∀ x y, 2000 ≤ x → x ≤ 2099 → 2000 ≤ y → y ≤ 2099 → ad x = ad y → x = y) ∧ va_X b L xs s s.heap ∧ b < s.heap.size
abbrev lA (s : State) : Nat → Prop := fun z => s.heap.size ≤ z
theorem va_P_kept {D : va_G} {cl : List vw_C} {ws : va_W} {H H1 : Heap} (h : va_P D cl ws H) (hk : ∀ (k : Nat) (x : Nat × va_E), ws[k]? = some x → H1[x.1]? = H[x.1]?) : va_P D cl ws H1 := fun k x hx => (h k x hx).kept (hk k x hx)
theorem aws_addr {ad : Nat → Nat} {cy : Nat → ClassId} {ids : List Nat} {S : aS} {k : Nat} {x : Nat × va_E} (h : (aws ad cy ids S)[k]? = some x) : ∃ i ∈ ids, x.1 = ad i := by
  unfold aws at h
  rw [List.getElem?_map] at h
  cases hk : ids[k]? with
  | none => rw [hk] at h; cases h
  | some i => rw [hk] at h; cases h; exact ⟨i, List.mem_of_getElem? hk, rfl⟩
section
variable {p : Program} {l : Launch} {e : Env} {s : State} {m : MethodId} {args : Array Value} {below : List Frame} {meth : Method} {c : Code} {b L : Nat} {xs : Nat → Int32} {ad : Nat → Nat} {cy : Nat → ClassId} {D : va_G} {q : Nat} {Qs : State → Prop} {cells slots pc : Nat} {B : Array Slot} {H : Heap} {locs : List Loc} {SX SM : aS} {o : Int64}
theorem lX (Z : lCx p s m args c b L xs ad cy D q) {j i : Nat} {As rest : List Value} {Q : Value → aS → Prop} (hj : j < nmX) (hk : (miX j).2.2.2.2.2.1 = 10) (hlk : Cond.methodLink (aCN 12) i (miX j).1 ∈ aWS) (hn : As.length = (miX j).2.2.2.2.2.2.1) (hW : aWX dd j (.ref 0 :: As) SX Q) (hd : decode code pc = .ok (.invokevirtual i, 3)) (hcs : acs rest ≤ 8) (hce : cells ≤ 601024) (hsl : slots ≤ 7293034) (hsz : B.size = 7) (hL : lW ad cy D q SX SM o H) (hS : va_S (lA s) s.heap H locs)
    (kk : ∀ (v : Value) (SX' : aS) (H1 : Heap) (locs1 : List Loc), Q v SX' → lW ad cy D q SX' SM o H1 → va_S (lA s) s.heap H1 locs1 → W p l e room_1 s m args below meth c H1 locs1 cells slots Qs (F0 m (pc + 3) B ((aro ad v).toList ++ rest.map (atv ad)))) :
    W p l e room_1 s m args below meth c H locs cells slots Qs (F0 m pc B ((As.map (atv ad)).reverse ++ .ref (ad 0) :: rest.map (atv ad))) := by
  obtain ⟨hC, hN, hK, hZ, ⟨i1, i2, i3, i4, i5⟩, ⟨a1, a2, a3⟩, hco, hX, hb⟩ := Z
  obtain ⟨w1, w2, w3⟩ := hL
  have hA : ∀ z, setX ad z → lA s z := by
    rintro z ⟨i, hi, rfl⟩
    exact a1 i hi
  refine rc_callV (MI := miX) (j := j) (d := dd) (As := As) (rest := rest) (b0 := 0) (S := SX) (ids := idX) (A := setX ad) (A0 := lA s) hC hN hK aZX_ok (fun U hU hW => aZX_ok.2 s U H [] hZ hW ⟨hS.1, fun z h1 _ => hS.2.1 z h1 (Nat.not_le.mpr h1), fun _ h => by cases h⟩ hU) (okX j hj) (by rw [hk]; decide) hlk hn (by rw [hk]; rfl) (by decide +kernel) (Nat.le_of_ble_eq_true rfl) (Nat.le_of_ble_eq_true rfl) hce hsl (metX (fun i hi => ⟨i, hi, rfl⟩) i1 hco dd j _ _ _ hj hW) hd hcs hsz w1 hS hA (fun v S' H1 locs1 hq hp1 hk1 hz1 hs1 => ?_)
  refine kk v S' H1 locs1 hq ⟨hp1, va_P_kept w2 (fun k x hx => ?_), va_P_kept w3 (fun k x hx => ?_)⟩ hs1
  · obtain ⟨i, hi, e1⟩ := aws_addr hx
    refine hk1 x.1 ((w2 k x hx).lt) ?_
    rintro ⟨i', hi', e2⟩
    exact i3 i' i hi' hi (e2.symm.trans e1)
  · have hz : k < 1 := (List.getElem?_eq_some_iff.mp hx).1
    obtain rfl : k = 0 := by omega
    cases hx
    refine hk1 q ((w3 0 _ rfl).lt) ?_
    rintro ⟨i', hi', e2⟩
    exact i4 i' hi' e2.symm
theorem lM (Z : lCx p s m args c b L xs ad cy D q) {j i : Nat} {As rest : List Value} {Q : Value → aS → Prop} (hj : j < nmM) (hk : (miM j).2.2.2.2.2.1 = 11) (hlk : Cond.methodLink (aCN 12) i (miM j).1 ∈ aWS) (hn : As.length = (miM j).2.2.2.2.2.2.1) (hW : aWM dd j (.ref 1000 :: As) SM Q) (hd : decode code pc = .ok (.invokevirtual i, 3)) (hcs : acs rest ≤ 8) (hce : cells ≤ 601024) (hsl : slots ≤ 7293034) (hsz : B.size = 7) (hL : lW ad cy D q SX SM o H) (hS : va_S (lA s) s.heap H locs)
    (kk : ∀ (v : Value) (SM' : aS) (H1 : Heap) (locs1 : List Loc), Q v SM' → lW ad cy D q SX SM' o H1 → va_S (lA s) s.heap H1 locs1 → W p l e room_1 s m args below meth c H1 locs1 cells slots Qs (F0 m (pc + 3) B ((aro ad v).toList ++ rest.map (atv ad)))) :
    W p l e room_1 s m args below meth c H locs cells slots Qs (F0 m pc B ((As.map (atv ad)).reverse ++ .ref (ad 1000) :: rest.map (atv ad))) := by
  obtain ⟨hC, hN, hK, hZ, ⟨i1, i2, i3, i4, i5⟩, ⟨a1, a2, a3⟩, hco, hX, hb⟩ := Z
  obtain ⟨w1, w2, w3⟩ := hL
  have hA : ∀ z, setM ad z → lA s z := by
    rintro z ⟨i, hi, rfl⟩
    exact a2 i hi
  refine rc_callV (MI := miM) (j := j) (d := dd) (As := As) (rest := rest) (b0 := 1000) (S := SM) (ids := idM) (A := setM ad) (A0 := lA s) (Zc := fun _ => True) hC hN hK aZtt (fun _ _ _ => trivial) (okM j hj) (by rw [hk]; decide) hlk hn (by rw [hk]; rfl) (by decide +kernel) (Nat.le_of_ble_eq_true rfl) (Nat.le_of_ble_eq_true rfl) hce hsl (metM (fun i hi => ⟨i, hi, rfl⟩) i2 hco dd j _ _ _ hj hW) hd hcs hsz w2 hS hA (fun v S' H1 locs1 hq hp1 hk1 hz1 hs1 => ?_)
  refine kk v S' H1 locs1 hq ⟨va_P_kept w1 (fun k x hx => ?_), hp1, va_P_kept w3 (fun k x hx => ?_)⟩ hs1
  · obtain ⟨i, hi, e1⟩ := aws_addr hx
    refine hk1 x.1 ((w1 k x hx).lt) ?_
    rintro ⟨i', hi', e2⟩
    exact i3 i i' hi hi' (e1.symm.trans e2)
  · have hz : k < 1 := (List.getElem?_eq_some_iff.mp hx).1
    obtain rfl : k = 0 := by omega
    cases hx
    refine hk1 q ((w3 0 _ rfl).lt) ?_
    rintro ⟨i', hi', e2⟩
    exact i5 i' hi' e2.symm
/-- the law at a place, with these numbers -/
def lG (p : Program) (l : Launch) (e : Env) (s : State) (m : MethodId) (args : Array Value) (below : List Frame) (meth : Method) (c : Code) (b : Nat) (ad : Nat → Nat) (cy : Nat → ClassId) (D : va_G) (q : Nat) (Qs : State → Prop) (cells slots pc : Nat) (i : Int32) (SX SM : aS) (o : Int64) : Prop :=
  ∀ (B : Array Slot) (H : Heap) (locs : List Loc), lv_has B 7 [(0, .ref b), (1, .ref (ad 0)), (2, .ref (ad 1000)), (3, .ref q), (4, .int i)] → lW ad cy D q SX SM o H → va_S (lA s) s.heap H locs → W p l e room_1 s m args below meth c H locs cells slots Qs (F0 m pc B [])
end
