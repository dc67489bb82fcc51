/-! the true machine does what the small one says: instructions that go on to the next one -/
def aTP (t : aT) (Z : aLs → List Value → aS → Prop) : Prop := match t with
  | some (g1, g2, ls, st, S) => aG g1 (aG g2 (Z ls st S))
  | none => False
section
variable {Z : aLs → List Value → aS → Prop} {st : List Value}
theorem pI_inv {k : Int32 → List Value → aT} (h : aTP (pI st k) Z) : ∃ x r, st = .int x :: r ∧ aTP (k x r) Z := by
  unfold pI at h; split at h
  · exact ⟨_, _, rfl, h⟩
  · exact h.elim
theorem pII_inv {k : Int32 → Int32 → List Value → aT} (h : aTP (pII st k) Z) : ∃ x y r, st = .int y :: .int x :: r ∧ aTP (k x y r) Z := by
  unfold pII at h; split at h
  · exact ⟨_, _, _, rfl, h⟩
  · exact h.elim
theorem pL_inv {k : Int64 → List Value → aT} (h : aTP (pL st k) Z) : ∃ x r, st = .long x :: r ∧ aTP (k x r) Z := by
  unfold pL at h; split at h
  · exact ⟨_, _, rfl, h⟩
  · exact h.elim
theorem pLL_inv {k : Int64 → Int64 → List Value → aT} (h : aTP (pLL st k) Z) : ∃ x y r, st = .long y :: .long x :: r ∧ aTP (k x y r) Z := by
  unfold pLL at h; split at h
  · exact ⟨_, _, _, rfl, h⟩
  · exact h.elim
theorem pLI_inv {k : Int64 → Int32 → List Value → aT} (h : aTP (pLI st k) Z) : ∃ x y r, st = .int y :: .long x :: r ∧ aTP (k x y r) Z := by
  unfold pLI at h; split at h
  · exact ⟨_, _, _, rfl, h⟩
  · exact h.elim
theorem pR_inv {k : Nat → List Value → aT} (h : aTP (pR st k) Z) : ∃ x r, st = .ref x :: r ∧ aTP (k x r) Z := by
  unfold pR at h; split at h
  · exact ⟨_, _, rfl, h⟩
  · exact h.elim
theorem pRR_inv {k : Nat → Nat → List Value → aT} (h : aTP (pRR st k) Z) : ∃ x y r, st = .ref y :: .ref x :: r ∧ aTP (k x y r) Z := by
  unfold pRR at h; split at h
  · exact ⟨_, _, _, rfl, h⟩
  · exact h.elim
theorem pRI_inv {k : Nat → Int32 → List Value → aT} (h : aTP (pRI st k) Z) : ∃ x y r, st = .int y :: .ref x :: r ∧ aTP (k x y r) Z := by
  unfold pRI at h; split at h
  · exact ⟨_, _, _, rfl, h⟩
  · exact h.elim
theorem pRL_inv {k : Nat → Int64 → List Value → aT} (h : aTP (pRL st k) Z) : ∃ x y r, st = .long y :: .ref x :: r ∧ aTP (k x y r) Z := by
  unfold pRL at h; split at h
  · exact ⟨_, _, _, rfl, h⟩
  · exact h.elim
theorem pRII_inv {k : Nat → Int32 → Int32 → List Value → aT} (h : aTP (pRII st k) Z) : ∃ x i y r, st = .int y :: .int i :: .ref x :: r ∧ aTP (k x i y r) Z := by
  unfold pRII at h; split at h
  · exact ⟨_, _, _, _, rfl, h⟩
  · exact h.elim
theorem pRIL_inv {k : Nat → Int32 → Int64 → List Value → aT} (h : aTP (pRIL st k) Z) : ∃ x i y r, st = .long y :: .int i :: .ref x :: r ∧ aTP (k x i y r) Z := by
  unfold pRIL at h; split at h
  · exact ⟨_, _, _, _, rfl, h⟩
  · exact h.elim
theorem aldI_inv {ls : aLs} {i : Nat} {k : Int32 → aT} (h : aTP (aldI ls i k) Z) : ∃ x, ls[i]? = some (some (.int x)) ∧ aTP (k x) Z := by
  unfold aldI at h; split at h
  · rename_i x e; exact ⟨x, e, h⟩
  · exact h.elim
theorem aldL_inv {ls : aLs} {i : Nat} {k : Int64 → aT} (h : aTP (aldL ls i k) Z) : ∃ x, ls[i]? = some (some (.long x)) ∧ aTP (k x) Z := by
  unfold aldL at h; split at h
  · rename_i x e; exact ⟨x, e, h⟩
  · exact h.elim
theorem aldR_inv {ls : aLs} {i : Nat} {k : Nat → aT} (h : aTP (aldR ls i k) Z) : ∃ x, ls[i]? = some (some (.ref x)) ∧ aTP (k x) Z := by
  unfold aldR at h; split at h
  · rename_i x e; exact ⟨x, e, h⟩
  · exact h.elim
theorem aput_inv {ls : aLs} {i : Nat} {k : aT} (h : aTP (aput ls i k) Z) : i < ls.length ∧ aTP k Z := by
  unfold aput at h
  cases hb : Nat.blt i ls.length with
  | true => rw [hb] at h; exact ⟨Nat.le_of_ble_eq_true hb, h⟩
  | false => rw [hb] at h; exact h.elim
end
theorem aGK {a c : Nat} {X : Prop} (h : aG (gK a c) X) : akd a = c ∧ X := by
  unfold gK at h
  cases hb : Nat.beq (akd a) c with
  | true => rw [hb] at h; exact ⟨Nat.eq_of_beq_eq_true hb, h⟩
  | false => rw [hb] at h; exact h
/-- what holds wherever the method stands -/
def aCx (p : Program) (s : State) (m : MethodId) (args : Array Value) (c : Code) (cc : ByteArray) (nL on : Nat) (ad : Nat → Nat) (cy : Nat → ClassId) (D : va_G) (ids : List Nat) (A : Nat → Prop) (rk : Nat → Bool) (Zc : State → Prop) : Prop :=
  p.tables.exec = Jvm.exec ∧ c.code = cc ∧ c.maxLocals = nL ∧ s.vm.findClass (aCN on) = some m.cls ∧ (∀ w ∈ aWS, w.before args s = true) ∧ (∀ w ∈ aNW, va_Nw w s) ∧ va_K D vwCl (atys cy) s ∧ ids.Nodup ∧ (∀ i ∈ ids, A (ad i)) ∧ (∀ i j, i ∈ ids → j ∈ ids → ad i = ad j → i = j) ∧ (∀ i k, akd i = k → rk k = true → i ∈ ids) ∧ Zc s ∧ ∀ x y, 2000 ≤ x → x ≤ 2099 → 2000 ≤ y → y ≤ 2099 → ad x = ad y → x = y
/-- the true machine, at this place with these locals, this stack, this state, comes to Qs -/
def aWg (p : Program) (l : Launch) (e : Env) (R : Room) (s : State) (m : MethodId) (args : Array Value) (below : List Frame) (meth : Method) (c : Code) (nL : Nat) (ad : Nat → Nat) (cy : Nat → ClassId) (D : va_G) (ids : List Nat) (A : Nat → Prop) (Qs : State → Prop) (pc : Nat) (ls : aLs) (st : List Value) (S : aS) : Prop :=
  ∀ (B : Array Slot) (H : Heap) (locs : List Loc), aHas ad B nL ls → va_P D vwCl (aws ad cy ids S) H → va_S A s.heap H locs → W p l e R s m args below meth c H locs 0 0 Qs (F0 m pc B (st.map (atv ad)))
theorem aws_D {ad : Nat → Nat} {cy : Nat → ClassId} {ids : List Nat} {A : Nat → Prop} {S : aS} (hn : ids.Nodup) (hA : ∀ i ∈ ids, A (ad i)) (hi : ∀ i j, i ∈ ids → j ∈ ids → ad i = ad j → i = j) : va_D A (aws ad cy ids S) := by
  have get : ∀ (k : Nat) (q : Nat × va_E), (aws ad cy ids S)[k]? = some q → ∃ i, ids[k]? = some i ∧ q.1 = ad i := by
    intro k q h
    unfold aws at h
    rw [List.getElem?_map] at h
    cases hk : ids[k]? with
    | none => rw [hk] at h; cases h
    | some i => rw [hk] at h; cases h; exact ⟨i, rfl, rfl⟩
  constructor
  · intro i j p q h1 h2 e
    obtain ⟨a, ha, ea⟩ := get i p h1
    obtain ⟨b, hb, eb⟩ := get j q h2
    have := hi a b (List.mem_of_getElem? ha) (List.mem_of_getElem? hb) (ea.symm.trans (e.trans eb))
    subst this
    obtain ⟨h3, h4⟩ := List.getElem?_eq_some_iff.mp ha
    obtain ⟨h5, h6⟩ := List.getElem?_eq_some_iff.mp hb
    exact (List.getElem_inj hn).mp (h4.trans h6.symm)
  · intro k q h
    obtain ⟨a, ha, ea⟩ := get k q h
    rw [ea]
    exact hA a (List.mem_of_getElem? ha)
section
variable {p : Program} {l : Launch} {e : Env} {R : Room} {s : State} {m : MethodId} {args : Array Value} {below : List Frame} {meth : Method} {c : Code} {cc : ByteArray} {nL on : Nat} {ad : Nat → Nat} {cy : Nat → ClassId} {D : va_G} {ids : List Nat} {A : Nat → Prop} {rk : Nat → Bool} {Zc : State → Prop} {Qs : State → Prop} {pc : Nat} {B : Array Slot} {H : Heap} {locs : List Loc} {rest : List Value} {S : aS}
theorem r_get (X : aCx p s m args c cc nL on ad cy D ids A rk Zc) {i a k t : Nat} {x : Nat} (hd : decode cc pc = .ok (.getfield i, 3)) (hl : (on, i, a, k) ∈ aLT ∨ (on, i, a, k) ∈ aLN) (hr : rk a = true) (ht : (aft a)[k]? = some t) (hx : akd x = a) (hP : va_P D vwCl (aws ad cy ids S) H)
    (kk : W p l e R s m args below meth c H locs 0 0 Qs (F0 m (pc + 3) B (afv ad S x (t, k) :: rest))) : W p l e R s m args below meth c H locs 0 0 Qs (F0 m pc B (.ref (ad x) :: rest)) := by
  obtain ⟨hexec, hb, hml, hown, hts, hnw, hK, hn, hA, hi, hreg, hZ⟩ := X
  obtain ⟨q0, h1, h2⟩ := aws_at (ad := ad) (cy := cy) (S := S) (hreg x a hx hr)
  have ha : Nat.blt a 20 = true := by
    rcases hl with hl | hl
    · obtain ⟨r, h3, -⟩ := aLT_ok _ hl
      have : a < 12 := (List.getElem?_eq_some_iff.mp h3).1
      exact Nat.ble_eq_true_of_le (by omega)
    · obtain ⟨r, h3, -⟩ := aLN_ok _ hl
      have : a < 12 := (List.getElem?_eq_some_iff.mp h3).1
      exact Nat.ble_eq_true_of_le (by omega)
  rw [ace_obj hx ha] at h2
  rcases hl with hl | hl
  · obtain ⟨⟨C, T, N⟩, h3, h4, h5⟩ := aLT_ok _ hl
    exact va_get (D := D) hexec hb hts (aCk_ok a _ h3).1 hown hK hP q0 h2 h3 k h4 (hts _ h5) (fun _ h => h) (aft_get ht) hd kk
  · obtain ⟨⟨C, T, N⟩, h3, h4, h5⟩ := aLN_ok _ hl
    exact va_getN (D := D) hexec hb hts (aCk_ok a _ h3).1 hown hK hP q0 h2 h3 k h4 (va_Nw.use rfl (hnw _ h5)) (fun _ h => h) (aft_get ht) hd kk
theorem r_put (X : aCx p s m args c cc nL on ad cy D ids A rk Zc) {i a k t : Nat} {x : Nat} {v : Value} {S' : aS} (hd : decode cc pc = .ok (.putfield i, 3)) (hl : (on, i, a, k) ∈ aPT ∨ (on, i, a, k) ∈ aPN) (hr : rk a = true) (ht : (aft a)[k]? = some t) (hx : akd x = a) (hP : va_P D vwCl (aws ad cy ids S) H) (hS : va_S A s.heap H locs)
    (hfit : ∀ ty : FieldType, atk t ty = true → narrow ty v = v ∧ fits ty v = true) (hv : afv ad S' x (t, k) = v) (ho : ∀ t' k', k' ≠ k → afv ad S' x (t', k') = afv ad S x (t', k')) (hj : ∀ j, j ≠ x → ace ad cy S' j = ace ad cy S j)
    (kk : ∀ (H1 : Heap) (locs1 : List Loc), va_P D vwCl (aws ad cy ids S') H1 → va_S A s.heap H1 locs1 → W p l e R s m args below meth c H1 locs1 0 0 Qs (F0 m (pc + 3) B rest)) : W p l e R s m args below meth c H locs 0 0 Qs (F0 m pc B (v :: .ref (ad x) :: rest)) := by
  obtain ⟨hexec, hb, hml, hown, hts, hnw, hK, hn, hA, hi, hreg, hZ⟩ := X
  obtain ⟨q0, h1, h2⟩ := aws_at (ad := ad) (cy := cy) (S := S) (hreg x a hx hr)
  have ha : Nat.blt a 20 = true := by
    rcases hl with hl | hl
    · obtain ⟨r, h3, -⟩ := aPT_ok _ hl
      have : a < 12 := (List.getElem?_eq_some_iff.mp h3).1
      exact Nat.ble_eq_true_of_le (by omega)
    · obtain ⟨r, h3, -⟩ := aPN_ok _ hl
      have : a < 12 := (List.getElem?_eq_some_iff.mp h3).1
      exact Nat.ble_eq_true_of_le (by omega)
  have h2' := h2
  rw [ace_obj hx ha] at h2
  have hset : (aws ad cy ids S).set q0 (ad x, .inr (a, ((aft a).zipIdx.map (afv ad S x)).set k v)) = aws ad cy ids S' := by
    rw [aft_set ht hv ho, ← ace_obj (ad := ad) (cy := cy) (S := S') hx ha]
    exact aws_set hn h1 hj
  have hlen : k < ((aft a).zipIdx.map (afv ad S x)).length := by rw [aft_len]; exact (List.getElem?_eq_some_iff.mp ht).1
  have hD : va_D A (aws ad cy ids S) := aws_D hn hA hi
  rcases hl with hl | hl
  · obtain ⟨⟨C, T, N⟩, h3, h4, h5, h6⟩ := aPT_ok _ hl
    obtain ⟨h7, ty0, h8, h9, h10, h11⟩ := aCk_ok a _ h3
    have hty := h11 k h4
    rw [List.getD_eq_getElem?_getD, ht] at hty
    obtain ⟨f1, f2⟩ := hfit _ hty
    exact va_put (D := D) hexec hb hts h7 ty0 h8 h9 hown hK hP hD hS q0 h2 h3 k h4 (hts _ h6) (fun _ h => h) h5 (h8 k h4) f1 f2 hlen hd (fun H1 locs1 q1 _ q3 => kk H1 locs1 (hset ▸ q1) q3)
  · obtain ⟨⟨C, T, N⟩, h3, h4, h5, h6⟩ := aPN_ok _ hl
    obtain ⟨h7, ty0, h8, h9, h10, h11⟩ := aCk_ok a _ h3
    have hty := h11 k h4
    rw [List.getD_eq_getElem?_getD, ht] at hty
    obtain ⟨f1, f2⟩ := hfit _ hty
    exact va_putN (D := D) hexec hb hts h7 ty0 h8 h9 hown hK hP hD hS q0 h2 h3 k h4 (va_Nw.use rfl (hnw _ h6)) (fun _ h => h) h5 (h8 k h4) f1 f2 hlen hd (fun H1 locs1 q1 _ q3 => kk H1 locs1 (hset ▸ q1) q3)
end
