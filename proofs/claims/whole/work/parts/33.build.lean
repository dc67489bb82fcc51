/-! the machine of the constructors: a step is the true one's -/
def bCx (p : Program) (s : State) (m : MethodId) (args : Array Value) (meth : Method) (c : Code) (cc : ByteArray) (nL on : Nat) (cy : Nat → ClassId) (D : va_G) (A : Nat → Prop) (e0 : Nat) : Prop :=
  p.tables.exec = Jvm.exec ∧ c.code = cc ∧ c.maxLocals = nL ∧ s.vm.findClass (aCN on) = some m.cls ∧ (∀ w ∈ aWS, w.before args s = true) ∧ va_K D vwCl (atys cy) s ∧ (∀ q, s.heap.size ≤ q → A q) ∧ va_AO RX5 s ∧ va_AO RX10 s ∧ va_Z RX9 "END" "LFoldedRealm$Sort;" (.ref e0) A s s.heap ∧ meth.name = "<init>" ∧ ∀ w ∈ aNW, va_Nw w s
def bG (p : Program) (l : Launch) (e : Env) (R : Room) (s : State) (m : MethodId) (args : Array Value) (below : List Frame) (meth : Method) (c : Code) (nL : Nat) (cy : Nat → ClassId) (D : va_G) (A : Nat → Prop) (Qs : State → Prop) (o pc : Nat) (S : bS) (ad : Nat → Nat) : Prop :=
  ∀ (B : Array Slot) (H : Heap) (locs : List Loc), aHas ad B nL S.1 → va_P D vwCl (bW ad cy o S.2.2.1) H → va_D A (bW ad cy o S.2.2.1) → va_S A s.heap H locs → W p l e R s m args below meth c H locs S.2.2.2.1 S.2.2.2.2 Qs (F0 m pc B (S.2.1.map (atv ad)))
def bNok (q : aQ) : Prop := ∃ r : vw_C, vwCl[q.2.2.1]? = some r ∧ Cond.classLink (aCN q.1) q.2.1 r.1 ∈ aWS
theorem cond_some {α : Type} {b : Bool} {x y : α} (h : cond b (some x) none = some y) : b = true ∧ x = y := by
  cases b with
  | true => exact ⟨rfl, Option.some.inj h⟩
  | false => cases h
theorem cond_some2 {α : Type} {b : Bool} {x : Option α} {y : α} (h : cond b x none = some y) : b = true ∧ x = some y := by
  cases b with
  | true => exact ⟨rfl, h⟩
  | false => cases h
theorem bDf_ok {t : Nat} {ty : FieldType} (h : atk t ty = true) : defaultValue ty = bDf t := by
  unfold atk at h
  split at h <;> first | rfl | cases h
theorem bDf_atv {ad : Nat → Nat} (t : Nat) : atv ad (bDf t) = bDf t := by
  unfold bDf
  split <;> rfl
theorem bFit_ok {t : Nat} {ty : FieldType} {v : Value} {ad : Nat → Nat} (h : bFit t v = true) (hk : atk t ty = true) : narrow ty (atv ad v) = atv ad v ∧ fits ty (atv ad v) = true := by
  unfold bFit at h
  split at h
  · cases ty <;> first | exact ⟨rfl, rfl⟩ | cases hk
  · cases ty <;> first | (rcases of_decide_eq_true h with z | z <;> subst z <;> exact ⟨rfl, rfl⟩) | cases hk
  · cases ty <;> first | exact ⟨rfl, rfl⟩ | cases hk
  · cases ty <;> first | exact ⟨rfl, rfl⟩ | cases hk
  · cases ty <;> first | exact ⟨rfl, rfl⟩ | cases hk
  · cases h
theorem bOwn : ∀ ci, ci < 12 → ∀ r, vwCl[ci]? = some r → ∀ k, k < r.2.2 → (r.2.1 k).1 = aCN ci := by
  intro ci hci r h
  match ci, h with
  | 0, h => cases h; decide +kernel
  | 1, h => cases h; decide +kernel
  | 2, h => cases h; decide +kernel
  | 3, h => cases h; decide +kernel
  | 4, h => cases h; decide +kernel
  | 5, h => cases h; decide +kernel
  | 6, h => cases h; decide +kernel
  | 7, h => cases h; decide +kernel
  | 8, h => cases h; decide +kernel
  | 9, h => cases h; decide +kernel
  | 10, h => cases h; decide +kernel
  | 11, h => cases h; decide +kernel
  | n + 12, h => cases h
theorem bE_obj {ad : Nat → Nat} {cy : Nat → ClassId} {k z : Nat} {fs : List Value} (h : Nat.blt k 20 = true) : bE ad cy (k, z, fs) = .inr (k, fs.map (atv ad)) := by
  unfold bE
  dsimp only
  rw [h]
  rfl
theorem bE_arr {ad : Nat → Nat} {cy : Nat → ClassId} {k z : Nat} {fs : List Value} (h : Nat.blt k 20 = false) : bE ad cy (k, z, fs) = .inl (cy (k % 10), z, bRw ad (k, z, fs)) := by
  unfold bE
  dsimp only
  rw [h]
  rfl
theorem bKb {kb a : Nat} (h : kb = 20 ∨ kb = 30) (ha : a ≤ 5) : Nat.blt (kb + a) 20 = false ∧ (kb + a) % 10 = a := by
  constructor
  · apply Bool.eq_false_iff.mpr
    intro z
    have := Nat.le_of_ble_eq_true z
    omega
  · omega
/-- the class of a row of such a type is one -/
theorem bRA {U : State} {cA cB : ClassId} {ty : FieldType} (h1 : va_RA U cA ty) (h2 : va_RA U cB ty) : cA = cB := by
  cases ty with
  | object C =>
    obtain ⟨-, -, -, -, -, a4⟩ := h1
    obtain ⟨-, -, -, -, -, b4⟩ := h2
    exact Option.some.inj (a4.symm.trans b4)
  | _ => exact Option.some.inj (Eq.trans (Eq.symm h1) h2)
section
variable {p : Program} {l : Launch} {e : Env} {R : Room} {s : State} {m : MethodId} {args : Array Value} {below : List Frame} {meth : Method} {c : Code} {cc : ByteArray} {nL on : Nat} {ad : Nat → Nat} {cy : Nat → ClassId} {D : va_G} {A : Nat → Prop} {Qs : State → Prop} {o kb e0 : Nat} {nl : List aQ}
/-- a cell comes to be -/
theorem bG_push {S : bS} {ls : aLs} {r : List Value} {cs : List bC} {nc ns pc' N : Nat} {c1 : bC} (hlim : o + cs.length < 2000) (hls : bLs (o + cs.length) ls = true) (hr : r.all (bLim (o + cs.length)) = true) (hcs : bAll (o + cs.length) cs = true)
    (hgo : ∀ ad', bAg (o + cs.length) ad ad' → bG p l e R s m args below meth c nL cy D A Qs o pc' (ls, .ref (o + cs.length) :: r, cs ++ [c1], nc + 1, ns + N) ad')
    {B : Array Slot} {H1 : Heap} {locs : List Loc} {q : Nat} {E : va_E} (hl : aHas ad B nL ls) (hE : ∀ ad', bAg (o + cs.length) ad ad' → bE ad' cy c1 = E) (hP : va_P D vwCl (bW ad cy o cs ++ [(q, E)]) H1) (hD : va_D A (bW ad cy o cs ++ [(q, E)])) (hS : va_S A s.heap H1 locs) :
    W p l e R s m args below meth c H1 locs (nc + 1) (ns + N) Qs (F0 m pc' B (.ref q :: r.map (atv ad))) := by
  have hag : bAg (o + cs.length) ad (fun n => if n = o + cs.length then q else ad n) := by
    intro n hn
    have : n ≠ o + cs.length := by omega
    show (if n = o + cs.length then q else ad n) = ad n
    rw [if_neg this]
  have h := hgo _ hag B H1 locs
  have hw : bW (fun n => if n = o + cs.length then q else ad n) cy o (cs ++ [c1]) = bW ad cy o cs ++ [(q, E)] := by
    rw [bW_push, bW_ag hag (Nat.le_refl _) hcs, hE _ hag, if_pos rfl]
  have hst : (Value.ref (o + cs.length) :: r).map (atv (fun n => if n = o + cs.length then q else ad n)) = .ref q :: r.map (atv ad) := by
    rw [List.map_cons, bMap_ag hag hr]
    show Value.ref (if o + cs.length = o + cs.length then q else ad (o + cs.length)) :: _ = _
    rw [if_pos rfl]
  dsimp only at h
  rw [hw, hst] at h
  exact h (aHas_ag hag hls hl) hP hD hS
theorem bAg.rf {lim : Nat} {ad : Nat → Nat} : bAg lim ad ad := fun _ _ => rfl
def bTy (a : Nat) : FieldType := match a with
  | 0 => .int
  | 1 => .long
  | 2 => .byte
  | 3 => .boolean
  | 4 => .object RX5
  | _ => .object RX10
theorem bTy_in {a : Nat} (h : a ≤ 5) : (atys cy)[a]? = some (cy a, bTy a) := by
  match a, h with
  | 0, _ => rfl
  | 1, _ => rfl
  | 2, _ => rfl
  | 3, _ => rfl
  | 4, _ => rfl
  | 5, _ => rfl
  | n + 6, h => exact absurd h (by omega)
theorem bCy {a : Nat} (h : a ≤ 5) {cA : ClassId} (hK : va_K D vwCl (atys cy) s) (hK' : va_K D vwCl (atys cy ++ [(cA, bTy a)]) s) : cA = cy a := by
  have h1 := (hK'.2 6 (cA, bTy a) rfl).2
  have h2 := (hK.2 a _ (bTy_in (cy := cy) h)).2
  exact bRA h1 h2
end
