/-! the true machine does what the small one says: jumps, returns, calls; methods -/
/-- a method: its name, its code, its locals, what it returns, its class's number, the kind of its receiver (99: none), how many parameters, the locals that are used behind each cut, its instructions -/
abbrev aMI : Type := MethodName × ByteArray × Nat × Option FieldType × Nat × Nat × Nat × (Nat → Nat) × List aE
def aro (ad : Nat → Nat) (v : Value) : Option Value := match v with
  | .null => none
  | .int x => some (.int x)
  | .long x => some (.long x)
  | .ref x => some (.ref (ad x))
  | .float x => some (.float x)
  | .double x => some (.double x)
  | .retAddr x => some (.retAddr x)
def aQc (ad : Nat → Nat) (cy : Nat → ClassId) (D : va_G) (ids : List Nat) (A : Nat → Prop) (Q : Value → aS → Prop) : Array Value → State → Outcome → State → Prop := fun _ st oc t => (∃ (v : Value) (S' : aS), oc = .returned (aro ad v) ∧ Q v S' ∧ va_P D vwCl (aws ad cy ids S') t.heap) ∧ va_F A st t
def aPc (ad : Nat → Nat) (cy : Nat → ClassId) (D : va_G) (ids : List Nat) (av : List Value) (S : aS) : Array Value → State → Prop := va_Pc (av.map (atv ad)) fun U => va_P D vwCl (aws ad cy ids S) U.heap ∧ va_K D vwCl (atys cy) U ∧ ∀ w ∈ aNW, va_Nw w U
def aRm (d : Nat) : Room := { frames := d, cells := 0, slots := 0, locals := 120 * d }
theorem aPc_blind {ad : Nat → Nat} {cy : Nat → ClassId} {D : va_G} {ids : List Nat} {av : List Value} {S : aS} : FrameBlind (aPc ad cy D ids av S) := by
  intro a U g mk h
  obtain ⟨h1, h2, h3, h4⟩ := h
  exact ⟨h1, h2, va_K.moved (u := U) (U := U.calling g mk a) (Vm.Alike.refl U.vm) h3, aNW_same (s := U) (U := U.calling g mk a) rfl h4⟩
/-- calls of the JDK's own that need no walk: 5000 max, 5001 min -/
def aprm (j : Nat) (av : List Value) (S : aS) (Q : Value → aS → Prop) : Prop := match av with
  | [.int x, .int y] => cond (Nat.beq j 5000) (Q (.int (if x < y then y else x)) S) (cond (Nat.beq j 5001) (Q (.int (if y < x then y else x)) S) False)
  | _ => False
def arc (k : Nat) (av : List Value) (X : Prop) : Prop := match Nat.beq k 99 with
  | true => X
  | false => match av with
    | .ref a :: _ => aG (gK a k) X
    | _ => False
def aif (b : Bool) (X : Prop) : Prop := match b with
  | true => X
  | false => False
theorem aif_mono {b : Bool} {X Y : Prop} (h : X → Y) (x : aif b X) : aif b Y := by
  cases b <;> first | exact h x | exact x
/-- a call at depth d comes to Q -/
def aW (MI : Nat → aMI) (tb : Nat → List (Int32 × Nat)) : Nat → Nat → List Value → aS → (Value → aS → Prop) → Prop
  | 0 => fun _ _ _ _ => False
  | d + 1 => fun j av S Q => match Nat.blt j 5000 with
    | true => aif (Nat.ble (alE av).length (MI j).2.2.1) (arc (MI j).2.2.2.2.2.1 av (aP tb (aW MI tb d) (MI j).2.2.2.2.2.2.2.1 (MI j).2.2.2.2.2.2.2.2 Q 0 (alc av (MI j).2.2.1) [] S))
    | false => aprm j av S Q
theorem arc_mono {k : Nat} {av : List Value} {X Y : Prop} (h : X → Y) (x : arc k av X) : arc k av Y := by
  unfold arc at x ⊢
  split at x
  · exact h x
  · split at x
    · exact aG_mono h x
    · exact x
theorem aprm_mono {j : Nat} {av : List Value} {S : aS} {Q Q' : Value → aS → Prop} (h : ∀ v S, Q v S → Q' v S) (x : aprm j av S Q) : aprm j av S Q' := by
  unfold aprm at x ⊢
  split at x
  · cases h1 : Nat.beq j 5000 with
    | true => rw [h1] at x; exact h _ _ x
    | false =>
      rw [h1] at x
      cases h2 : Nat.beq j 5001 with
      | true => rw [h2] at x; exact h _ _ x
      | false => rw [h2] at x; exact x
  · exact x
theorem aW_le {MI : Nat → aMI} {tb : Nat → List (Int32 × Nat)} : ∀ (d : Nat) (j : Nat) (av : List Value) (S : aS) (Q Q' : Value → aS → Prop), (∀ v S, Q v S → Q' v S) → aW MI tb d j av S Q → aW MI tb (d + 1) j av S Q' ∧ aW MI tb d j av S Q' := by
  intro d
  induction d with
  | zero => intro j av S Q Q' _ h; exact h.elim
  | succ d ih =>
    intro j av S Q Q' hQ h
    have h : (match Nat.blt j 5000 with
      | true => aif (Nat.ble (alE av).length (MI j).2.2.1) (arc (MI j).2.2.2.2.2.1 av (aP tb (aW MI tb d) (MI j).2.2.2.2.2.2.2.1 (MI j).2.2.2.2.2.2.2.2 Q 0 (alc av (MI j).2.2.1) [] S))
      | false => aprm j av S Q) := h
    show (match Nat.blt j 5000 with
      | true => aif (Nat.ble (alE av).length (MI j).2.2.1) (arc (MI j).2.2.2.2.2.1 av (aP tb (aW MI tb (d + 1)) (MI j).2.2.2.2.2.2.2.1 (MI j).2.2.2.2.2.2.2.2 Q' 0 (alc av (MI j).2.2.1) [] S))
      | false => aprm j av S Q') ∧ (match Nat.blt j 5000 with
      | true => aif (Nat.ble (alE av).length (MI j).2.2.1) (arc (MI j).2.2.2.2.2.1 av (aP tb (aW MI tb d) (MI j).2.2.2.2.2.2.2.1 (MI j).2.2.2.2.2.2.2.2 Q' 0 (alc av (MI j).2.2.1) [] S))
      | false => aprm j av S Q')
    split at h
    · exact ⟨aif_mono (arc_mono (aP_mono (fun j a S R R' hR z => (ih j a S R R' hR z).1) hQ)) h, aif_mono (arc_mono (aP_mono (fun j a S R R' hR z => (ih j a S R R' hR z).2) hQ)) h⟩
    · exact ⟨aprm_mono hQ h, aprm_mono hQ h⟩
/-- weaker ends, more depth -/
theorem aW_mono {MI : Nat → aMI} {tb : Nat → List (Int32 × Nat)} {d : Nat} {j : Nat} {av : List Value} {S : aS} {Q Q' : Value → aS → Prop} (h : aW MI tb d j av S Q) (hQ : ∀ v S, Q v S → Q' v S) : aW MI tb d j av S Q' := (aW_le d j av S Q Q' hQ h).2
theorem aW_up {MI : Nat → aMI} {tb : Nat → List (Int32 × Nat)} {d d' : Nat} {j : Nat} {av : List Value} {S : aS} {Q : Value → aS → Prop} (h : aW MI tb d j av S Q) (hd : d ≤ d') : aW MI tb d' j av S Q := by
  induction hd with
  | refl => exact h
  | step _ ih => exact (aW_le _ j av S Q Q (fun _ _ z => z) ih).1
theorem aW_cl {MI : Nat → aMI} {tb : Nat → List (Int32 × Nat)} (d : Nat) : ∀ j a S R R', (∀ v S, R v S → R' v S) → aW MI tb d j a S R → aW MI tb d j a S R' := fun j a S R R' hR h => (aW_le d j a S R R' hR h).2
/-- a method's instructions from a cut on -/
theorem aP_at {MI : Nat → aMI} {tb : Nat → List (Int32 × Nat)} {d : Nat} {mk : Nat → Nat} {code : List aE} {Q : Value → aS → Prop} {q : Nat} {ls : aLs} {st : List Value} {S : aS} (h : awp tb (aW MI tb d) Q (fun q ls => aP tb (aW MI tb d) mk code Q q (amk (mk q) ls)) (code.drop q) 0 true ls st S) : aP tb (aW MI tb d) mk code Q q ls st S := aP_go (aW_cl d) h
def pcO (l : List aE) : Option Nat := match l with
  | [] => none
  | n :: _ => some n.1
def ackT (code : List aE) (n : aE) (t : List aE) (off : Int) : Bool := match (match n.2.2.2.2.2.1 with | 0 => pcO (t.drop n.2.2.2.2.1) | _ => pcO (code.drop n.2.2.2.2.1)) with
  | some g => decide ((n.1 : Int) + off = (g : Int))
  | none => false
/-- what a program checks of an instruction beside those behind it -/
def ackC (MI : Nat → aMI) (NM : Nat) (MT : List (Nat × Nat × Nat)) (on : Nat) (rk : Nat → Bool) (rt : Option FieldType) (code : List aE) (n : aE) (t : List aE) : Bool := match n.2.1 with
  | .ifCond _ off => ackT code n t off && decide (pcO t = some (n.1 + 3))
  | .if_icmp _ off => ackT code n t off && decide (pcO t = some (n.1 + 3))
  | .if_acmp _ _ => false
  | .goto off => ackT code n t off
  | .tableswitch _ _ _ _ => false
  | .ireturn => (match n.2.2.2.2.1 with
    | 0 => decide (rt = some .int)
    | _ => decide (rt = some .boolean))
  | .lreturn => decide (rt = some .long)
  | .areturn => (match rt with
    | some (.object _) => true
    | _ => false)
  | .return_ => decide (rt = none)
  | .invokevirtual i => decide ((on, i, n.2.2.2.2.1) ∈ MT ∧ n.2.2.2.2.1 < NM ∧ (MI n.2.2.2.2.1).2.2.2.2.2.1 ≠ 99 ∧ rk (MI n.2.2.2.2.1).2.2.2.2.2.1 = true ∧ n.2.2.2.2.2.1 % 16 = (MI n.2.2.2.2.1).2.2.2.2.2.2.1 + 1 ∧ pcO t = some (n.1 + 3))
  | .invokestatic i => decide ((on, i, n.2.2.2.2.1) ∈ MT ∧ n.2.2.2.2.2.1 % 16 = (if n.2.2.2.2.1 < NM then (MI n.2.2.2.2.1).2.2.2.2.2.2.1 else 2) ∧ (n.2.2.2.2.1 < NM ∧ (MI n.2.2.2.2.1).2.2.2.2.2.1 = 99 ∨ n.2.2.2.2.1 = 5000 ∨ n.2.2.2.2.1 = 5001) ∧ pcO t = some (n.1 + 3))
  | .invokespecial _ => false
  | _ => decide (pcO t = some (n.1 + n.2.2.1)) && ackX on rk n
def ackL (MI : Nat → aMI) (NM : Nat) (MT : List (Nat × Nat × Nat)) (cc : ByteArray) (on : Nat) (rk : Nat → Bool) (rt : Option FieldType) (code : List aE) : List aE → Bool
  | [] => true
  | n :: t => decide (decode cc n.1 = .ok (n.2.1, n.2.2.1)) && (decide (n.2.2.1 = alen1 n.2.1) && (decide (n.2.2.2.1 = 0 ∨ pcO (code.drop (n.2.2.2.1 - 1)) = some n.1) && (ackC MI NM MT on rk rt code n t && ackL MI NM MT cc on rk rt code t)))
/-- what is known of a method by the tables -/
def aMok (i : aMI) : Prop := plainName i.1.cls = true ∧ i.1.cls = aCN i.2.2.2.2.1 ∧ i.1.cls ≠ "java/lang/invoke/MethodHandle" ∧ i.1.cls ≠ "java/lang/invoke/VarHandle" ∧ (parseMethodDescriptor i.1.desc).map (fun d => d.parameters.length) = some i.2.2.2.2.2.2.1 ∧ i.2.2.1 ≤ 100 ∧ Cond.code i.1 i.2.1 i.2.2.1 i.2.2.2.1 ∈ aWS ∧ Cond.initialized i.1.cls ∈ aWS ∧
  ((i.2.2.2.2.2.1 = 99 ∧ Cond.static i.1 ∈ aWS) ∨ (i.2.2.2.2.2.1 ≠ 99 ∧ (∃ r : vw_C, vwCl[i.2.2.2.2.2.1]? = some r ∧ r.1 = i.1.cls) ∧ Cond.instanceMethod i.1 ∈ aWS ∧ Cond.selects i.1.cls i.1 i.1 ∈ aWS))
/-- what is known of a call's link -/
def aMTok (MI : Nat → aMI) (q : Nat × Nat × Nat) : Prop := (q.2.2 < 5000 → Cond.methodLink (aCN q.1) q.2.1 (MI q.2.2).1 ∈ aWS) ∧ (q.2.2 = 5000 → Cond.methodLink (aCN q.1) q.2.1 Lib.Math.max.name ∈ aWS) ∧ (q.2.2 = 5001 → Cond.methodLink (aCN q.1) q.2.1 Lib.Math.min.name ∈ aWS)
