/-! the true machine does what the small one says: jumps, returns, calls; methods -/
/-- a method: its name, its code, its locals, what it returns, its class's number, the kind of its receiver (99: none), how many parameters, the locals that are used behind each cut, its instructions -/
abbrev aMI : Type := MethodName × ByteArray × Nat × Option FieldType × Nat × Nat × Nat × (Nat → Nat) × List aE
def aro (ad : Nat → Nat) (v : Value) : Option Value := match v with
  | .null => none
  | .int x => some (.int x)
  | .long x => some (.long x)
  | .ref x => some (.ref (ad x))
  | .float x => some (.float x)
  | .double x => some (.double x)
  | .retAddr x => some (.retAddr x)
def aQc (ad : Nat → Nat) (cy : Nat → ClassId) (D : va_G) (ids : List Nat) (A : Nat → Prop) (Q : Value → aS → Prop) : Array Value → State → Outcome → State → Prop := fun _ st oc t => (∃ (v : Value) (S' : aS), oc = .returned (aro ad v) ∧ Q v S' ∧ va_P D vwCl (aws ad cy ids S') t.heap) ∧ va_F A st t
def aPc (ad : Nat → Nat) (cy : Nat → ClassId) (D : va_G) (ids : List Nat) (Zc : State → Prop) (av : List Value) (S : aS) : Array Value → State → Prop := va_Pc (av.map (atv ad)) fun U => va_P D vwCl (aws ad cy ids S) U.heap ∧ va_K D vwCl (atys cy) U ∧ (∀ w ∈ aNW, va_Nw w U) ∧ Zc U
def aRn (d : Nat) : Room := { frames := d, cells := 0, slots := 0, locals := 120 * d }
/-- the room of a method at depth d: with five frames more for the JDK's own calls -/
def aRm (d : Nat) : Room := aRn (d + 5)
/-- what is known of the constants stays so: another frame, warmer tables, other cells written -/
def aZok (A : Nat → Prop) (Zc : State → Prop) : Prop := (∀ (U : State) (g : JFrame) (mk : MethodId) (a : Array Value), Zc U → Zc (U.calling g mk a)) ∧ ∀ (s U : State) (H : Heap) (locs : List Loc), Zc s → s.WarmedH U.vm → va_S A s.heap H locs → U.heap = H → Zc U
theorem aPc_blind {ad : Nat → Nat} {cy : Nat → ClassId} {D : va_G} {ids : List Nat} {A : Nat → Prop} {Zc : State → Prop} (hz : aZok A Zc) {av : List Value} {S : aS} : FrameBlind (aPc ad cy D ids Zc av S) := by
  intro a U g mk h
  obtain ⟨h1, h2, h3, h4, h5⟩ := h
  exact ⟨h1, h2, va_K.moved (u := U) (U := U.calling g mk a) (Vm.Alike.refl U.vm) h3, aNW_same (s := U) (U := U.calling g mk a) rfl h4, hz.1 U g mk a h5⟩
def arc (k : Nat) (av : List Value) (X : Prop) : Prop := match Nat.beq k 99 with
  | true => X
  | false => match av with
    | .ref a :: _ => aG (gK a k) X
    | _ => False
def aif (b : Bool) (X : Prop) : Prop := match b with
  | true => X
  | false => False
theorem aif_mono {b : Bool} {X Y : Prop} (h : X → Y) (x : aif b X) : aif b Y := by
  cases b <;> first | exact h x | exact x
/-- a call at depth d comes to Q -/
def aW (px : aE → aLs → List Value → aS → aT) (MI : Nat → aMI) (tb : Nat → List (Int32 × Nat)) : Nat → Nat → List Value → aS → (Value → aS → Prop) → Prop
  | 0 => fun _ _ _ _ => False
  | d + 1 => fun j av S Q => aif (Nat.ble (alE av).length (MI j).2.2.1) (arc (MI j).2.2.2.2.2.1 av (aP px tb (aW px MI tb d) (MI j).2.2.2.2.2.2.2.1 (MI j).2.2.2.2.2.2.2.2 Q 0 (alc av (MI j).2.2.1) [] S))
theorem arc_mono {k : Nat} {av : List Value} {X Y : Prop} (h : X → Y) (x : arc k av X) : arc k av Y := by
  unfold arc at x ⊢
  split at x
  · exact h x
  · split at x
    · exact aG_mono h x
    · exact x
theorem aW_le {MI : Nat → aMI} {px : aE → aLs → List Value → aS → aT} {tb : Nat → List (Int32 × Nat)} : ∀ (d : Nat) (j : Nat) (av : List Value) (S : aS) (Q Q' : Value → aS → Prop), (∀ v S, Q v S → Q' v S) → aW px MI tb d j av S Q → aW px MI tb (d + 1) j av S Q' ∧ aW px MI tb d j av S Q' := by
  intro d
  induction d with
  | zero => intro j av S Q Q' _ h; exact h.elim
  | succ d ih =>
    intro j av S Q Q' hQ h
    have h : aif (Nat.ble (alE av).length (MI j).2.2.1) (arc (MI j).2.2.2.2.2.1 av (aP px tb (aW px MI tb d) (MI j).2.2.2.2.2.2.2.1 (MI j).2.2.2.2.2.2.2.2 Q 0 (alc av (MI j).2.2.1) [] S)) := h
    exact ⟨aif_mono (arc_mono (aP_mono (fun j a S R R' hR z => (ih j a S R R' hR z).1) hQ)) h, aif_mono (arc_mono (aP_mono (fun j a S R R' hR z => (ih j a S R R' hR z).2) hQ)) h⟩
/-- weaker ends, more depth -/
theorem aW_mono {MI : Nat → aMI} {px : aE → aLs → List Value → aS → aT} {tb : Nat → List (Int32 × Nat)} {d : Nat} {j : Nat} {av : List Value} {S : aS} {Q Q' : Value → aS → Prop} (h : aW px MI tb d j av S Q) (hQ : ∀ v S, Q v S → Q' v S) : aW px MI tb d j av S Q' := (aW_le d j av S Q Q' hQ h).2
theorem aW_up {MI : Nat → aMI} {px : aE → aLs → List Value → aS → aT} {tb : Nat → List (Int32 × Nat)} {d d' : Nat} {j : Nat} {av : List Value} {S : aS} {Q : Value → aS → Prop} (h : aW px MI tb d j av S Q) (hd : d ≤ d') : aW px MI tb d' j av S Q := by
  induction hd with
  | refl => exact h
  | step _ ih => exact (aW_le _ j av S Q Q (fun _ _ z => z) ih).1
theorem aW_cl {MI : Nat → aMI} {px : aE → aLs → List Value → aS → aT} {tb : Nat → List (Int32 × Nat)} (d : Nat) : ∀ j a S R R', (∀ v S, R v S → R' v S) → aW px MI tb d j a S R → aW px MI tb d j a S R' := fun j a S R R' hR h => (aW_le d j a S R R' hR h).2
/-- a method's instructions from a cut on -/
theorem aP_at {MI : Nat → aMI} {px : aE → aLs → List Value → aS → aT} {tb : Nat → List (Int32 × Nat)} {d : Nat} {mk : Nat → Nat} {code : List aE} {Q : Value → aS → Prop} {q : Nat} {ls : aLs} {st : List Value} {S : aS} (h : awp px tb (aW px MI tb d) Q (fun q ls => aP px tb (aW px MI tb d) mk code Q q (amk (mk q) ls)) (code.drop q) 0 true ls st S) : aP px tb (aW px MI tb d) mk code Q q ls st S := aP_go (aW_cl d) h
def pcO (l : List aE) : Option Nat := match l with
  | [] => none
  | n :: _ => some n.1
def ackT (code : List aE) (n : aE) (t : List aE) (off : Int) : Bool := match (match n.2.2.2.2.2.1 with | 0 => pcO (t.drop n.2.2.2.2.1) | _ => pcO (code.drop n.2.2.2.2.1)) with
  | some g => decide ((n.1 : Int) + off = (g : Int))
  | none => false
/-- a switch's rows: the numbers from lo on, where each goes -/
def ackS (code : List aE) (pc : Nat) (lo : Int) (offs : Array Int) : Nat → List (Int32 × Nat) → Bool
  | _, [] => true
  | k, (x, t) :: r => decide (x.toInt = lo + k ∧ (offs[k]?).map (fun o => (pc : Int) + o) = (pcO (code.drop t)).map (fun g => (g : Int)) ∧ (pcO (code.drop t)).isSome = true) && ackS code pc lo offs (k + 1) r
/-- what a program checks of an instruction beside those behind it -/
def ackC (tb : Nat → List (Int32 × Nat)) (ckp : Nat → aE → Bool) (MI : Nat → aMI) (NM : Nat) (MT : List (Nat × Nat × Nat)) (on : Nat) (rk : Nat → Bool) (rt : Option FieldType) (code : List aE) (n : aE) (t : List aE) : Bool := match n.2.1 with
  | .ifCond _ off => ackT code n t off && decide (pcO t = some (n.1 + 3))
  | .if_icmp _ off => ackT code n t off && decide (pcO t = some (n.1 + 3))
  | .if_acmp _ off => ackT code n t off && decide (pcO t = some (n.1 + 3))
  | .goto off => ackT code n t off
  | .tableswitch df lo hi offs => ackS code n.1 lo offs 0 (tb n.2.2.2.2.1) && decide (((tb n.2.2.2.2.1).length : Int) = hi - lo + 1 ∧ -1000 < lo ∧ hi < 1000 ∧ (pcO (code.drop n.2.2.2.2.2.1)).map (fun g => (g : Int)) = some ((n.1 : Int) + df))
  | .ireturn => (match n.2.2.2.2.1 with
    | 0 => decide (rt = some .int)
    | _ => decide (rt = some .boolean))
  | .lreturn => decide (rt = some .long)
  | .areturn => (match rt with
    | some (.object _) => true
    | _ => false)
  | .return_ => decide (rt = none)
  | .invokevirtual i => cond (Nat.ble 5000 n.2.2.2.2.1) (decide (pcO t = some (n.1 + n.2.2.1)) && ckp on n) <| decide ((on, i, n.2.2.2.2.1) ∈ MT ∧ n.2.2.2.2.1 < NM ∧ (MI n.2.2.2.2.1).2.2.2.2.2.1 ≠ 99 ∧ rk (MI n.2.2.2.2.1).2.2.2.2.2.1 = true ∧ n.2.2.2.2.2.1 % 16 = (MI n.2.2.2.2.1).2.2.2.2.2.2.1 + 1 ∧ pcO t = some (n.1 + 3))
  | .invokestatic i => cond (Nat.ble 5000 n.2.2.2.2.1) (decide (pcO t = some (n.1 + n.2.2.1)) && ckp on n) <| decide ((on, i, n.2.2.2.2.1) ∈ MT ∧ n.2.2.2.2.1 < NM ∧ (MI n.2.2.2.2.1).2.2.2.2.2.1 = 99 ∧ n.2.2.2.2.2.1 % 16 = (MI n.2.2.2.2.1).2.2.2.2.2.2.1 ∧ pcO t = some (n.1 + 3))
  | .invokespecial _ => false
  | _ => decide (pcO t = some (n.1 + n.2.2.1)) && cond (Nat.ble 5000 n.2.2.2.2.1) (ckp on n) (ackX on rk n)
def aisT (i : ClassFile.Instr) : Bool := match i with
  | .tableswitch _ _ _ _ => true
  | _ => false
def ackL (tb : Nat → List (Int32 × Nat)) (ckp : Nat → aE → Bool) (MI : Nat → aMI) (NM : Nat) (MT : List (Nat × Nat × Nat)) (cc : ByteArray) (on : Nat) (rk : Nat → Bool) (rt : Option FieldType) (code : List aE) : List aE → Bool
  | [] => true
  | n :: t => decide (decode cc n.1 = .ok (n.2.1, n.2.2.1)) && ((aisT n.2.1 || decide (n.2.2.1 = alen1 n.2.1)) && (decide (n.2.2.2.1 = 0 ∨ pcO (code.drop (n.2.2.2.1 - 1)) = some n.1) && (ackC tb ckp MI NM MT on rk rt code n t && ackL tb ckp MI NM MT cc on rk rt code t)))
/-- what is known of a method by the tables -/
def aMok (i : aMI) : Prop := plainFor i.1 = true ∧ i.1.cls = aCN i.2.2.2.2.1 ∧ i.1.cls ≠ "java/lang/invoke/MethodHandle" ∧ i.1.cls ≠ "java/lang/invoke/VarHandle" ∧ (parseMethodDescriptor i.1.desc).map (fun d => d.parameters.length) = some i.2.2.2.2.2.2.1 ∧ i.2.2.1 ≤ 100 ∧ Cond.code i.1 i.2.1 i.2.2.1 i.2.2.2.1 ∈ aWS ∧ Cond.initialized i.1.cls ∈ aWS ∧
  ((i.2.2.2.2.2.1 = 99 ∧ Cond.static i.1 ∈ aWS) ∨ (i.2.2.2.2.2.1 ≠ 99 ∧ (∃ r : vw_C, vwCl[i.2.2.2.2.2.1]? = some r ∧ r.1 = i.1.cls) ∧ Cond.instanceMethod i.1 ∈ aWS ∧ Cond.selects i.1.cls i.1 i.1 ∈ aWS))
/-- what is known of a call's link -/
def aMTok (MI : Nat → aMI) (q : Nat × Nat × Nat) : Prop := Cond.methodLink (aCN q.1) q.2.1 (MI q.2.2).1 ∈ aWS
