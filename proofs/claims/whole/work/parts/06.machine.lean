/-! A SMALL MACHINE. A state: ints, longs and changing references of fields, ints and longs of arrays, each by the cell's number and the place. What it does is said as a proposition that unfolds by itself, a row of instructions at a time; part 08 on shows that the true machine does the same. -/
abbrev aS : Type := (Nat → Nat → Int32) × (Nat → Nat → Int64) × (Nat → Nat → Nat) × (Nat → Nat → Int32) × (Nat → Nat → Int64)
def gi (S : aS) (i k : Nat) : Int32 := S.1 i k
def gl (S : aS) (i k : Nat) : Int64 := S.2.1 i k
def gr (S : aS) (i k : Nat) : Nat := S.2.2.1 i k
def ga (S : aS) (i k : Nat) : Int32 := S.2.2.2.1 i k
def gb (S : aS) (i k : Nat) : Int64 := S.2.2.2.2 i k
def si (S : aS) (i k : Nat) (v : Int32) : aS := (va_up S.1 i (va_up (S.1 i) k v), S.2)
def sl (S : aS) (i k : Nat) (v : Int64) : aS := (S.1, va_up S.2.1 i (va_up (S.2.1 i) k v), S.2.2)
def sr (S : aS) (i k : Nat) (v : Nat) : aS := (S.1, S.2.1, va_up S.2.2.1 i (va_up (S.2.2.1 i) k v), S.2.2.2)
def sa (S : aS) (i k : Nat) (v : Int32) : aS := (S.1, S.2.1, S.2.2.1, va_up S.2.2.2.1 i (upd (S.2.2.2.1 i) k v), S.2.2.2.2)
def sb (S : aS) (i k : Nat) (v : Int64) : aS := (S.1, S.2.1, S.2.2.1, S.2.2.2.1, va_up S.2.2.2.2 i (vp_updL (S.2.2.2.2 i) k v))
/-- an instruction: its place in the code, itself, its length, 0 or (one more than) its number where it is a cut, two numbers, an int, a long -/
abbrev aE : Type := Nat × ClassFile.Instr × Nat × Nat × Nat × Nat × Int32 × Int64
abbrev aLs : Type := List (Option Value)
abbrev aT : Type := Option (Option Prop × Option Prop × aLs × List Value × aS)
def aG (g : Option Prop) (X : Prop) : Prop := match g with
  | none => X
  | some P => P ∧ X
/-- the kind of a cell: nothing to show where it is known -/
def gK (a c : Nat) : Option Prop := cond (Nat.beq (akd a) c) none (some (akd a = c))
/-- one of the constants -/
def gC (x : Nat) : Option Prop := cond (Nat.ble 2000 x && Nat.ble x 2099) none (some (2000 ≤ x ∧ x ≤ 2099))
def aok (ls : aLs) (st : List Value) (S : aS) : aT := some (none, none, ls, st, S)
def agd (P : Prop) (ls : aLs) (st : List Value) (S : aS) : aT := some (none, some P, ls, st, S)
def pI (st : List Value) (k : Int32 → List Value → aT) : aT := match st with
  | .int x :: r => k x r
  | _ => none
def pII (st : List Value) (k : Int32 → Int32 → List Value → aT) : aT := match st with
  | .int y :: .int x :: r => k x y r
  | _ => none
def pL (st : List Value) (k : Int64 → List Value → aT) : aT := match st with
  | .long x :: r => k x r
  | _ => none
def pLL (st : List Value) (k : Int64 → Int64 → List Value → aT) : aT := match st with
  | .long y :: .long x :: r => k x y r
  | _ => none
def pLI (st : List Value) (k : Int64 → Int32 → List Value → aT) : aT := match st with
  | .int y :: .long x :: r => k x y r
  | _ => none
def pR (st : List Value) (k : Nat → List Value → aT) : aT := match st with
  | .ref a :: r => k a r
  | _ => none
def pRR (st : List Value) (k : Nat → Nat → List Value → aT) : aT := match st with
  | .ref b :: .ref a :: r => k a b r
  | _ => none
def pRI (st : List Value) (k : Nat → Int32 → List Value → aT) : aT := match st with
  | .int y :: .ref a :: r => k a y r
  | _ => none
def pRL (st : List Value) (k : Nat → Int64 → List Value → aT) : aT := match st with
  | .long y :: .ref a :: r => k a y r
  | _ => none
def pRII (st : List Value) (k : Nat → Int32 → Int32 → List Value → aT) : aT := match st with
  | .int y :: .int x :: .ref a :: r => k a x y r
  | _ => none
def pRIL (st : List Value) (k : Nat → Int32 → Int64 → List Value → aT) : aT := match st with
  | .long y :: .int x :: .ref a :: r => k a x y r
  | _ => none
def aldI (ls : aLs) (i : Nat) (k : Int32 → aT) : aT := match ls[i]? with
  | some (some (.int x)) => k x
  | _ => none
def aldL (ls : aLs) (i : Nat) (k : Int64 → aT) : aT := match ls[i]? with
  | some (some (.long x)) => k x
  | _ => none
def aldR (ls : aLs) (i : Nat) (k : Nat → aT) : aT := match ls[i]? with
  | some (some (.ref x)) => k x
  | _ => none
def acat2 (v : Value) : Bool := match v with
  | .long _ => true
  | .double _ => true
  | _ => false
/-- what is written at i takes away the long that began ahead of it -/
def akl (ls : aLs) (i : Nat) : aLs := match i with
  | 0 => ls
  | j + 1 => match ls[j]? with
    | some (some v) => cond (acat2 v) (ls.set j none) ls
    | _ => ls
def ast1 (ls : aLs) (i : Nat) (v : Value) : aLs := (akl ls i).set i (some v)
def ast2 (ls : aLs) (i : Nat) (v : Value) : aLs := ((akl ls i).set i (some v)).set (i + 1) none
/-- a store has a place -/
def aput (ls : aLs) (i : Nat) (k : aT) : aT := cond (Nat.blt i ls.length) k none
/-- what a field holds -/
def afg (S : aS) (a c k : Nat) (h : Value → aT) : aT := match (aft c)[k]? with
  | some 0 => h (.int (gi S a k))
  | some 1 => h (.int (gi S a k))
  | some 2 => h (.long (gl S a k))
  | some 3 => h (.ref (art a k))
  | some 4 => h (.ref (gr S a k))
  | _ => none
def afp (S : aS) (c k : Nat) (ls : aLs) (st : List Value) : aT := match (aft c)[k]? with
  | some 0 => pRI st fun a v r => some (gK a c, none, ls, r, si S a k v)
  | some 1 => pRI st fun a v r => some (gK a c, some (v = 0 ∨ v = 1), ls, r, si S a k v)
  | some 2 => pRL st fun a v r => some (gK a c, none, ls, r, sl S a k v)
  | some 4 => pRR st fun a b r => some (gK a c, none, ls, r, sr S a k b)
  | _ => none
def apu (e : aE) (ls : aLs) (st : List Value) (S : aS) : aT := match e.2.1 with
  | .iconst _ => aok ls (.int e.2.2.2.2.2.2.1 :: st) S
  | .bipush _ => aok ls (.int e.2.2.2.2.2.2.1 :: st) S
  | .sipush _ => aok ls (.int e.2.2.2.2.2.2.1 :: st) S
  | .ldc _ => aok ls (.int e.2.2.2.2.2.2.1 :: st) S
  | .ldc_w _ => aok ls (.int e.2.2.2.2.2.2.1 :: st) S
  | .lconst _ => aok ls (.long e.2.2.2.2.2.2.2 :: st) S
  | .ldc2_w _ => aok ls (.long e.2.2.2.2.2.2.2 :: st) S
  | .iload_n i => aldI ls i fun x => aok ls (.int x :: st) S
  | .iload i => aldI ls i fun x => aok ls (.int x :: st) S
  | .lload_n i => aldL ls i fun x => aok ls (.long x :: st) S
  | .lload i => aldL ls i fun x => aok ls (.long x :: st) S
  | .aload_n i => aldR ls i fun x => aok ls (.ref x :: st) S
  | .aload i => aldR ls i fun x => aok ls (.ref x :: st) S
  | .istore_n i => pI st fun x r => aput ls i (aok (ast1 ls i (.int x)) r S)
  | .istore i => pI st fun x r => aput ls i (aok (ast1 ls i (.int x)) r S)
  | .lstore_n i => pL st fun x r => aput ls (i + 1) (aok (ast2 ls i (.long x)) r S)
  | .lstore i => pL st fun x r => aput ls (i + 1) (aok (ast2 ls i (.long x)) r S)
  | .astore_n i => pR st fun x r => aput ls i (aok (ast1 ls i (.ref x)) r S)
  | .astore i => pR st fun x r => aput ls i (aok (ast1 ls i (.ref x)) r S)
  | .iinc i _ => aldI ls i fun x => aput ls i (aok (ast1 ls i (.int (x + e.2.2.2.2.2.2.1))) st S)
  | .iadd => pII st fun x y r => aok ls (.int (x + y) :: r) S
  | .isub => pII st fun x y r => aok ls (.int (x - y) :: r) S
  | .imul => pII st fun x y r => aok ls (.int (x * y) :: r) S
  | .iand => pII st fun x y r => aok ls (.int (x &&& y) :: r) S
  | .ior => pII st fun x y r => aok ls (.int (x ||| y) :: r) S
  | .ixor => pII st fun x y r => aok ls (.int (x ^^^ y) :: r) S
  | .idiv => pII st fun x y r => agd (¬ y = 0) ls (.int (x / y) :: r) S
  | .irem => pII st fun x y r => agd (¬ y = 0) ls (.int (x - x / y * y) :: r) S
  | .ishl => pII st fun x y r => aok ls (.int (x <<< (y &&& 31)) :: r) S
  | .ishr => pII st fun x y r => aok ls (.int (x >>> (y &&& 31)) :: r) S
  | .iushr => pII st fun x y r => aok ls (.int (x.toUInt32 >>> (y.toUInt32 &&& Int32.toUInt32 31)).toInt32 :: r) S
  | .ladd => pLL st fun x y r => aok ls (.long (x + y) :: r) S
  | .lsub => pLL st fun x y r => aok ls (.long (x - y) :: r) S
  | .lmul => pLL st fun x y r => aok ls (.long (x * y) :: r) S
  | .land => pLL st fun x y r => aok ls (.long (x &&& y) :: r) S
  | .lor => pLL st fun x y r => aok ls (.long (x ||| y) :: r) S
  | .ldiv => pLL st fun x y r => agd (¬ y = 0) ls (.long (x / y) :: r) S
  | .lrem => pLL st fun x y r => agd (¬ y = 0) ls (.long (x - x / y * y) :: r) S
  | .lshl => pLI st fun x y r => aok ls (.long (x <<< (y.toInt64 &&& 63)) :: r) S
  | .lushr => pLI st fun x y r => aok ls (.long (x.toUInt64 >>> (y.toInt64.toUInt64 &&& Int64.toUInt64 63)).toInt64 :: r) S
  | .lcmp => pLL st fun x y r => aok ls (.int (lg_cmp x y) :: r) S
  | .i2l => pI st fun x r => aok ls (.long x.toInt64 :: r) S
  | .l2i => pL st fun x r => aok ls (.int x.toInt32 :: r) S
  | .i2b => pI st fun x r => aok ls (.int x.toInt8.toInt32 :: r) S
  | .i2c => pI st fun x r => aok ls (.int (x.toUInt32 % 65536).toInt32 :: r) S
  | .dup => (match st with
    | v :: r => cond (acat2 v) none (aok ls (v :: v :: r) S)
    | _ => none)
  | .dup2 => (match st with
    | v :: w :: r => cond (acat2 v) (aok ls (v :: v :: w :: r) S) (cond (acat2 w) none (aok ls (v :: w :: v :: w :: r) S))
    | _ => none)
  | .pop => (match st with
    | v :: r => cond (acat2 v) none (aok ls r S)
    | _ => none)
  | .getfield _ => pR st fun a r => afg S a e.2.2.2.2.1 e.2.2.2.2.2.1 fun v => some (gK a e.2.2.2.2.1, none, ls, v :: r, S)
  | .putfield _ => afp S e.2.2.2.2.1 e.2.2.2.2.2.1 ls st
  | .iaload => pRI st fun x i r => some (gK x e.2.2.2.2.1, some (vp_in i (aln x)), ls, .int (ga S x i.toNatClampNeg) :: r, S)
  | .iastore => pRII st fun x i v r => some (gK x e.2.2.2.2.1, some (vp_in i (aln x)), ls, r, sa S x i.toNatClampNeg v)
  | .laload => pRI st fun x i r => some (gK x e.2.2.2.2.1, some (vp_in i (aln x)), ls, .long (gb S x i.toNatClampNeg) :: r, S)
  | .lastore => pRIL st fun x i v r => some (gK x e.2.2.2.2.1, some (vp_in i (aln x)), ls, r, sb S x i.toNatClampNeg v)
  | .baload => pRI st fun x i r => cond (Nat.beq e.2.2.2.2.1 22) (some (gK x e.2.2.2.2.1, some (vp_in i (aln x)), ls, .int (ga S x i.toNatClampNeg) :: r, S)) (some (gK x e.2.2.2.2.1, some (vp_in i (aln x)), ls, .int (ga S x i.toNatClampNeg) :: r, S))
  | .bastore => pRII st fun x i v r => cond (Nat.beq e.2.2.2.2.1 22) (some (gK x e.2.2.2.2.1, some (vp_in i (aln x)), ls, r, sa S x i.toNatClampNeg (vp_nar .byte v))) (some (gK x e.2.2.2.2.1, some (vp_in i (aln x)), ls, r, sa S x i.toNatClampNeg (vp_nar .boolean v)))
  | .aaload => pRI st fun x i r => some (gK x e.2.2.2.2.1, some (vp_in i (aln x)), ls, .ref (ara x i.toNatClampNeg) :: r, S)
  | .arraylength => pR st fun x r => some (gK x e.2.2.2.2.1, none, ls, .int (Int32.ofNat (aln x)) :: r, S)
  | _ => none
def abr (c : ClassFile.Cond) (x y : Int32) (T F : Prop) : Prop := match c with
  | .eq => (x = y → T) ∧ (¬ x = y → F)
  | .ne => (¬ x = y → T) ∧ (x = y → F)
  | .lt => (x < y → T) ∧ (¬ x < y → F)
  | .ge => (y ≤ x → T) ∧ (¬ y ≤ x → F)
  | .gt => (y < x → T) ∧ (¬ y < x → F)
  | .le => (x ≤ y → T) ∧ (¬ x ≤ y → F)
def aba (c : ClassFile.ACond) (x y : Nat) (T F : Prop) : Prop := match c with
  | .eq => (x = y → T) ∧ (¬ x = y → F)
  | .ne => (¬ x = y → T) ∧ (x = y → F)
/-- a jump: over so many instructions, or to a cut -/
def ajp (e : aE) (nx : Nat → aLs → List Value → aS → Prop) (go : Nat → aLs → List Value → aS → Prop) (ls : aLs) (st : List Value) (S : aS) : Prop := match e.2.2.2.2.2.1 with
  | 0 => go e.2.2.2.2.1 ls st S
  | _ => nx e.2.2.2.2.1 ls st S
def aI (v : Value) (k : Int32 → Prop) : Prop := match v with
  | .int x => k x
  | _ => False
def aL (v : Value) (k : Int64 → Prop) : Prop := match v with
  | .long x => k x
  | _ => False
def aA (v : Value) (k : Nat → Prop) : Prop := match v with
  | .ref x => k x
  | _ => False
def aV (v : Value) (X : Prop) : Prop := match v with
  | .null => X
  | _ => False
/-- what a call brings: nothing, an int, a long, a reference -/
def arv (n : Nat) (v : Value) (k : List Value → Prop) : Prop := match n with
  | 0 => aV v (k [])
  | 1 => aI v fun x => k [.int x]
  | 2 => aL v fun x => k [.long x]
  | _ => aA v fun x => k [.ref x]
def acs (st : List Value) : Nat := (st.map fun v => v.category).sum
/-- a switch by a row of numbers from lo on: where each goes -/
def asw (x : Int32) (d : Nat) (k : Nat → Prop) : List (Int32 × Nat) → Prop
  | [] => k d
  | (c, t) :: r => (x = c → k t) ∧ (¬ x = c → asw x d k r)
section
variable (px : aE → aLs → List Value → aS → aT) (tb : Nat → List (Int32 × Nat)) (cl : Nat → List Value → aS → (Value → aS → Prop) → Prop) (Q : Value → aS → Prop) (nx : Nat → aLs → List Value → aS → Prop)
def acl (e : aE) (go : Nat → aLs → List Value → aS → Prop) (ls : aLs) (st : List Value) (S : aS) : Prop :=
  match Nat.ble (acs (st.drop (e.2.2.2.2.2.1 % 16))) 8 && Nat.ble (e.2.2.2.2.2.1 % 16) st.length with
  | true => cl e.2.2.2.2.1 (st.take (e.2.2.2.2.2.1 % 16)).reverse S (fun v S' => arv (e.2.2.2.2.2.1 / 16) v fun l => go 0 ls (l ++ st.drop (e.2.2.2.2.2.1 % 16)) S')
  | false => False
def apw (e : aE) (go : Nat → aLs → List Value → aS → Prop) (ls : aLs) (st : List Value) (S : aS) : Prop := match cond (Nat.ble 5000 e.2.2.2.2.1) (px e ls st S) (apu e ls st S) with
  | some (g1, g2, ls', st', S') => aG g1 (aG g2 (go 0 ls' st' S'))
  | none => False
def astp (e : aE) (go : Nat → aLs → List Value → aS → Prop) (ls : aLs) (st : List Value) (S : aS) : Prop := match e.2.1 with
  | .ifCond c _ => (match st with
    | .int x :: r => abr c x 0 (ajp e nx go ls r S) (go 0 ls r S)
    | _ => False)
  | .if_icmp c _ => (match st with
    | .int y :: .int x :: r => abr c x y (ajp e nx go ls r S) (go 0 ls r S)
    | _ => False)
  | .if_acmp c _ => (match st with
    | .ref y :: .ref x :: r => aG (gC x) (aG (gC y) (aba c x y (ajp e nx go ls r S) (go 0 ls r S)))
    | _ => False)
  | .goto _ => ajp e nx go ls st S
  | .tableswitch _ _ _ _ => (match st with
    | .int x :: r => asw x e.2.2.2.2.2.1 (fun t => nx t ls r S) (tb e.2.2.2.2.1)
    | _ => False)
  | .ireturn => (match st with
    | [.int x] => (match e.2.2.2.2.1 with
      | 0 => Q (.int x) S
      | _ => (x = 0 ∨ x = 1) ∧ Q (.int x) S)
    | _ => False)
  | .lreturn => (match st with
    | [.long x] => Q (.long x) S
    | _ => False)
  | .areturn => (match st with
    | [.ref x] => Q (.ref x) S
    | _ => False)
  | .return_ => (match st with
    | [] => Q .null S
    | _ => False)
  | .invokevirtual _ => cond (Nat.ble 5000 e.2.2.2.2.1) (apw px e go ls st S) (acl cl e go ls st S)
  | .invokespecial _ => cond (Nat.ble 5000 e.2.2.2.2.1) (apw px e go ls st S) (acl cl e go ls st S)
  | .invokestatic _ => cond (Nat.ble 5000 e.2.2.2.2.1) (apw px e go ls st S) (acl cl e go ls st S)
  | _ => apw px e go ls st S
/-- the row of instructions from here on: over k of them, then one by one up to the cuts ('f': the first one is none) -/
noncomputable def awp (code : List aE) : Nat → Bool → aLs → List Value → aS → Prop :=
  List.rec (motive := fun _ => Nat → Bool → aLs → List Value → aS → Prop) (fun _ _ _ _ _ => False)
    (fun e _ ih => fun k f ls st S => Nat.rec (motive := fun _ => Prop)
      (cond (f || Nat.beq e.2.2.2.1 0) (astp px tb cl Q nx e (fun k => ih k false) ls st S) (nx (e.2.2.2.1 - 1) ls st S)) (fun k' _ => ih k' f ls st S) k) code
end
/-- at a cut only the locals are kept that are used behind it -/
def amk : Nat → aLs → aLs
  | _, [] => []
  | m, x :: t => cond (Nat.beq (m % 2) 1) x none :: amk (m / 2) t
/-- from the cut q on the method comes to Q: the least that goes on so -/
def aP (px : aE → aLs → List Value → aS → aT) (tb : Nat → List (Int32 × Nat)) (cl : Nat → List Value → aS → (Value → aS → Prop) → Prop) (mk : Nat → Nat) (code : List aE) (Q : Value → aS → Prop) (q : Nat) (ls : aLs) (st : List Value) (S : aS) : Prop :=
  ∀ I : Nat → aLs → List Value → aS → Prop, (∀ q ls st S, awp px tb cl Q (fun q ls => I q (amk (mk q) ls)) (code.drop q) 0 true ls st S → I q ls st S) → I q ls st S
def alE : List Value → aLs
  | [] => []
  | v :: t => cond (acat2 v) (some v :: none :: alE t) (some v :: alE t)
def alc (args : List Value) (n : Nat) : aLs := alE args ++ List.replicate (n - (alE args).length) none
