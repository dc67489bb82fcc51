/-! objects in the making: constructors run on numbers; the true machine does the same -/
/-- a cell: its kind, its length, its fields or its references (by number) -/
abbrev bC : Type := Nat × Nat × List Value
def bOp (ad : Nat → Nat) (v : Value) : Option Nat := match v with
  | .ref n => some (ad n)
  | _ => none
def bRw (ad : Nat → Nat) (c : bC) : (Nat → Int32) ⊕ (Nat → Int64) ⊕ (Nat → UInt32) ⊕ (Nat → UInt64) ⊕ (Nat → Option Nat) := match c.1 % 10 with
  | 1 => .inr (.inl fun _ => 0)
  | 4 => .inr (.inr (.inr (.inr fun k => bOp ad (c.2.2.getD k .null))))
  | 5 => .inr (.inr (.inr (.inr fun k => bOp ad (c.2.2.getD k .null))))
  | _ => .inl fun _ => 0
def bE (ad : Nat → Nat) (cy : Nat → ClassId) (c : bC) : va_E := cond (Nat.blt c.1 20) (.inr (c.1, c.2.2.map (atv ad))) (.inl (cy (c.1 % 10), c.2.1, bRw ad c))
def bW (ad : Nat → Nat) (cy : Nat → ClassId) (o : Nat) (cs : List bC) : va_W := (cs.zipIdx o).map fun q => (ad q.2, bE ad cy q.1)
theorem bW_get {ad : Nat → Nat} {cy : Nat → ClassId} {o i : Nat} {cs : List bC} {c : bC} (h : cs[i]? = some c) : (bW ad cy o cs)[i]? = some (ad (o + i), bE ad cy c) := by
  unfold bW
  rw [List.getElem?_map, List.getElem?_zipIdx, h]
  rfl
theorem bW_set {ad : Nat → Nat} {cy : Nat → ClassId} {o i : Nat} {cs : List bC} {c : bC} (hi : i < cs.length) : (bW ad cy o cs).set i (ad (o + i), bE ad cy c) = bW ad cy o (cs.set i c) := by
  apply List.ext_getElem?
  intro n
  unfold bW
  rw [List.getElem?_set, List.getElem?_map, List.getElem?_zipIdx, List.getElem?_map, List.getElem?_zipIdx, List.getElem?_set, List.length_map, List.length_zipIdx]
  by_cases e : i = n
  · subst e
    rw [if_pos rfl, if_pos hi, if_pos rfl, if_pos hi]
    rfl
  · rw [if_neg e, if_neg e]
theorem bW_push {ad : Nat → Nat} {cy : Nat → ClassId} {o : Nat} {cs : List bC} {c : bC} : bW ad cy o (cs ++ [c]) = bW ad cy o cs ++ [(ad (o + cs.length), bE ad cy c)] := by
  unfold bW
  rw [List.zipIdx_append, List.map_append]
  rfl
/-- numbers that have an address, or are constants -/
def bLim (lim : Nat) (v : Value) : Bool := match v with
  | .ref n => Nat.blt n lim || Nat.ble 2000 n
  | _ => true
def bAll (lim : Nat) (cs : List bC) : Bool := cs.all fun c => c.2.2.all (bLim lim)
def bLs (lim : Nat) (ls : aLs) : Bool := ls.all fun x => match x with
  | some v => bLim lim v
  | none => true
def bAg (lim : Nat) (ad ad' : Nat → Nat) : Prop := ∀ n, n < lim ∨ 2000 ≤ n → ad' n = ad n
theorem bAg.le {lim lim' : Nat} {ad ad' : Nat → Nat} (h : bAg lim' ad ad') (hl : lim ≤ lim') : bAg lim ad ad' := fun n hn => h n (hn.imp (fun z => Nat.lt_of_lt_of_le z hl) id)
theorem bAg.trans {lim : Nat} {ad ad' ad2 : Nat → Nat} (h : bAg lim ad ad') (h2 : bAg lim ad' ad2) : bAg lim ad ad2 := fun n hn => (h2 n hn).trans (h n hn)
theorem bLim_ag {lim : Nat} {ad ad' : Nat → Nat} {v : Value} (h : bAg lim ad ad') (hv : bLim lim v = true) : atv ad' v = atv ad v := by
  cases v with
  | ref n =>
    show Value.ref (ad' n) = .ref (ad n)
    rw [h n]
    rcases (Bool.or_eq_true _ _).mp hv with z | z
    · exact Or.inl (Nat.le_of_ble_eq_true z)
    · exact Or.inr (Nat.le_of_ble_eq_true z)
  | _ => rfl
theorem bOp_ag {lim : Nat} {ad ad' : Nat → Nat} {v : Value} (h : bAg lim ad ad') (hv : bLim lim v = true) : bOp ad' v = bOp ad v := by
  have := bLim_ag h hv
  cases v with
  | ref n =>
    have h1 : ad' n = ad n := by
      have h2 : Value.ref (ad' n) = .ref (ad n) := this
      injection h2
    show some (ad' n) = some (ad n)
    rw [h1]
  | _ => rfl
theorem bMap_ag {lim : Nat} {ad ad' : Nat → Nat} {st : List Value} (h : bAg lim ad ad') (hv : st.all (bLim lim) = true) : st.map (atv ad') = st.map (atv ad) := List.map_congr_left fun v hm => bLim_ag h (List.all_eq_true.mp hv v hm)
theorem bE_ag {lim : Nat} {ad ad' : Nat → Nat} {cy : Nat → ClassId} {c : bC} (h : bAg lim ad ad') (hv : c.2.2.all (bLim lim) = true) : bE ad' cy c = bE ad cy c := by
  have h1 := bMap_ag h hv
  have h2 : bRw ad' c = bRw ad c := by
    have h3 : (fun k => bOp ad' (c.2.2.getD k .null)) = fun k => bOp ad (c.2.2.getD k .null) := by
      funext k
      rw [List.getD_eq_getElem?_getD]
      cases hk : c.2.2[k]? with
      | none => rfl
      | some v => exact bOp_ag h (List.all_eq_true.mp hv v (List.mem_of_getElem? hk))
    unfold bRw
    rw [h3]
  unfold bE
  rw [h1, h2]
theorem bW_ag {lim o : Nat} {ad ad' : Nat → Nat} {cy : Nat → ClassId} {cs : List bC} (h : bAg lim ad ad') (hl : o + cs.length ≤ lim) (hv : bAll lim cs = true) : bW ad' cy o cs = bW ad cy o cs := by
  unfold bW
  refine List.map_congr_left fun q hq => ?_
  obtain ⟨c, i⟩ := q
  have hq' := List.mem_zipIdx hq
  have hm : c ∈ cs := by rw [hq'.2.2]; exact List.getElem_mem _
  show (ad' i, bE ad' cy c) = (ad i, bE ad cy c)
  rw [h i (Or.inl (by omega)), bE_ag h (List.all_eq_true.mp hv c hm)]
theorem apr_ag {lim : Nat} {ad ad' : Nat → Nat} (h : bAg lim ad ad') : ∀ (ls : aLs) (b : Nat), bLs lim ls = true → apr ad' b ls = apr ad b ls := by
  intro ls
  induction ls with
  | nil => intro b _; rfl
  | cons x t ih =>
    intro b hv
    obtain ⟨h1, h2⟩ := (Bool.and_eq_true _ _).mp hv
    cases x with
    | none => exact ih (b + 1) h2
    | some v =>
      show (b, atv ad' v) :: apr ad' (b + 1) t = (b, atv ad v) :: apr ad (b + 1) t
      rw [bLim_ag h h1, ih (b + 1) h2]
theorem aHas_ag {lim nL : Nat} {ad ad' : Nat → Nat} {B : Array Slot} {ls : aLs} (h : bAg lim ad ad') (hv : bLs lim ls = true) (hl : aHas ad B nL ls) : aHas ad' B nL ls := by
  refine ⟨hl.1, ?_⟩
  rw [apr_ag h ls 0 hv]
  exact hl.2
abbrev bS : Type := aLs × List Value × List bC × Nat × Nat
/-- a constructor: its name, its code, its locals, how many parameters, cells, slots, the place where it stops -/
abbrev bMI : Type := MethodName × ByteArray × Nat × Nat × Nat × Nat × Nat
theorem aL2_0 : aLok (0, 16, 0, 0) := ⟨_, rfl, by decide, aW_t 120 (by decide +kernel) (by decide +kernel)⟩
theorem aL2_1 : aLok (6, 28, 6, 7) := ⟨_, rfl, by decide, aW_t 162 (by decide +kernel) (by decide +kernel)⟩
def bLT : List aQ := (0, 16, 0, 0) :: (6, 28, 6, 7) :: aLT
theorem bLT_ok : ∀ q ∈ bLT, aLok q := List.forall_mem_cons.mpr ⟨aL2_0, List.forall_mem_cons.mpr ⟨aL2_1, aLT_ok⟩⟩
def bLk (on i : Nat) : Option aQ := bLT.find? fun q => Nat.beq q.1 on && Nat.beq q.2.1 i
def bDf (t : Nat) : Value := match t with
  | 0 => .int 0
  | 1 => .int 0
  | 2 => .long 0
  | _ => .null
def bFit (t : Nat) (v : Value) : Bool := match t, v with
  | 0, .int _ => true
  | 1, .int x => decide (x = 0 ∨ x = 1)
  | 2, .long _ => true
  | 3, .ref _ => true
  | 4, .ref _ => true
  | _, _ => false
def bAK (t : ArrayType) : Nat := match t with
  | .int => 0
  | .long => 1
  | .byte => 2
  | .boolean => 3
  | _ => 9
/-- a row of references of a class's: its kind -/
def bRK (a : Nat) : Nat := cond (Nat.beq a 4) 4 (cond (Nat.beq a 8) 5 9)
def bgo (pc : Nat) (off : Int) (S : bS) : Option (Nat × bS) := cond (decide (0 ≤ (pc : Int) + off)) (some (((pc : Int) + off).toNat, S)) none
def b1 (o kb mc ms on : Nat) (nl : List aQ) (ins : ClassFile.Instr) (len pc : Nat) (S : bS) : Option (Nat × bS) := match S with
  | (ls, st, cs, nc, ns) => match ins with
    | .aload_n k => (match ls[k]? with
      | some (some (.ref x)) => cond (Nat.beq len 1) (some (pc + 1, ls, .ref x :: st, cs, nc, ns)) none
      | _ => none)
    | .iload_n k => (match ls[k]? with
      | some (some (.int x)) => cond (Nat.beq len 1) (some (pc + 1, ls, .int x :: st, cs, nc, ns)) none
      | _ => none)
    | .istore_n k => (match st with
      | .int x :: r => cond (Nat.beq len 1 && Nat.blt k ls.length) (some (pc + 1, ast1 ls k (.int x), r, cs, nc, ns)) none
      | _ => none)
    | .astore_n k => (match st with
      | .ref x :: r => cond (Nat.beq len 1 && Nat.blt k ls.length) (some (pc + 1, ast1 ls k (.ref x), r, cs, nc, ns)) none
      | _ => none)
    | .iconst n => cond (Nat.beq len 1) (some (pc + 1, ls, .int (Int32.ofInt n) :: st, cs, nc, ns)) none
    | .bipush n => cond (Nat.beq len 2) (some (pc + 2, ls, .int (Int8.ofInt n).toInt32 :: st, cs, nc, ns)) none
    | .sipush n => cond (Nat.beq len 3) (some (pc + 3, ls, .int (Int16.ofInt n).toInt32 :: st, cs, nc, ns)) none
    | .dup => (match st with
      | .ref x :: r => cond (Nat.beq len 1) (some (pc + 1, ls, .ref x :: .ref x :: r, cs, nc, ns)) none
      | _ => none)
    | .iinc k n => (match ls[k]? with
      | some (some (.int x)) => cond (Nat.beq len 3 && Nat.blt k ls.length) (some (pc + 3, ast1 ls k (.int (x + Int32.ofInt n)), st, cs, nc, ns)) none
      | _ => none)
    | .goto off => cond (Nat.beq len 3) (bgo pc off S) none
    | .if_icmp .ge off => (match st with
      | .int y :: .int x :: r => cond (Nat.beq len 3 && decide (0 ≤ (pc : Int) + off)) (cond (decide (y ≤ x)) (bgo pc off (ls, r, cs, nc, ns)) (some (pc + 3, ls, r, cs, nc, ns))) none
      | _ => none)
    | .new i => (match nl.find? fun q => Nat.beq q.1 on && Nat.beq q.2.1 i with
      | some q => cond (Nat.beq len 3 && (Nat.blt (o + cs.length) 2000 && (bLs (o + cs.length) ls && (st.all (bLim (o + cs.length)) && (bAll (o + cs.length) cs && (Nat.ble (nc + 1) mc && Nat.ble (ns + (aft q.2.2.1).length) ms))))))
          (some (pc + 3, ls, .ref (o + cs.length) :: st, cs ++ [(q.2.2.1, 0, (aft q.2.2.1).map bDf)], nc + 1, ns + (aft q.2.2.1).length)) none
      | none => none)
    | .newarray t => (match st with
      | .int n :: r => cond (Nat.beq len 2 && (Nat.blt (o + cs.length) 2000 && (bLs (o + cs.length) ls && (r.all (bLim (o + cs.length)) && (bAll (o + cs.length) cs && (Nat.ble (nc + 1) mc && (Nat.ble (ns + n.toNatClampNeg) ms && (decide (0 ≤ n) && (Nat.ble n.toNatClampNeg 2000 && Nat.ble (bAK t) 3)))))))))
          (some (pc + 2, ls, .ref (o + cs.length) :: r, cs ++ [(kb + bAK t, n.toNatClampNeg, [])], nc + 1, ns + n.toNatClampNeg)) none
      | _ => none)
    | .anewarray i => (match nl.find? fun q => Nat.beq q.1 on && Nat.beq q.2.1 i with
      | some q => (match st with
        | .int n :: r => cond (Nat.beq len 3 && (Nat.blt (o + cs.length) 2000 && (bLs (o + cs.length) ls && (r.all (bLim (o + cs.length)) && (bAll (o + cs.length) cs && (Nat.ble (nc + 1) mc && (Nat.ble (ns + n.toNatClampNeg) ms && (decide (0 ≤ n) && (Nat.ble n.toNatClampNeg 2000 && Nat.ble (bRK q.2.2.1) 5)))))))))
            (some (pc + 3, ls, .ref (o + cs.length) :: r, cs ++ [(kb + bRK q.2.2.1, n.toNatClampNeg, List.replicate n.toNatClampNeg .null)], nc + 1, ns + n.toNatClampNeg)) none
        | _ => none)
      | none => none)
    | .putfield i => (match bLk on i with
      | some q => (match st with
        | v :: .ref x :: r => (match cs[x - o]? with
          | some (k, z, fs) => cond (Nat.beq len 3 && (Nat.ble o x && (Nat.beq k q.2.2.1 && (Nat.beq q.2.2.1 on && (Nat.blt q.2.2.2 fs.length && bFit ((aft q.2.2.1).getD q.2.2.2 9) v))))) (some (pc + 3, ls, r, cs.set (x - o) (k, z, fs.set q.2.2.2 v), nc, ns)) none
          | none => none)
        | _ => none)
      | none => none)
    | .getfield i => (match bLk on i with
      | some q => (match st with
        | .ref x :: r => (match cs[x - o]? with
          | some (k, _, fs) => (match fs[q.2.2.2]? with
            | some v => cond (Nat.beq len 3 && (Nat.ble o x && Nat.beq k q.2.2.1)) (some (pc + 3, ls, v :: r, cs, nc, ns)) none
            | none => none)
          | none => none)
        | _ => none)
      | none => none)
    | .getstatic i => cond (Nat.beq len 3 && (Nat.beq on 9 && Nat.beq i 15)) (some (pc + 3, ls, .ref 2000 :: st, cs, nc, ns)) none
    | .aastore => (match st with
      | .ref v :: .int n :: .ref x :: r => (match cs[x - o]? with
        | some (k, z, fs) => (match cs[v - o]? with
          | some (kv, _, _) => cond (Nat.beq len 1 && (Nat.ble o x && (Nat.ble o v && (Nat.beq k (kb + bRK kv) && (Nat.ble (bRK kv) 5 && (decide (0 ≤ n) && (Nat.blt n.toNatClampNeg z && Nat.beq fs.length z))))))) (some (pc + 1, ls, r, cs.set (x - o) (k, z, fs.set n.toNatClampNeg (.ref v)), nc, ns)) none
          | none => none)
        | none => none)
      | _ => none)
    | _ => none
/-- the machine of the constructors: up to the place where the method stops -/
def bst (o kb : Nat) (nl cl : List aQ) (BM : Nat → bMI) : Nat → Nat → Nat → Nat → bS → Option bS
  | 0, _, _, _, _ => none
  | f + 1, d, j, pc, S => cond (Nat.beq pc (BM j).2.2.2.2.2.2) (some S) (match decode (BM j).2.1 pc with
    | .ok (.invokespecial i, len) => (match cl.find? fun q => Nat.beq q.1 j && Nat.beq q.2.1 i with
      | some q => cond (Nat.beq q.2.2.2 1)
          (match S with
            | (ls, .ref _ :: r, cs, nc, ns) => cond (Nat.beq len 3 && Nat.ble (acs r) 8) (bst o kb nl cl BM f d j (pc + 3) (ls, r, cs, nc, ns)) none
            | _ => none)
          (match d with
            | 0 => none
            | d + 1 => (match S with
              | (ls, st, cs, nc, ns) => (match st.drop (BM q.2.2.1).2.2.2.1 with
                | .ref x :: r => (match bst o kb nl cl BM f d q.2.2.1 0 (alc (.ref x :: (st.take (BM q.2.2.1).2.2.2.1).reverse) (BM q.2.2.1).2.2.1, [], cs, 0, 0) with
                  | some (_, [], cs', nc', ns') => cond (Nat.beq len 3 && (Nat.ble nc' (BM q.2.2.1).2.2.2.2.1 && (Nat.ble ns' (BM q.2.2.1).2.2.2.2.2.1 && (Nat.ble (acs r) 8 && (bLs (o + cs.length) ls && (r.all (bLim (o + cs.length)) && (Nat.ble (BM q.2.2.1).2.2.2.1 st.length && (Nat.blt q.2.2.1 12 && (Nat.ble (alE (.ref x :: (st.take (BM q.2.2.1).2.2.2.1).reverse)).length (BM q.2.2.1).2.2.1 && (Nat.ble (nc + (BM q.2.2.1).2.2.2.2.1) (BM j).2.2.2.2.1 && (Nat.ble (ns + (BM q.2.2.1).2.2.2.2.2.1) (BM j).2.2.2.2.2.1 && Nat.ble cs.length cs'.length)))))))))))
                      (bst o kb nl cl BM f (d + 1) j (pc + 3) (ls, r, cs', nc + (BM q.2.2.1).2.2.2.2.1, ns + (BM q.2.2.1).2.2.2.2.2.1)) none
                  | _ => none)
                | _ => none)))
      | none => none)
    | .ok (ins, len) => (match b1 o kb (BM j).2.2.2.2.1 (BM j).2.2.2.2.2.1 j nl ins len pc S with
      | some (pc', S') => bst o kb nl cl BM f d j pc' S'
      | none => none)
    | .error _ => none)
