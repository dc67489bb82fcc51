/-! the signs of a tape, its tokens -/
def sgT (tp : List Nat) (k : Nat) : Nat := tp.getD k 0
def isWs (c : Nat) : Bool := decide (c = 10 ∨ c = 32)
def isLt (c : Nat) : Bool := decide (97 ≤ c ∧ c ≤ 122)
def isDg (c : Nat) : Bool := decide (48 ≤ c ∧ c ≤ 57)
def rnT (P : Nat → Bool) (tp : List Nat) (p : Nat) : Nat := p + ((tp.drop p).takeWhile P).length
theorem sgT_at {tp : List Nat} {k : Nat} (h : k < tp.length) : tp[k]? = some (sgT tp k) := by
  unfold sgT
  rw [List.getD_eq_getElem?_getD, List.getElem?_eq_getElem h]
  rfl
section
variable {P : Nat → Bool} {tp : List Nat} {p : Nat}
theorem rn_go (h : p < tp.length) (hp : P (sgT tp p) = true) : rnT P tp p = rnT P tp (p + 1) := by
  unfold rnT
  have e : tp[p] = sgT tp p := by
    have := sgT_at h
    rw [List.getElem?_eq_getElem h] at this
    exact Option.some.inj this
  rw [List.drop_eq_getElem_cons h, List.takeWhile_cons, e, if_pos hp, List.length_cons]
  omega
theorem rn_no (h : ¬ (p < tp.length ∧ P (sgT tp p) = true)) : rnT P tp p = p := by
  unfold rnT
  by_cases c : p < tp.length
  · have e : tp[p] = sgT tp p := by
      have := sgT_at c
      rw [List.getElem?_eq_getElem c] at this
      exact Option.some.inj this
    rw [List.drop_eq_getElem_cons c, List.takeWhile_cons, e, if_neg (fun q => h ⟨c, q⟩)]
    rfl
  · rw [List.drop_eq_nil_of_le (by omega)]
    rfl
theorem rn_ge : p ≤ rnT P tp p := Nat.le_add_right _ _
theorem rn_ind {M : Nat → Prop} (go : ∀ p, p < tp.length → P (sgT tp p) = true → M (p + 1) → M p) (no : ∀ p, p ≤ tp.length → ¬ (p < tp.length ∧ P (sgT tp p) = true) → M p) : ∀ n p, p + n = tp.length → M p := by
  intro n
  induction n with
  | zero => exact fun p hp => no p (by omega) (by omega)
  | succ n ih =>
    intro p hp
    by_cases c : P (sgT tp p) = true
    · exact go p (by omega) c (ih (p + 1) (by omega))
    · exact no p (by omega) (fun q => c q.2)
theorem rn_le (h : p ≤ tp.length) : rnT P tp p ≤ tp.length := by
  refine rn_ind (P := P) (tp := tp) (M := fun p => rnT P tp p ≤ tp.length) (fun p h1 h2 h3 => ?_) (fun p h1 h2 => ?_) (tp.length - p) p (by omega)
  · show rnT P tp p ≤ _
    rw [rn_go h1 h2]
    exact h3
  · show rnT P tp p ≤ _
    rw [rn_no h2]
    exact h1
theorem rn_all (h : p ≤ tp.length) : ∀ i, p ≤ i → i < rnT P tp p → P (sgT tp i) = true := by
  refine rn_ind (P := P) (tp := tp) (M := fun p => ∀ i, p ≤ i → i < rnT P tp p → P (sgT tp i) = true) (fun p h1 h2 h3 i hi hj => ?_) (fun p h1 h2 i hi hj => ?_) (tp.length - p) p (by omega)
  · by_cases c : i = p
    · rw [c]; exact h2
    · rw [rn_go h1 h2] at hj
      exact h3 i (by omega) hj
  · rw [rn_no h2] at hj
    omega
theorem rn_end (h : p ≤ tp.length) : ¬ (rnT P tp p < tp.length ∧ P (sgT tp (rnT P tp p)) = true) := by
  refine rn_ind (P := P) (tp := tp) (M := fun p => ¬ (rnT P tp p < tp.length ∧ P (sgT tp (rnT P tp p)) = true)) (fun p h1 h2 h3 => ?_) (fun p h1 h2 => ?_) (tp.length - p) p (by omega)
  · rw [rn_go h1 h2]
    exact h3
  · rw [rn_no h2]
    exact h2
theorem rn_lt (h : p < tp.length) (hp : P (sgT tp p) = true) : p < rnT P tp p := by
  rw [rn_go h hp]
  exact Nat.lt_of_lt_of_le (Nat.lt_succ_self p) rn_ge
end
/-- where the token at a place ends; how long it is; its letters; its number -/
def enT (tp : List Nat) (q : Nat) : Nat := if q < tp.length then (if isLt (sgT tp q) = true then rnT isLt tp q else if isDg (sgT tp q) = true then rnT isDg tp q else q + 1) else q
def nT (tp : List Nat) (q : Nat) : Nat := enT tp q - q
def nmP (tp : List Nat) (q n : Nat) : List Nat := (List.range n).map fun i => sgT tp (q + i) - 96
def nmT (tp : List Nat) (q : Nat) : List Nat := nmP tp q (nT tp q)
def nvP (tp : List Nat) (q n : Nat) : Nat := enc 10 ((List.range n).map fun i => sgT tp (q + i) - 48)
def nvT (tp : List Nat) (q : Nat) : Nat := nvP tp q (nT tp q)
def txT (tp : List Nat) (q s : Nat) : Bool := decide (nT tp q = asl s) && (List.range (asl s)).all fun i => decide (nI (sgT tp (q + i)) = asc s i)
def srF (tp : List Nat) (q : Nat) : Nat → Nat → Nat
  | 0, _ => if isLt (sgT tp q) = true then (if nT tp q ≤ 8 then 3 else 1) else 1
  | n + 1, k => if txT tp q (2200 + k) = true then k else srF tp q n (k + 1)
def srT (tp : List Nat) (q : Nat) : Nat := if nT tp q = 0 then 0 else if isDg (sgT tp q) = true then (if nT tp q ≤ 4 then 2 else 1) else srF tp q 33 0
/-- a place of a token -/
def plT (tp : List Nat) (q : Nat) : Prop := q ≤ tp.length ∧ (q < tp.length → isWs (sgT tp q) = false)
def nxT (tp : List Nat) (q : Nat) : Nat := rnT isWs tp (enT tp q)
theorem enT_ge {tp : List Nat} {q : Nat} : q ≤ enT tp q := by
  unfold enT
  split
  · split
    · exact rn_ge
    · split
      · exact rn_ge
      · omega
  · exact Nat.le_refl _
theorem enT_le {tp : List Nat} {q : Nat} (h : q ≤ tp.length) : enT tp q ≤ tp.length := by
  unfold enT
  split
  · split
    · exact rn_le h
    · split
      · exact rn_le h
      · omega
  · exact h
theorem enT_lt {tp : List Nat} {q : Nat} (h : q < tp.length) : q < enT tp q := by
  unfold enT
  rw [if_pos h]
  split
  · exact rn_lt h (by assumption)
  · split
    · exact rn_lt h (by assumption)
    · omega
theorem nT_0 {tp : List Nat} {q : Nat} (h : q ≤ tp.length) : nT tp q = 0 ↔ q = tp.length := by
  unfold nT
  constructor
  · intro e
    by_cases c : q < tp.length
    · have := enT_lt c
      omega
    · omega
  · intro e
    unfold enT
    rw [if_neg (by omega)]
    omega
theorem plT_rn {tp : List Nat} {p : Nat} (h : p ≤ tp.length) : plT tp (rnT isWs tp p) := by
  refine ⟨rn_le h, fun c => ?_⟩
  have := rn_end (P := isWs) h
  cases e : isWs (sgT tp (rnT isWs tp p)) with
  | false => rfl
  | true => exact absurd ⟨c, e⟩ this
theorem plT_nx {tp : List Nat} {q : Nat} (h : plT tp q) : plT tp (nxT tp q) := plT_rn (enT_le h.1)
theorem nx_gt {tp : List Nat} {q : Nat} (h : q < tp.length) : q < nxT tp q := Nat.lt_of_lt_of_le (enT_lt h) rn_ge
theorem enc_snoc {b : Nat} {l : List Nat} {c : Nat} : enc b (l ++ [c]) = enc b l * b + c := by
  unfold enc
  rw [List.foldl_append]
  rfl
theorem nmP_1 {tp : List Nat} {q n : Nat} : nmP tp q (n + 1) = nmP tp q n ++ [sgT tp (q + n) - 96] := by
  unfold nmP
  rw [List.range_succ, List.map_append]
  rfl
theorem nvP_1 {tp : List Nat} {q n : Nat} : nvP tp q (n + 1) = nvP tp q n * 10 + (sgT tp (q + n) - 48) := by
  unfold nvP
  rw [List.range_succ, List.map_append]
  exact enc_snoc
