/-! how a state of the small machine lies in the heap: the cell of number i at the address 'ad i' -/
abbrev vwCl : List vw_C := [(RX1, TX1, 6), (RX2, TX2, 1), (RX3, TX3, 3), (RX4, TX4, 7), (RX5, TX5, 6), (RX6, TX6, 4), (RX7, TX7, 16), (RX8, TX8, 1), (RX10, TX10, 7), (RX11, TX11, 8), (RX12, TX12, 12), (RX13, TX13, 63)]
def atv (ad : Nat → Nat) (v : Value) : Value := match v with
  | .ref a => .ref (ad a)
  | .int x => .int x
  | .long x => .long x
  | .float x => .float x
  | .double x => .double x
  | .null => .null
  | .retAddr x => .retAddr x
theorem atv_cat (ad : Nat → Nat) (v : Value) : (atv ad v).category = v.category := by cases v <;> rfl
def afv (ad : Nat → Nat) (S : aS) (i : Nat) (q : Nat × Nat) : Value := match q.1 with
  | 0 => .int (gi S i q.2)
  | 1 => .int (gi S i q.2)
  | 2 => .long (gl S i q.2)
  | 3 => .ref (ad (art i q.2))
  | _ => .ref (ad (gr S i q.2))
def arw (ad : Nat → Nat) (S : aS) (i : Nat) : (Nat → Int32) ⊕ (Nat → Int64) ⊕ (Nat → UInt32) ⊕ (Nat → UInt64) ⊕ (Nat → Option Nat) := match akd i % 10 with
  | 1 => .inr (.inl (S.2.2.2.2 i))
  | 4 => .inr (.inr (.inr (.inr fun k => some (ad (ara i k)))))
  | 5 => .inr (.inr (.inr (.inr fun k => some (ad (ara i k)))))
  | _ => .inl (S.2.2.2.1 i)
def ace (ad : Nat → Nat) (cy : Nat → ClassId) (S : aS) (i : Nat) : va_E := cond (Nat.blt (akd i) 20) (.inr (akd i, (aft (akd i)).zipIdx.map (afv ad S i))) (.inl (cy (akd i % 10), aln i, arw ad S i))
def aws (ad : Nat → Nat) (cy : Nat → ClassId) (ids : List Nat) (S : aS) : va_W := ids.map fun i => (ad i, ace ad cy S i)
abbrev atys (cy : Nat → ClassId) : List (ClassId × FieldType) := [(cy 0, .int), (cy 1, .long), (cy 2, .byte), (cy 3, .boolean), (cy 4, .object RX5), (cy 5, .object RX10)]
theorem ace_obj {ad : Nat → Nat} {cy : Nat → ClassId} {S : aS} {i c : Nat} (h : akd i = c) (hc : Nat.blt c 20 = true) : ace ad cy S i = .inr (c, (aft c).zipIdx.map (afv ad S i)) := by
  unfold ace
  rw [h, hc]
  rfl
theorem ace_arr {ad : Nat → Nat} {cy : Nat → ClassId} {S : aS} {i c : Nat} (h : akd i = c) (hc : Nat.blt c 20 = false) : ace ad cy S i = .inl (cy (c % 10), aln i, arw ad S i) := by
  unfold ace
  rw [h, hc]
  rfl
theorem arw_I {ad : Nat → Nat} {S : aS} {i c : Nat} (h : akd i = c) (hc : c % 10 = 0 ∨ c % 10 = 2 ∨ c % 10 = 3) : arw ad S i = .inl (S.2.2.2.1 i) := by
  unfold arw
  rw [h]
  rcases hc with hc | hc | hc <;> simp only [hc]
theorem arw_L {ad : Nat → Nat} {S : aS} {i c : Nat} (h : akd i = c) (hc : c % 10 = 1) : arw ad S i = .inr (.inl (S.2.2.2.2 i)) := by
  unfold arw
  simp only [h, hc]
theorem arw_R {ad : Nat → Nat} {S : aS} {i c : Nat} (h : akd i = c) (hc : c % 10 = 4 ∨ c % 10 = 5) : arw ad S i = .inr (.inr (.inr (.inr fun k => some (ad (ara i k))))) := by
  unfold arw
  rw [h]
  rcases hc with hc | hc <;> simp only [hc]
theorem aws_at {ad : Nat → Nat} {cy : Nat → ClassId} {ids : List Nat} {S : aS} {i : Nat} (h : i ∈ ids) : ∃ q0 : Nat, ids[q0]? = some i ∧ (aws ad cy ids S)[q0]? = some (ad i, ace ad cy S i) := by
  obtain ⟨q0, hq⟩ := List.getElem?_of_mem h
  exact ⟨q0, hq, by unfold aws; rw [List.getElem?_map, hq]; rfl⟩
theorem aws_set {ad : Nat → Nat} {cy : Nat → ClassId} {ids : List Nat} {S S' : aS} {i q0 : Nat} (hn : ids.Nodup) (h : ids[q0]? = some i) (hs : ∀ j, j ≠ i → ace ad cy S' j = ace ad cy S j) : (aws ad cy ids S).set q0 (ad i, ace ad cy S' i) = aws ad cy ids S' := by
  unfold aws
  apply List.ext_getElem?
  intro n
  rw [List.getElem?_set]
  by_cases e : q0 = n
  · subst e
    obtain ⟨hlt, _⟩ := List.getElem?_eq_some_iff.mp h
    rw [if_pos rfl, if_pos (by rw [List.length_map]; exact hlt), List.getElem?_map, h]
    rfl
  · rw [if_neg e, List.getElem?_map, List.getElem?_map]
    cases hj : ids[n]? with
    | none => rfl
    | some j =>
      have hne : j ≠ i := by
        intro hji
        subst hji
        obtain ⟨h1, h2⟩ := List.getElem?_eq_some_iff.mp h
        obtain ⟨h3, h4⟩ := List.getElem?_eq_some_iff.mp hj
        exact e ((List.getElem_inj hn).mp (h2.trans h4.symm))
      show some (ad j, ace ad cy S j) = some (ad j, ace ad cy S' j)
      rw [hs j hne]
theorem aft_get {ad : Nat → Nat} {S : aS} {i c k t : Nat} (h : (aft c)[k]? = some t) : ((aft c).zipIdx.map (afv ad S i))[k]? = some (afv ad S i (t, k)) := by
  rw [List.getElem?_map, List.getElem?_zipIdx, h]
  simp
theorem aft_len {ad : Nat → Nat} {S : aS} {i c : Nat} : ((aft c).zipIdx.map (afv ad S i)).length = (aft c).length := by
  rw [List.length_map, List.length_zipIdx]
/-- a field anew: the row of the fields -/
theorem aft_set {ad : Nat → Nat} {S S' : aS} {i c k t : Nat} {v : Value} (h : (aft c)[k]? = some t) (hv : afv ad S' i (t, k) = v) (ho : ∀ t' k', k' ≠ k → afv ad S' i (t', k') = afv ad S i (t', k')) : ((aft c).zipIdx.map (afv ad S i)).set k v = (aft c).zipIdx.map (afv ad S' i) := by
  apply List.ext_getElem?
  intro n
  rw [List.getElem?_set]
  by_cases e : k = n
  · subst e
    obtain ⟨hlt, _⟩ := List.getElem?_eq_some_iff.mp h
    rw [if_pos rfl, if_pos (by rw [aft_len]; exact hlt), aft_get h, hv]
  · rw [if_neg e, List.getElem?_map, List.getElem?_map, List.getElem?_zipIdx]
    cases hj : (aft c)[n]? with
    | none => rfl
    | some t' =>
      simp only [Option.map_some, Nat.zero_add]
      rw [ho t' n (fun z => e z.symm)]
/-! what the setters leave alone -/
theorem ace_si {ad : Nat → Nat} {cy : Nat → ClassId} {S : aS} {i k : Nat} {v : Int32} (j : Nat) (h : j ≠ i) : ace ad cy (si S i k v) j = ace ad cy S j := by
  have e : afv ad (si S i k v) j = afv ad S j := by
    funext q
    unfold afv
    simp only [gi, gl, gr, si, va_up, if_neg h]
  unfold ace
  rw [e]
  rfl
theorem ace_sl {ad : Nat → Nat} {cy : Nat → ClassId} {S : aS} {i k : Nat} {v : Int64} (j : Nat) (h : j ≠ i) : ace ad cy (sl S i k v) j = ace ad cy S j := by
  have e : afv ad (sl S i k v) j = afv ad S j := by
    funext q
    unfold afv
    simp only [gi, gl, gr, sl, va_up, if_neg h]
  unfold ace
  rw [e]
  rfl
theorem ace_sr {ad : Nat → Nat} {cy : Nat → ClassId} {S : aS} {i k v : Nat} (j : Nat) (h : j ≠ i) : ace ad cy (sr S i k v) j = ace ad cy S j := by
  have e : afv ad (sr S i k v) j = afv ad S j := by
    funext q
    unfold afv
    simp only [gi, gl, gr, sr, va_up, if_neg h]
  unfold ace
  rw [e]
  rfl
theorem ace_sa {ad : Nat → Nat} {cy : Nat → ClassId} {S : aS} {i k : Nat} {v : Int32} (j : Nat) (h : j ≠ i) : ace ad cy (sa S i k v) j = ace ad cy S j := by
  have e : arw ad (sa S i k v) j = arw ad S j := by
    unfold arw
    simp only [sa, va_up, if_neg h]
  unfold ace
  rw [e]
  rfl
theorem ace_sb {ad : Nat → Nat} {cy : Nat → ClassId} {S : aS} {i k : Nat} {v : Int64} (j : Nat) (h : j ≠ i) : ace ad cy (sb S i k v) j = ace ad cy S j := by
  have e : arw ad (sb S i k v) j = arw ad S j := by
    unfold arw
    simp only [sb, va_up, if_neg h]
  unfold ace
  rw [e]
  rfl
/-! locals: what is known of them -/
def apr (ad : Nat → Nat) : Nat → aLs → List (Nat × Value)
  | _, [] => []
  | i, none :: t => apr ad (i + 1) t
  | i, some v :: t => (i, atv ad v) :: apr ad (i + 1) t
theorem apr_mem {ad : Nat → Nat} : ∀ (ls : aLs) (b : Nat) (q : Nat × Value), q ∈ apr ad b ls ↔ ∃ (i : Nat) (v : Value), ls[i]? = some (some v) ∧ q = (b + i, atv ad v) := by
  intro ls
  induction ls with
  | nil => intro b q; simp [apr]
  | cons x t ih =>
    intro b q
    cases x with
    | none =>
      rw [show apr ad b (none :: t) = apr ad (b + 1) t from rfl, ih]
      constructor
      · rintro ⟨i, v, h1, h2⟩
        exact ⟨i + 1, v, h1, by rw [h2]; congr 1; omega⟩
      · rintro ⟨i, v, h1, h2⟩
        cases i with
        | zero => cases h1
        | succ i => exact ⟨i, v, h1, by rw [h2]; congr 1; omega⟩
    | some w =>
      rw [show apr ad b (some w :: t) = (b, atv ad w) :: apr ad (b + 1) t from rfl, List.mem_cons, ih]
      constructor
      · rintro (h | ⟨i, v, h1, h2⟩)
        · exact ⟨0, w, rfl, h⟩
        · exact ⟨i + 1, v, h1, by rw [h2]; congr 1; omega⟩
      · rintro ⟨i, v, h1, h2⟩
        cases i with
        | zero => left; cases h1; exact h2
        | succ i => right; exact ⟨i, v, h1, by rw [h2]; congr 1; omega⟩
def aHas (ad : Nat → Nat) (A : Array Slot) (nL : Nat) (ls : aLs) : Prop := ls.length = nL ∧ lv_has A nL (apr ad 0 ls)
theorem aHas.at {ad : Nat → Nat} {A : Array Slot} {nL : Nat} {ls : aLs} (h : aHas ad A nL ls) {i : Nat} {v : Value} (hi : ls[i]? = some (some v)) : A[i]? = some (.val (atv ad v)) := by
  have := h.2.2.2 (i, atv ad v) ((apr_mem ls 0 _).mpr ⟨i, v, hi, by rw [Nat.zero_add]⟩)
  exact this
theorem acat2_cat {v : Value} : acat2 v = (v.category == 2) := by cases v <;> rfl
theorem akl_get {ls : aLs} {i j : Nat} {v : Value} (h : (akl ls i)[j]? = some (some v)) : ls[j]? = some (some v) ∧ (j + 1 == i && v.category == 2) = false := by
  unfold akl at h
  split at h
  · exact ⟨h, by simp⟩
  · rename_i k
    split at h
    · rename_i w hw
      cases hc : acat2 w with
      | true =>
        rw [hc] at h
        simp only [cond_true] at h
        rw [List.getElem?_set] at h
        by_cases e : k = j
        · rw [if_pos e] at h
          split at h <;> cases h
        · rw [if_neg e] at h
          refine ⟨h, ?_⟩
          have : (j + 1 == k + 1) = false := by simp; omega
          rw [this]; rfl
      | false =>
        rw [hc] at h
        simp only [cond_false] at h
        refine ⟨h, ?_⟩
        by_cases e : k = j
        · subst e
          rw [hw] at h
          cases h
          rw [acat2_cat] at hc
          rw [hc]
          simp
        · have : (j + 1 == k + 1) = false := by simp; omega
          rw [this]; rfl
    · rename_i hw
      refine ⟨h, ?_⟩
      by_cases e : k = j
      · subst e
        exact absurd h (hw v)
      · have : (j + 1 == k + 1) = false := by simp; omega
        rw [this]; rfl
theorem akl_len {ls : aLs} {i : Nat} : (akl ls i).length = ls.length := by
  unfold akl
  split
  · rfl
  · split
    · rename_i w _
      cases acat2 w <;> simp
    · rfl
theorem aHas.st1 {ad : Nat → Nat} {A A' : Array Slot} {nL i : Nat} {ls : aLs} {v : Value} (h : aHas ad A nL ls) (h' : lv_has A' nL ((i, atv ad v) :: (apr ad 0 ls).filter (fun q => !(q.1 == i) && !(q.1 + 1 == i && q.2.category == 2)))) : aHas ad A' nL (ast1 ls i v) := by
  refine ⟨by unfold ast1; rw [List.length_set, akl_len]; exact h.1, h'.1, h'.2.1, fun q hq => h'.2.2 q ?_⟩
  obtain ⟨j, w, h1, rfl⟩ := (apr_mem _ _ _).mp hq
  rw [Nat.zero_add]
  unfold ast1 at h1
  rw [List.getElem?_set] at h1
  by_cases e : i = j
  · subst e
    rw [if_pos rfl] at h1
    split at h1
    · cases h1; exact List.mem_cons_self
    · cases h1
  · rw [if_neg e] at h1
    obtain ⟨h2, h3⟩ := akl_get h1
    refine List.mem_cons_of_mem _ (List.mem_filter.mpr ⟨(apr_mem _ _ _).mpr ⟨j, w, h2, by rw [Nat.zero_add]⟩, ?_⟩)
    have e1 : (j == i) = false := by simp; exact fun z => e z.symm
    show (!(j == i) && !(j + 1 == i && (atv ad w).category == 2)) = true
    rw [atv_cat, h3, e1]
    rfl
theorem aHas.st2 {ad : Nat → Nat} {A A' : Array Slot} {nL i : Nat} {ls : aLs} {v : Value} (h : aHas ad A nL ls) (h' : lv_has A' nL ((i, atv ad v) :: (apr ad 0 ls).filter (fun q => !(q.1 == i) && (!(q.1 == i + 1) && !(q.1 + 1 == i && q.2.category == 2))))) : aHas ad A' nL (ast2 ls i v) := by
  refine ⟨by unfold ast2; rw [List.length_set, List.length_set, akl_len]; exact h.1, h'.1, h'.2.1, fun q hq => h'.2.2 q ?_⟩
  obtain ⟨j, w, h1, rfl⟩ := (apr_mem _ _ _).mp hq
  rw [Nat.zero_add]
  unfold ast2 at h1
  rw [List.getElem?_set] at h1
  by_cases e1 : i + 1 = j
  · rw [if_pos e1] at h1
    split at h1 <;> cases h1
  · rw [if_neg e1, List.getElem?_set] at h1
    by_cases e : i = j
    · subst e
      rw [if_pos rfl] at h1
      split at h1
      · cases h1; exact List.mem_cons_self
      · cases h1
    · rw [if_neg e] at h1
      obtain ⟨h2, h3⟩ := akl_get h1
      refine List.mem_cons_of_mem _ (List.mem_filter.mpr ⟨(apr_mem _ _ _).mpr ⟨j, w, h2, by rw [Nat.zero_add]⟩, ?_⟩)
      have e2 : (j == i) = false := by simp; exact fun z => e z.symm
      have e3 : (j == i + 1) = false := by simp; exact fun z => e1 z.symm
      show (!(j == i) && (!(j == i + 1) && !(j + 1 == i && (atv ad w).category == 2))) = true
      rw [atv_cat, h3, e2, e3]
      rfl
