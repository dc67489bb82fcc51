/-! lines of a realm: what comes of them, on both sides -/
noncomputable def cI {α : Type} (p : Prop) (a b : α) : α := @ite α p (Classical.propDecidable p) a b
theorem cI_t {α : Type} {p : Prop} {a b : α} (h : p) : cI p a b = a := by
  unfold cI
  exact if_pos h
theorem cI_f {α : Type} {p : Prop} {a b : α} (h : ¬ p) : cI p a b = b := by
  unfold cI
  exact if_neg h
/-- the first of so many names that is this one -/
def fdA (f : Nat → List Nat) (l : List Nat) : Nat → Nat → Option Nat
  | 0, _ => none
  | n + 1, k => if f k = l then some k else fdA f l n (k + 1)
def fdN (n : Nat) (f : Nat → List Nat) (l : List Nat) : Option Nat := fdA f l n 0
theorem fdA_some {f : Nat → List Nat} {l : List Nat} {k : Nat} : ∀ n j, j ≤ k → k < j + n → f k = l → (∀ i, i < k → f i ≠ l) → fdA f l n j = some k
  | 0, j, h1, h2, _, _ => by omega
  | n + 1, j, h1, h2, h3, h4 => by
    unfold fdA
    by_cases c : j = k
    · subst c
      rw [if_pos h3]
    · rw [if_neg (h4 j (by omega))]
      exact fdA_some n (j + 1) (by omega) (by omega) h3 h4
theorem fdA_none {f : Nat → List Nat} {l : List Nat} : ∀ n j, (∀ i, j ≤ i → i < j + n → f i ≠ l) → fdA f l n j = none
  | 0, j, _ => rfl
  | n + 1, j, h => by
    unfold fdA
    rw [if_neg (h j (by omega) (by omega))]
    exact fdA_none n (j + 1) (fun i a b => h i (by omega) (by omega))
theorem fdN_some {f : Nat → List Nat} {l : List Nat} {n k : Nat} (h1 : k < n) (h2 : f k = l) (h3 : ∀ i, i < k → f i ≠ l) : fdN n f l = some k := fdA_some n 0 (Nat.zero_le _) (by omega) h2 h3
theorem fdN_none {f : Nat → List Nat} {l : List Nat} {n : Nat} (h : ∀ i, i < n → f i ≠ l) : fdN n f l = none := fdA_none n 0 (fun i _ b => h i (by omega))
/-- drafts that grew -/
def addW (D : zD) (k : Nat) (l : List Nat) : zD := (((rWr D.1 + 1, rWd D.1, rFo D.1, rPa D.1), (fun j => if j = rWr D.1 then k else rKi D.1 j), D.1.2.2), (fun j => if j = rWr D.1 then l else D.2.1 j), D.2.2)
def addD (D : zD) (f we go le : Nat) (l : List Nat) : zD := (((rWr D.1, rWd D.1 + 1, rFo D.1, rPa D.1), D.1.2.1, ((fun w => if w = rWd D.1 then f else rFd D.1 w), (fun w => if w = rWd D.1 then we else rWe D.1 w), (fun w => if w = rWd D.1 then go else rGo D.1 w), (fun w => if w = rWd D.1 then le else rLe D.1 w)), D.1.2.2.2.1, D.1.2.2.2.2.1, (fun w => if w = rWd D.1 then l else rNm D.1 w), D.1.2.2.2.2.2.2), D.2)
def setL (D : zD) (a b n : Nat) : zD := ((D.1.1, D.1.2.1, D.1.2.2.1, (fun k w => if k = a ∧ w = b then n else rLi D.1 k w), D.1.2.2.2.2), D.2)
def setC (D : zD) (a b : Nat) : zD := (((rWr D.1, rWd D.1, rFo D.1, rPa D.1 + 1), D.1.2.1, D.1.2.2.1, D.1.2.2.2.1, (fun v w => rCl D.1 v w || decide ((v = a ∧ w = b) ∨ (v = b ∧ w = a))), D.1.2.2.2.2.2), D.2)
def setF (D : zD) (n : Nat) : zD := (((rWr D.1, rWd D.1, n, rPa D.1), D.1.2), D.2.1, true)
def setW (D : zD) (w : Bool) (F : zF) : zD := ((D.1.1, D.1.2.1, D.1.2.2.1, D.1.2.2.2.1, D.1.2.2.2.2.1, D.1.2.2.2.2.2.1, (if w = true then some F else rWf D.1), (if w = true then rDf D.1 else some F)), D.2)
theorem ok_addW {D : zD} {k : Nat} {l : List Nat} (h : okDr D) (hw : rWr D.1 < 5) (hk : k ≤ 3) (hl : nmS l) : okDr (addW D k l) := by
  obtain ⟨⟨a1, a2, a3, a4, a5, a6, a7⟩, ⟨b1, b2⟩, c1, c2, c3⟩ := h
  refine ⟨⟨show rWr D.1 + 1 ≤ 5 by omega, a2, a3, trivial, fun j hj => ?_, a6, fun j w hj hw2 => ?_⟩, ⟨b1, b2⟩, fun j hj => ?_, fun j w hn => c2 j w (fun q => hn ⟨Nat.lt_succ_of_lt q.1, q.2⟩), c3⟩
  · have hj : j < rWr D.1 + 1 := hj
    show (if j = rWr D.1 then k else rKi D.1 j) ≤ 3
    split
    · exact hk
    · exact a5 j (by omega)
  · have hw2 : w < rWd D.1 := hw2
    show rLi D.1 j w ≤ 9
    by_cases q : j < rWr D.1
    · exact a7 j w q hw2
    · rw [c2 j w (fun z => q z.1)]
      decide
  · have hj : j < rWr D.1 + 1 := hj
    show nmS (if j = rWr D.1 then l else D.2.1 j)
    split
    · exact hl
    · exact c1 j (by omega)
theorem ok_addD {D : zD} {f we go le : Nat} {l : List Nat} (h : okDr D) (hw : rWd D.1 < 12) (h1 : f ≤ 3) (h2 : we ≤ 9) (h3 : go ≤ 20) (h4 : le ≤ 9) (hl : nmS l) : okDr (addD D f we go le l) := by
  obtain ⟨⟨a1, a2, a3, a4, a5, a6, a7⟩, ⟨b1, b2⟩, c1, c2, c3⟩ := h
  refine ⟨⟨a1, show rWd D.1 + 1 ≤ 12 by omega, a3, trivial, a5, fun w hj => ?_, fun j w hj hw2 => ?_⟩, ⟨fun w hj => ?_, fun v w hv hw2 => ?_⟩, c1, fun j w hn => c2 j w (fun q => hn ⟨q.1, Nat.lt_succ_of_lt q.2⟩), fun v w hn => c3 v w (fun q => hn ⟨Nat.lt_succ_of_lt q.1, Nat.lt_succ_of_lt q.2⟩)⟩
  · have hj : w < rWd D.1 + 1 := hj
    show (if w = rWd D.1 then f else rFd D.1 w) ≤ 3 ∧ (if w = rWd D.1 then we else rWe D.1 w) ≤ 9 ∧ (if w = rWd D.1 then go else rGo D.1 w) ≤ 20 ∧ (if w = rWd D.1 then le else rLe D.1 w) ≤ 9
    by_cases q : w = rWd D.1
    · rw [if_pos q, if_pos q, if_pos q, if_pos q]
      exact ⟨h1, h2, h3, h4⟩
    · rw [if_neg q, if_neg q, if_neg q, if_neg q]
      exact a6 w (by omega)
  · have hj : j < rWr D.1 := hj
    show rLi D.1 j w ≤ 9
    by_cases q : w < rWd D.1
    · exact a7 j w hj q
    · rw [c2 j w (fun z => q z.2)]
      decide
  · have hj : w < rWd D.1 + 1 := hj
    show nmS (if w = rWd D.1 then l else rNm D.1 w)
    split
    · exact hl
    · exact b1 w (by omega)
  · show rCl D.1 v w = rCl D.1 w v
    by_cases q : v < rWd D.1 ∧ w < rWd D.1
    · exact b2 v w q.1 q.2
    · rw [c3 v w q, c3 w v (fun z => q ⟨z.2, z.1⟩)]
theorem ok_setL {D : zD} {a b n : Nat} (h : okDr D) (ha : a < rWr D.1) (hb : b < rWd D.1) (hn : n ≤ 9) : okDr (setL D a b n) := by
  obtain ⟨⟨a1, a2, a3, a4, a5, a6, a7⟩, ⟨b1, b2⟩, c1, c2, c3⟩ := h
  refine ⟨⟨a1, a2, a3, trivial, a5, a6, fun j w hj hw2 => ?_⟩, ⟨b1, b2⟩, c1, fun j w hq => ?_, c3⟩
  · have hj : j < rWr D.1 := hj
    have hw2 : w < rWd D.1 := hw2
    show (if j = a ∧ w = b then n else rLi D.1 j w) ≤ 9
    split
    · exact hn
    · exact a7 j w hj hw2
  · have hq : ¬ (j < rWr D.1 ∧ w < rWd D.1) := hq
    show (if j = a ∧ w = b then n else rLi D.1 j w) = 0
    rw [if_neg (fun z => hq (by omega))]
    exact c2 j w hq
theorem ok_setC {D : zD} {a b : Nat} (h : okDr D) (ha : a < rWd D.1) (hb : b < rWd D.1) : okDr (setC D a b) := by
  obtain ⟨⟨a1, a2, a3, a4, a5, a6, a7⟩, ⟨b1, b2⟩, c1, c2, c3⟩ := h
  refine ⟨⟨a1, a2, a3, trivial, a5, a6, a7⟩, ⟨b1, fun v w hv hw => ?_⟩, c1, c2, fun v w hq => ?_⟩
  · have hv : v < rWd D.1 := hv
    have hw : w < rWd D.1 := hw
    show (rCl D.1 v w || decide ((v = a ∧ w = b) ∨ (v = b ∧ w = a))) = (rCl D.1 w v || decide ((w = a ∧ v = b) ∨ (w = b ∧ v = a)))
    rw [b2 v w hv hw]
    congr 1
    exact decide_eq_decide.mpr (by omega)
  · have hq : ¬ (v < rWd D.1 ∧ w < rWd D.1) := hq
    show (rCl D.1 v w || decide ((v = a ∧ w = b) ∨ (v = b ∧ w = a))) = false
    rw [c3 v w hq, decide_eq_false (fun z => hq (by omega))]
    rfl
theorem ok_setF {D : zD} {n : Nat} (h : okDr D) (h2 : 2 ≤ n) (h4 : n ≤ 4) : okDr (setF D n) := by
  obtain ⟨⟨a1, a2, a3, a4, a5, a6, a7⟩, ⟨b1, b2⟩, c1, c2, c3⟩ := h
  exact ⟨⟨a1, a2, ⟨h2, h4⟩, trivial, a5, a6, a7⟩, ⟨b1, b2⟩, c1, c2, c3⟩
theorem ok_setW {D : zD} {w : Bool} {F : zF} (h : okDr D) : okDr (setW D w F) := by
  obtain ⟨⟨a1, a2, a3, a4, a5, a6, a7⟩, ⟨b1, b2⟩, c1, c2, c3⟩ := h
  exact ⟨⟨a1, a2, a3, trivial, a5, a6, a7⟩, ⟨b1, b2⟩, c1, c2, c3⟩
/-- the class's draft, its rows; its laws -/
def dwX (D : zD) (t : Nat) (S : aS) : Prop := (gi S t 0 = nI (rWr D.1) ∧ gi S t 3 = nI (rWd D.1) ∧ gi S t 12 = nI (rFo D.1) ∧ gi S t 11 = nI (rPa D.1) ∧ gi S t 13 = bT D.2.2) ∧ (∀ k, k < rWr D.1 → ga S (t + 1) k = nI (rKi D.1 k) ∧ gb S (t + 2) k = lN (enc 32 (D.2.1 k))) ∧ (∀ w, w < rWd D.1 → ga S (t + 3) w = nI (rFd D.1 w) ∧ ga S (t + 4) w = nI (rWe D.1 w) ∧ ga S (t + 5) w = nI (rGo D.1 w) ∧ ga S (t + 6) w = nI (rLe D.1 w) ∧ gb S (t + 7) w = lN (enc 32 (rNm D.1 w))) ∧ (∀ k w, k < 5 → w < 12 → ga S (t + 8) (12 * k + w) = nI (rLi D.1 k w)) ∧ ∀ v, v < 12 → ∃ c, clB D.1 v c ∧ ga S (t + 9) v = nI c
def lwX (D : zD) (q t : Nat) (S : aS) : Prop := loX S (t + 11) 5 (rWf D.1) ∧ loX S (t + 14) 3 (rDf D.1) ∧ (∃ b1 b2, gi S (t + 11) 5 = nI b1 ∧ gi S (t + 14) 5 = nI b2 ∧ b1 ≤ q ∧ b2 ≤ q) ∧ gi S (t + 11) 0 = 1 ∧ gi S (t + 14) 0 = 0
section
variable {t q q' : Nat} {D D' : zD} {S S' : aS} {C : Nat → Prop} {tp : List Nat}
theorem dX_of (hT : isT t) (ok : okDr D) (h : dwX D t S) (g : lwX D q t S) : dX D q t S := by
  obtain ⟨⟨a1, a2, a4, a5, a6, a7, a8, a9, a10⟩, ⟨a14, a15⟩, -⟩ := art_t hT
  have h5 := ok.1.1
  have h12 := ok.1.2.1
  unfold dX RX rlX clX namX
  rw [a1, a2, a4, a5, a6, a7, a8, a9, a10, a14, a15]
  exact ⟨⟨⟨h.1.1, h.1.2.1, h.1.2.2.1, h.1.2.2.2.1, fun k hk => (h.2.1 k hk).1, fun w hw => (h.2.2.1 w hw).1, fun w hw => (h.2.2.1 w hw).2.1, fun w hw => (h.2.2.1 w hw).2.2.1, fun w hw => (h.2.2.1 w hw).2.2.2.1, fun k w hk hw => h.2.2.2.1 k w (by omega) (by omega)⟩, g.1, g.2.1, fun v hv => h.2.2.2.2 v (by omega), fun w hw => (h.2.2.1 w hw).2.2.2.2⟩, h.2.2.2.1, h.2.2.2.2, fun k hk => (h.2.1 k hk).2, h.1.2.2.2.2, g.2.2.1, g.2.2.2.1, g.2.2.2.2⟩
theorem dwX.kept (h : dwX D t S) (hf : frZ C S S') (hc : ∀ i, t ≤ i → i ≤ t + 9 → ¬ C i) : dwX D t S' := by
  have g : ∀ k, gi S' t k = gi S t k := fun k => (hf t k (hc t (by omega) (by omega))).1
  have a : ∀ i, t ≤ i → i ≤ t + 9 → ∀ k, ga S' i k = ga S i k := fun i h1 h2 k => (hf i k (hc i h1 h2)).2.1
  have b : ∀ i, t ≤ i → i ≤ t + 9 → ∀ k, gb S' i k = gb S i k := fun i h1 h2 k => (hf i k (hc i h1 h2)).2.2.2.1
  unfold dwX at h ⊢
  simp only [g, a (t + 1) (by omega) (by omega), a (t + 3) (by omega) (by omega), a (t + 4) (by omega) (by omega), a (t + 5) (by omega) (by omega), a (t + 6) (by omega) (by omega), a (t + 8) (by omega) (by omega), a (t + 9) (by omega) (by omega), b (t + 2) (by omega) (by omega), b (t + 7) (by omega) (by omega)]
  exact h
theorem lwX.kept (hT : isT t) (h : lwX D q t S) (hf : frZ C S S') (hc : ∀ i, i = t + 10 ∨ i = t + 11 ∨ i = t + 14 → ¬ C i) (hq : q ≤ q') (e1 : rWf D'.1 = rWf D.1) (e2 : rDf D'.1 = rDf D.1) : lwX D' q' t S' := by
  obtain ⟨h1, h2, ⟨b1, b2, h3, h4, h5, h6⟩, h7, h8⟩ := h
  obtain ⟨-, -, -, -, -, e3, e4⟩ := rt_c hT
  have g : ∀ i, i = t + 11 ∨ i = t + 14 → ∀ k, gi S' i k = gi S i k := fun i hi k => (hf i k (hc i (by omega))).1
  have a : ∀ k, ga S' (t + 10) k = ga S (t + 10) k := fun k => (hf _ k (hc _ (Or.inl rfl))).2.1
  refine ⟨?_, ?_, ⟨b1, b2, (g _ (Or.inl rfl) 5).trans h3, (g _ (Or.inr rfl) 5).trans h4, by omega, by omega⟩, (g _ (Or.inl rfl) 0).trans h7, (g _ (Or.inr rfl) 0).trans h8⟩
  · rw [e1]
    exact h1.kept (g _ (Or.inl rfl)) (fun k => by rw [e3]; exact a k)
  · rw [e2]
    exact h2.kept (g _ (Or.inr rfl)) (fun k => by rw [e4]; exact a k)
theorem tkX.keptZ (h : tkX tp q S) (hf : frZ C S S') (h1 : ¬ C 1) (h2 : ¬ C 2) : tkX tp q S' := by
  have g : ∀ k, gi S' 1 k = gi S 1 k := fun k => (hf 1 k h1).1
  exact ⟨⟨(g 1).trans h.1.1, fun k c hk => (hf 2 k h2).2.1.trans (h.1.2 k c hk)⟩, (g 3).trans h.2.1, (g 2).trans h.2.2.1, (hf 1 4 h1).2.2.2.2.trans h.2.2.2.1, fun c => (g 5).trans (h.2.2.2.2.1 c), fun c => (hf 1 6 h1).2.2.1.trans (h.2.2.2.2.2 c)⟩
theorem frZ_si {i k : Nat} {v : Int32} (h : C i) : frZ C S (si S i k v) := (frY_si h).Z
theorem frZ_sa {i k : Nat} {v : Int32} (h : C i) : frZ C S (sa S i k v) := (frY_sa h).Z
theorem frZ_sb {i k : Nat} {v : Int64} (h : C i) : frZ C S (sb S i k v) := (frY_sb h).Z
end
/-- cells that change while the class reads a realm into t -/
def dwC (t i : Nat) : Prop := t ≤ i ∧ i ≤ t + 9
def drC (t i : Nat) : Prop := i = 1 ∨ dwC t i
/-- with its laws; which is of the writing stays -/
def frF (t : Nat) (S S' : aS) : Prop := frZ (fun i => i = 1 ∨ rcX t i) S S' ∧ gi S' (t + 11) 0 = gi S (t + 11) 0 ∧ gi S' (t + 14) 0 = gi S (t + 14) 0
theorem frF.tr {t : Nat} {S S1 S2 : aS} (h : frF t S S1) (g : frF t S1 S2) : frF t S S2 := ⟨h.1.tr g.1, g.2.1.trans h.2.1, g.2.2.trans h.2.2⟩
theorem frF_of {t : Nat} {S S' : aS} (h : frZ (drC t) S S') : frF t S S' := by
  refine ⟨h.le (fun i hi => hi.elim Or.inl (fun z => Or.inr (by unfold dwC at z; unfold rcX; omega))), ?_, ?_⟩
  · by_cases c : drC t (t + 11)
    · exact absurd c (by unfold drC dwC; omega)
    · exact (h _ 0 c).1
  · by_cases c : drC t (t + 14)
    · exact absurd c (by unfold drC dwC; omega)
    · exact (h _ 0 c).1
theorem frZ_K {t : Nat} {S S' : aS} (h : frK S S') : frZ (drC t) S S' := h.Z.le (fun _ q => Or.inl q)
def xE (t : Nat) (S S' : aS) (v : Int32) : Prop := frF t S S' ∧ gi S' 1 7 = v
def xO (tp : List Nat) (t q : Nat) (D' : zD) (q1 : Nat) (S S' : aS) : Prop := frF t S S' ∧ dwX D' t S' ∧ lwX D' q1 t S' ∧ tkX tp q1 S' ∧ plT tp q1 ∧ q < q1 ∧ gi S' 1 7 = gi S 1 7 ∧ okDr D'
abbrev zO : Type := Int32 ⊕ (zD × Nat)
theorem xE_fail {t : Nat} {S T : aS} {v : Int32} (h : frZ (drC t) S T) : xE t S (si T 1 7 v) v := ⟨frF_of (h.tr (frZ_si (Or.inl rfl))), by rw [gi_si, if_pos ⟨rfl, rfl⟩]⟩
/-- the reference: what is kept -/
theorem frU_er {S S' : aS} (h : frM noC erF S S') : frU S S' := ⟨fun i k _ => h.1 i k (fun q => q), fun i k _ => h.2.1 i k (fun q => q), fun k q => h.2.2.1 k (fun c => q (by unfold erF nwF tkF at c; unfold upF; omega)), fun k q => h.2.2.2 k (fun c => q (by unfold erF nwF tkF at c; unfold upF; omega))⟩
theorem frU_nw {S S' : aS} (h : frM noC nwF S S') : frU S S' := frU_er (er_nw h)
theorem frU_9 {S T : aS} {v : Int32} (h : frU S T) : frU S (si T 1000 9 v) ∧ gi (si T 1000 9 v) 1000 9 = v := ⟨h.tr (frU_si (by unfold upF; omega)), by rw [gi_si, if_pos ⟨rfl, rfl⟩]⟩
theorem loU.kept {S S' : aS} {l o n c : Nat} {f : Option zF} (h : loU S l o n c f) (a : ∀ i, 1012 ≤ i → i ≤ 1014 → ∀ k, ga S' i k = ga S i k) : loU S' l o n c f := by
  cases f with
  | none => exact ⟨(a 1012 (by decide) (by decide) _).trans h.1, (a 1013 (by decide) (by decide) _).trans h.2⟩
  | some F =>
    obtain ⟨hh, cs, b, e1, e2, e3, e4, e5, e6, e7, e8⟩ := h
    exact ⟨hh, cs, b, e1, e2, (a 1012 (by decide) (by decide) _).trans e3, (a 1013 (by decide) (by decide) _).trans e4, e5, e6, fun i x hi => (a 1014 (by decide) (by decide) _).trans (e7 i x hi), e8⟩
theorem dM.kept {D : zD} {c : Nat} {S S' : aS} {F : Nat → Prop} (h : dM D c S) (hf : frM noC F S S') (h23 : ¬ F 23) (h25 : ¬ F 25) : dM D c S' := by
  have a : ∀ i k, ga S' i k = ga S i k := fun i k => hf.1 i k (fun q => q)
  have b : ∀ i k, gb S' i k = gb S i k := fun i k => hf.2.1 i k (fun q => q)
  obtain ⟨h1, h2, h3, h4, h5, h6, h7⟩ := h
  refine ⟨?_, fun k hk => ?_, fun w hw => ?_, h4.kept (fun i _ _ => a i), h5.kept (fun i _ _ => a i), (hf.2.2.1 23 h23).trans h6, (hf.2.2.1 25 h25).trans h7⟩
  · simp only [a]
    exact h1
  · simp only [a, b]
    exact h2 k hk
  · simp only [a, b]
    exact h3 w hw
theorem dM.tk {D : zD} {c : Nat} {S S' : aS} (h : dM D c S) (hf : frM noC tkF S S') : dM D c S' := h.kept hf (by unfold tkF; omega) (by unfold tkF; omega)
theorem dM.nw {D : zD} {c : Nat} {S S' : aS} (h : dM D c S) (hf : frM noC nwF S S') : dM D c S' := h.kept hf (by unfold nwF tkF; omega) (by unfold nwF tkF; omega)
theorem wM_close {d : Nat} {Q : Value → aS → Prop} {S S1 : aS} {tp : List Nat} {q c : Nat} {D : zD} (ht : okT tp) (hl : plT tp q) (ts : tkM tp q S1) (f : frU S S1) (hd : dM D c S1) (h1 : srT tp q = 32 → ∀ S', frU S S' → dM D c S' → tkM tp (nxT tp q) S' → Q (.int 1) S') (h0 : ¬ srT tp q = 32 → ∀ S', frU S S' → gi S' 1000 9 = 1 + 16 * nI q → Q (.int 0) S') : aWM (d + 3) 22 [.ref 1000] S1 (fun v S2 => aI v (fun x => (x = 0 ∨ x = 1) ∧ Q (.int x) S2)) :=
  wM_closes ht ts hl (fun e S' f' t' => ⟨Or.inr rfl, h1 e S' (f.tr (frU_tk f')) (hd.tk f') t'⟩) (fun e => ⟨Or.inl rfl, h0 e _ (frU_9 f).1 (frU_9 f).2⟩)
/-- what the reference makes of a line, told by its outcome -/
def mL (tp : List Nat) (j : Nat) (av : List Value) (D : zD) (q : Nat) (o : zO) : Prop := ∀ d Q S c, dM D c S → tkM tp q S → 1000 ≤ c ∧ c ≤ 1000 + q → (∀ v S', o = .inl v → frU S S' → gi S' 1000 9 = v → Q (.int 0) S') → (∀ D' q1 S' c', o = .inr (D', q1) → srT tp q1 = 32 → frU S S' → dM D' c' S' → 1000 ≤ c' ∧ c' ≤ 1000 + q1 → tkM tp (nxT tp q1) S' → Q (.int 1) S') → (∀ D' q1 S', o = .inr (D', q1) → ¬ srT tp q1 = 32 → frU S S' → gi S' 1000 9 = 1 + 16 * nI q1 → Q (.int 0) S') → aWM (d + 6) j (.ref 1000 :: av) S Q
