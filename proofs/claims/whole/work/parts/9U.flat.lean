/-! an E read by the reference, sign by sign -/
def rw1 (d : Nat) (Q : Value → aS → Prop) (D : Nat) (S : aS) : Prop := aBM (d + 2) 12 Q 9 [some (.ref 1000), some (.int (nI D)), some (.int 1), none, none, none] [] S
def rw0 (d : Nat) (Q : Value → aS → Prop) (D : Nat) (S : aS) : Prop := aBM (d + 2) 12 Q 9 [some (.ref 1000), some (.int (nI D)), some (.int 0), none, none, none] [] S
def flC (i : Nat) : Prop := i = 1014 ∨ i = 1015 ∨ i = 1016
def flF (k : Nat) : Prop := (4 ≤ k ∧ k ≤ 9) ∨ k = 23
def frR (c D E : Nat) (S S' : aS) : Prop := frM flC flF S S' ∧ (∀ k, k < c → ga S' 1014 k = ga S 1014 k) ∧ (∀ j, j ≤ D → ga S' 1015 j = ga S 1015 j) ∧ ∀ j, j < E → ga S' 1016 j = ga S 1016 j
theorem frR.rf {c D E : Nat} {S : aS} : frR c D E S S := ⟨frM.rf, fun _ _ => rfl, fun _ _ => rfl, fun _ _ => rfl⟩
theorem frR.tr {c D E : Nat} {S S1 S2 : aS} (h : frR c D E S S1) (g : frR c D E S1 S2) : frR c D E S S2 := ⟨h.1.tr g.1, fun k q => (g.2.1 k q).trans (h.2.1 k q), fun k q => (g.2.2.1 k q).trans (h.2.2.1 k q), fun k q => (g.2.2.2 k q).trans (h.2.2.2 k q)⟩
theorem frR.le {c D E c' D' E' : Nat} {S S' : aS} (h : frR c D E S S') (hc : c' ≤ c) (hD : D' ≤ D) (hE : E' ≤ E) : frR c' D' E' S S' := ⟨h.1, fun k q => h.2.1 k (by omega), fun k q => h.2.2.1 k (by omega), fun k q => h.2.2.2 k (by omega)⟩
theorem frR_tk {c D E : Nat} {S S' : aS} (h : frM noC tkF S S') : frR c D E S S' := ⟨h.le (fun _ q => q.elim) (fun k q => by unfold tkF at q; unfold flF; omega), fun k _ => h.1 1014 k (fun q => q), fun k _ => h.1 1015 k (fun q => q), fun k _ => h.1 1016 k (fun q => q)⟩
theorem frR_put {c D E b : Nat} {S : aS} {v w : Int32} (h : c ≤ b) : frR c D E S (si (sa S 1014 b v) 1000 23 w) := by
  refine ⟨frM.tr (frM_sa (C := flC) (F := flF) (Or.inl rfl)) (frM_si (Or.inr rfl)), fun k hk => ?_, fun k hk => ?_, fun k hk => ?_⟩
  · rw [ga_si, ga_sa, if_neg (by omega)]
  · rw [ga_si, ga_sa, if_neg (by omega)]
  · rw [ga_si, ga_sa, if_neg (by omega)]
theorem frR_op {c D E j : Nat} {S : aS} {v : Int32} (h : D < j) : frR c D E S (sa S 1015 j v) := by
  refine ⟨frM_sa (C := flC) (F := flF) (Or.inr (Or.inl rfl)), fun k hk => ?_, fun k hk => ?_, fun k hk => ?_⟩
  · rw [ga_sa, if_neg (by omega)]
  · rw [ga_sa, if_neg (by omega)]
  · rw [ga_sa, if_neg (by omega)]
theorem frR_cm {c D E j : Nat} {S : aS} {v : Int32} (h : E ≤ j) : frR c D E S (sa S 1016 j v) := by
  refine ⟨frM_sa (C := flC) (F := flF) (Or.inr (Or.inr rfl)), fun k hk => ?_, fun k hk => ?_, fun k hk => ?_⟩
  · rw [ga_sa, if_neg (by omega)]
  · rw [ga_sa, if_neg (by omega)]
  · rw [ga_sa, if_neg (by omega)]
/-- the reference reads an E: at a token, with so many codes, at a depth, above its last open sign -/
def MS (tp : List Nat) (w : Bool) (q c D B : Nat) (S : aS) : Prop := tkM tp q S ∧ gi S 1000 23 = nI c ∧ gi S 1000 24 = bT (!w) ∧ B ≤ D ∧ (∀ j, B < j → j ≤ D → ga S 1015 j = 1) ∧ (B = 0 ∨ ga S 1015 B = 2)
theorem tk_rw {tp : List Nat} {q c D E : Nat} {S S' : aS} (h : tkM tp q S) (hf : frR c D E S S') (hF : ∀ k, 3 ≤ k → k ≤ 8 → gi S' 1000 k = gi S 1000 k) (h7 : gl S' 1000 7 = gl S 1000 7) : tkM tp q S' := by
  obtain ⟨h1, h2, h3, h4, h5, h6⟩ := h
  exact ⟨⟨(hF 3 (by decide) (by decide)).trans h1.1, fun k hk => (hf.1.1 1001 k (by unfold flC; omega)).trans (h1.2 k hk)⟩, (hF 5 (by decide) (by decide)).trans h2, (hF 4 (by decide) (by decide)).trans h3, (hF 6 (by decide) (by decide)).trans h4, fun c => h7.trans (h5 c), fun c => (hF 8 (by decide) (by decide)).trans (h6 c)⟩
theorem tk_sa {tp : List Nat} {q i j : Nat} {S : aS} {v : Int32} (h : tkM tp q S) (hi : i ≠ 1001) : tkM tp q (sa S i j v) := h.kept (frM_sa (C := fun k => k = i) (F := noC) rfl) (fun e => hi e.symm) (fun _ _ _ q => q)
theorem tk_si {tp : List Nat} {q k : Nat} {S : aS} {v : Int32} (h : tkM tp q S) (hk : 9 ≤ k) : tkM tp q (si S 1000 k v) := h.kept (frM_si (C := noC) (F := fun j => j = k) rfl) (fun e => e) (fun j _ _ e => by omega)
section
variable {d : Nat} {Q : Value → aS → Prop} {S : aS} {tp : List Nat} {q c D B : Nat} {w : Bool}
/-- back to the last open sign, then on -/
theorem rw_pop82 {x : Int32} (ht : okT tp) (hl : plT tp q) (hs : tkM tp q S) (hD : D ≤ 6) (hB : B ≤ D) (h1 : ∀ j, B < j → j ≤ D → ga S 1015 j = 1) (h2 : B = 0 ∨ ga S 1015 B = 2) (h : ∀ S', frM noC tkF S S' → tkM tp (nxT tp q) S' → aBM (d + 2) 12 Q 9 [some (.ref 1000), some (.int (nI B)), some (.int x), none, none, none] [] S') : aBM (d + 2) 12 Q 82 [some (.ref 1000), some (.int (nI D)), some (.int x), none, none, none] [] S := by
  have loop : ∀ n D, B + n = D → D ≤ 6 → (∀ j, B < j → j ≤ D → ga S 1015 j = 1) → aBM (d + 2) 12 Q 82 [some (.ref 1000), some (.int (nI D)), some (.int x), none, none, none] [] S := by
    intro n
    induction n with
    | zero =>
      intro D hD h6 h1
      obtain rfl : B = D := by omega
      refine bM_reads_82 ?_
      rw [nI_le0 (by omega), nI_clamp (by omega)]
      refine ⟨fun _ => wM_nx ht hs hl h, fun c => ⟨nI_in (by omega) (by omega), fun _ => wM_nx ht hs hl h, fun c2 => ?_⟩⟩
      rw [h2.resolve_left c] at c2
      exact absurd c2 (by decide)
    | succ n ih =>
      intro D hD h6 h1
      refine bM_reads_82 ?_
      rw [nI_le0 (by omega), nI_clamp (by omega), h1 D (by omega) (Nat.le_refl _)]
      refine ⟨fun c => absurd c (by omega), fun _ => ⟨nI_in (by omega) (by omega), fun c => absurd rfl c, fun _ => ?_⟩⟩
      have e : nI D + -1 = nI (D - 1) := by
        have : ∀ D, D < 7 → 0 < D → nI D + -1 = nI (D - 1) := by decide +kernel
        exact this D (by omega) (by omega)
      rw [e]
      exact ih (D - 1) (by omega) (by omega) (fun j a b => h1 j a (by omega))
  exact loop (D - B) D (by omega) hD h1
theorem rw_pop190 {x : Int32} (ht : okT tp) (hl : plT tp q) (hs : tkM tp q S) (hD : D ≤ 6) (hB : B ≤ D) (h1 : ∀ j, B < j → j ≤ D → ga S 1015 j = 1) (h2 : B = 0 ∨ ga S 1015 B = 2) (h : ∀ S', frM noC tkF S S' → tkM tp (nxT tp q) S' → aBM (d + 2) 12 Q 9 [some (.ref 1000), some (.int (nI B)), some (.int x), none, none, none] [] S') : aBM (d + 2) 12 Q 190 [some (.ref 1000), some (.int (nI D)), some (.int x), none, none, none] [] S := by
  have loop : ∀ n D, B + n = D → D ≤ 6 → (∀ j, B < j → j ≤ D → ga S 1015 j = 1) → aBM (d + 2) 12 Q 190 [some (.ref 1000), some (.int (nI D)), some (.int x), none, none, none] [] S := by
    intro n
    induction n with
    | zero =>
      intro D hD h6 h1
      obtain rfl : B = D := by omega
      refine bM_reads_190 ?_
      rw [nI_le0 (by omega), nI_clamp (by omega)]
      refine ⟨fun _ => wM_nx ht hs hl h, fun c => ⟨nI_in (by omega) (by omega), fun _ => wM_nx ht hs hl h, fun c2 => ?_⟩⟩
      rw [h2.resolve_left c] at c2
      exact absurd c2 (by decide)
    | succ n ih =>
      intro D hD h6 h1
      refine bM_reads_190 ?_
      rw [nI_le0 (by omega), nI_clamp (by omega), h1 D (by omega) (Nat.le_refl _)]
      refine ⟨fun c => absurd c (by omega), fun _ => ⟨nI_in (by omega) (by omega), fun c => absurd rfl c, fun _ => ?_⟩⟩
      have e : nI D + -1 = nI (D - 1) := by
        have : ∀ D, D < 7 → 0 < D → nI D + -1 = nI (D - 1) := by decide +kernel
        exact this D (by omega) (by omega)
      rw [e]
      exact ih (D - 1) (by omega) (by omega) (fun j a b => h1 j a (by omega))
  exact loop (D - B) D (by omega) hD h1
/-- a sign or not; a word or not -/
theorem sg_is {k : Nat} {x : Int32} {P : Int32 → aS → Prop} (ht : okT tp) (hs : tkM tp q S) (hl : plT tp q) (h25 : 25 ≤ k) (h33 : k < 33) (hx : x = nI (sgK k)) (h1 : srT tp q = k → P 1 S) (h0 : ¬ srT tp q = k → P 0 S) : aWM (d + 1) 8 [.ref 1000, .int x] S (fun v S2 => aI v (fun y => P y S2)) := by
  refine wM_isSign ht hs hl.1 h25 h33 hx ?_
  show P _ S
  by_cases c : srT tp q = k
  · rw [decide_eq_true c]; exact h1 c
  · rw [decide_eq_false c]; exact h0 c
theorem wd_is {k : Nat} {x : Int64} {P : Int32 → aS → Prop} (ht : okT tp) (hs : tkM tp q S) (hl : plT tp q) (h4 : 4 ≤ k) (h25 : k < 25) (hx : x = wW (2200 + k)) (h1 : srT tp q = k → P 1 S) (h0 : ¬ srT tp q = k → P 0 S) : aWM (d + 1) 7 [.ref 1000, .long x] S (fun v S2 => aI v (fun y => P y S2)) := by
  refine wM_isWord ht hs hl.1 h4 h25 hx ?_
  show P _ S
  by_cases c : srT tp q = k
  · rw [decide_eq_true c]; exact h1 c
  · rw [decide_eq_false c]; exact h0 c
/-- it fails here -/
theorem rw_err {x : Int32} (hs : tkM tp q S) (h : ∀ S', frR c D D S S' → gi S' 1000 9 = x + 16 * nI q → Q (.int 0) S') : aWM (d + 2) 9 [.ref 1000, .int x] S (fun v S2 => aI v (fun y => (y = 0 ∨ y = 1) ∧ Q (.int y) S2)) := by
  refine wM_fail hs ⟨Or.inl rfl, h _ ⟨frM_si (Or.inl ⟨by decide, by decide⟩), fun _ _ => rfl, fun _ _ => rfl, fun _ _ => rfl⟩ ?_⟩
  rw [gi_si, if_pos ⟨rfl, rfl⟩]
/-- what begins a part: a number, a fact, not, an open sign -/
def isOp (tp : List Nat) (w : Bool) (q : Nat) : Prop := srT tp q = 2 ∨ srT tp q = 22 ∨ srT tp q = 25 ∨ ∃ i, i < (if w = true then 5 else 3) ∧ ast (2240 + ((if w = true then 0 else 5) + i)) = wdT tp q
/-- the three questions where a part is wanted -/
theorem rw_ask {A : Int32 → Int32 → Int32 → aS → Prop} (ht : okT tp) (hs : tkM tp q S) (hl : plT tp q) (hw : gi S 1000 24 = bT (!w)) (h : ∀ f : Nat, ((∃ i, i < (if w = true then 5 else 3) ∧ ast (2240 + ((if w = true then 0 else 5) + i)) = wdT tp q ∧ f = (if w = true then 0 else 5) + i + 1) ∨ ((∀ i, i < (if w = true then 5 else 3) → ast (2240 + ((if w = true then 0 else 5) + i)) ≠ wdT tp q) ∧ f = 0)) → A (nI f) (bT (decide (srT tp q = 22))) (bT (decide (srT tp q = 25))) S) : aWM (d + 2) 11 [.ref 1000] S (fun v16 S17 => aI v16 (fun x18 => aWM (d + 2) 7 [.ref 1000, .long 10631] S17 (fun v19 S20 => aI v19 (fun x21 => aWM (d + 2) 8 [.ref 1000, .int 40] S20 (fun v22 S23 => aI v22 (fun x24 => A x18 x21 x24 S23)))))) := by
  have rest : ∀ f : Nat, A (nI f) (bT (decide (srT tp q = 22))) (bT (decide (srT tp q = 25))) S → aI (.int (nI f)) (fun x18 => aWM (d + 2) 7 [.ref 1000, .long 10631] S (fun v19 S20 => aI v19 (fun x21 => aWM (d + 2) 8 [.ref 1000, .int 40] S20 (fun v22 S23 => aI v22 (fun x24 => A x18 x21 x24 S23))))) := fun f hA => by
    show aWM (d + 2) 7 [.ref 1000, .long 10631] S _
    refine wM_isWord (k := 22) ht hs hl.1 (by decide) (by decide) rfl ?_
    show aWM (d + 2) 8 [.ref 1000, .int 40] S _
    exact wM_isSign (k := 25) ht hs hl.1 (by decide) (by decide) rfl hA
  exact wM_fact ht hs hl.1 hw (fun i hi e => rest _ (h _ (Or.inl ⟨i, hi, e, rfl⟩))) (fun n => rest 0 (h 0 (Or.inr ⟨n, rfl⟩)))
theorem nsT_2 (h : toT tp q = 2) : ¬ toT tp q = 1 := by omega
theorem rw_bad1 (ht : okT tp) (hl : plT tp q) (hM : MS tp w q c D B S) (hn : ¬ isOp tp w q) (h : ∀ S', frR c D D S S' → gi S' 1000 9 = 1 + 16 * nI q → Q (.int 0) S') : rw1 d Q D S := by
  obtain ⟨m1, m2, m3, m4, m5, m6⟩ := hM
  refine bM_reads_9 ⟨fun q => absurd q (by decide), fun _ => rw_ask ht m1 hl m3 (fun f hf => ?_)⟩
  rcases hf with ⟨i, hi, e, -⟩ | ⟨-, rfl⟩
  · exact absurd (Or.inr (Or.inr (Or.inr ⟨i, hi, e⟩))) hn
  · rw [decide_eq_false (fun e => hn (Or.inr (Or.inl e))), decide_eq_false (fun e => hn (Or.inr (Or.inr (Or.inl e))))]
    refine ⟨fun q => absurd rfl q, fun _ => ⟨fun q => absurd rfl q, fun _ => ⟨fun q => absurd rfl q, fun _ => ⟨fun c2 => ?_, fun _ => rw_err m1 h⟩⟩⟩⟩
    have h6 : toT tp q < 5 := by
      unfold toT
      repeat' split
      all_goals decide
    rw [m1.2.2.2.1, show (2 : Int32) = nI 2 from rfl, nI_eq (by omega) (by decide)] at c2
    exact absurd (Or.inl ((srT_n2 hl.1).mpr c2)) hn
theorem rw_go36 (ht : okT tp) (hl : plT tp q) (hM : MS tp w q c D B S) (hn : isOp tp w q) (h : ∀ f : Nat, ((∃ i, i < (if w = true then 5 else 3) ∧ ast (2240 + ((if w = true then 0 else 5) + i)) = wdT tp q ∧ f = (if w = true then 0 else 5) + i + 1) ∨ ((∀ i, i < (if w = true then 5 else 3) → ast (2240 + ((if w = true then 0 else 5) + i)) ≠ wdT tp q) ∧ f = 0)) → aBM (d + 2) 12 Q 36 [some (.ref 1000), some (.int (nI D)), some (.int 1), some (.int (nI f)), some (.int (bT (decide (srT tp q = 22)))), some (.int (bT (decide (srT tp q = 25))))] [] S) : rw1 d Q D S := by
  obtain ⟨m1, m2, m3, m4, m5, m6⟩ := hM
  refine bM_reads_9 ⟨fun q => absurd q (by decide), fun _ => rw_ask ht m1 hl m3 (fun f hf => ?_)⟩
  have hg := h f hf
  refine ⟨fun _ => hg, fun c0 => ⟨fun _ => hg, fun c1 => ⟨fun _ => hg, fun c2 => ⟨fun _ => hg, fun c3 => ?_⟩⟩⟩⟩
  rcases hn with e | e | e | ⟨i, hi, e⟩
  · have := (srT_n2 hl.1).mp e
    rw [m1.2.2.2.1, this] at c3
    exact absurd rfl c3
  · rw [decide_eq_true e] at c1
    exact absurd c1 (by decide)
  · rw [decide_eq_true e] at c2
    exact absurd c2 (by decide)
  · rcases hf with ⟨j, hj, e2, rfl⟩ | ⟨n, -⟩
    · have hb : (if w = true then 0 else 5) + j + 1 < 20 := by
        cases w
        · have hj : j < 3 := hj
          show 5 + j + 1 < 20
          omega
        · have hj : j < 5 := hj
          show 0 + j + 1 < 20
          omega
      rw [nI_eq0 (by omega)] at c0
      omega
    · exact absurd e (n i hi)
theorem rw_bad5 (ht : okT tp) (hl : plT tp q) (hM : MS tp w q c 5 B S) (hn : isOp tp w q) (h : ∀ S', frR c 5 5 S S' → gi S' 1000 9 = 5 + 16 * nI q → Q (.int 0) S') : rw1 d Q 5 S := rw_go36 ht hl hM hn (fun f hf => bM_reads_36 ⟨fun q => absurd rfl q, fun _ => rw_err hM.1 h⟩)
end
