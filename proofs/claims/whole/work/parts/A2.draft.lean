/-! a realm as it is read: the draft, on both sides -/
def frZ (C : Nat → Prop) (S S' : aS) : Prop := ∀ i k, ¬ C i → gi S' i k = gi S i k ∧ ga S' i k = ga S i k ∧ gl S' i k = gl S i k ∧ gb S' i k = gb S i k ∧ gr S' i k = gr S i k
theorem frZ.rf {C : Nat → Prop} {S : aS} : frZ C S S := fun _ _ _ => ⟨rfl, rfl, rfl, rfl, rfl⟩
theorem frZ.tr {C : Nat → Prop} {S S1 S2 : aS} (h : frZ C S S1) (g : frZ C S1 S2) : frZ C S S2 := fun i k q => ⟨(g i k q).1.trans (h i k q).1, (g i k q).2.1.trans (h i k q).2.1, (g i k q).2.2.1.trans (h i k q).2.2.1, (g i k q).2.2.2.1.trans (h i k q).2.2.2.1, (g i k q).2.2.2.2.trans (h i k q).2.2.2.2⟩
theorem frZ.le {C C' : Nat → Prop} {S S' : aS} (h : frZ C S S') (hc : ∀ i, C i → C' i) : frZ C' S S' := fun i k q => h i k (fun c => q (hc i c))
theorem frY.Z {C : Nat → Prop} {S S' : aS} (h : frY C S S') : frZ C S S' := fun i k q => ⟨(h.1 i k q).1, (h.1 i k q).2.1, (h.1 i k q).2.2.1, (h.1 i k q).2.2.2, h.gr i k⟩
theorem frK.Z {S S' : aS} (h : frK S S') : frZ (fun i => i = 1) S S' := fun i k q => ⟨h.1 i k (fun c => q c.1), h.2.2.2.1 i k, h.2.1 i k (fun c => q c.1), h.2.2.2.2 i k, h.2.2.1 i k (fun c => q c.1)⟩
theorem frE.Z {t a : Nat} {S S' : aS} (h : frE t a S S') : frZ (fun i => i = 1 ∨ i = t ∨ i = art t 3) S S' := fun i k q => ⟨h.1 i k (fun c => q (Or.inl c)) (fun c => q (Or.inr (Or.inl c.1))), h.2.2.2.1 i k (fun c => q (Or.inr (Or.inr c.1))), h.2.1 i k (fun c => q (Or.inl c)), h.2.2.2.2 i k, h.2.2.1 i k (fun c => q (Or.inl c.1))⟩
/-- the refs of one state, all else of another -/
def wr (S S' : aS) : aS := (S'.1, S'.2.1, S.2.2.1, S'.2.2.2.1, S'.2.2.2.2)
theorem frZ.Y {C : Nat → Prop} {S S' : aS} (h : frZ C S S') : frY C S (wr S S') := ⟨fun i k q => ⟨(h i k q).1, (h i k q).2.1, (h i k q).2.2.1, (h i k q).2.2.2.1⟩, rfl⟩
theorem RX.keptZ {r : zR} {S S' : aS} {t : Nat} {C : Nat → Prop} (hT : isT t) (h : RX r S t) (hf : frZ C S S') (hc : ∀ i, rcX t i → ¬ C i) : RX r S' t := by
  have h2 : RX r (wr S S') t := h.kept hT hf.Y hc
  exact h2
/-- a draft: the realm, the names of its writers, whether folds were told -/
abbrev zD : Type := zR × (Nat → List Nat) × Bool
def okDr (D : zD) : Prop := okR D.1 ∧ okN D.1 ∧ (∀ k, k < rWr D.1 → nmS (D.2.1 k)) ∧ (∀ k w, ¬ (k < rWr D.1 ∧ w < rWd D.1) → rLi D.1 k w = 0) ∧ ∀ v w, ¬ (v < rWd D.1 ∧ w < rWd D.1) → rCl D.1 v w = false
def dX (D : zD) (q t : Nat) (S : aS) : Prop := RX D.1 S t ∧ (∀ k w, k < 5 → w < 12 → ga S (art t 9) (12 * k + w) = nI (rLi D.1 k w)) ∧ (∀ v, v < 12 → ∃ c, clB D.1 v c ∧ ga S (art t 10) v = nI c) ∧ (∀ k, k < rWr D.1 → gb S (art t 2) k = lN (enc 32 (D.2.1 k))) ∧ gi S t 13 = bT D.2.2 ∧ (∃ b1 b2, gi S (art t 14) 5 = nI b1 ∧ gi S (art t 15) 5 = nI b2 ∧ b1 ≤ q ∧ b2 ≤ q) ∧ gi S (art t 14) 0 = 1 ∧ gi S (art t 15) 0 = 0
theorem rt_c {t : Nat} (hT : isT t) : art t 2 = t + 2 ∧ art t 9 = t + 8 ∧ art t 10 = t + 9 ∧ art t 14 = t + 11 ∧ art t 15 = t + 14 ∧ art (t + 11) 3 = t + 10 ∧ art (t + 14) 3 = t + 10 := by
  rcases hT with rfl | rfl <;> decide
theorem dX.kept {D : zD} {q q' t : Nat} {S S' : aS} {C : Nat → Prop} (hT : isT t) (h : dX D q t S) (hf : frZ C S S') (hc : ∀ i, rcX t i → ¬ C i) (hq : q ≤ q') : dX D q' t S' := by
  obtain ⟨h1, h2, h3, h4, h5, ⟨b1, b2, h6, h7, h8, h9⟩, h10, h11⟩ := h
  obtain ⟨e1, e2, e3, e4, e5, -⟩ := rt_c hT
  have g : ∀ i k, t ≤ i → i ≤ t + 11 ∨ i = t + 14 → gi S' i k = gi S i k ∧ ga S' i k = ga S i k ∧ gb S' i k = gb S i k := fun i k a b => by
    have := hf i k (hc i (by unfold rcX; omega))
    exact ⟨this.1, this.2.1, this.2.2.2.1⟩
  refine ⟨h1.keptZ hT hf hc, fun k w a b => ?_, fun v a => ?_, fun k a => ?_, ?_, ⟨b1, b2, ?_, ?_, by omega, by omega⟩, ?_, ?_⟩
  · rw [(g (art t 9) _ (by omega) (by omega)).2.1]; exact h2 k w a b
  · obtain ⟨c, c1, c2⟩ := h3 v a
    exact ⟨c, c1, by rw [(g (art t 10) _ (by omega) (by omega)).2.1]; exact c2⟩
  · rw [(g (art t 2) _ (by omega) (by omega)).2.2]; exact h4 k a
  · rw [(g t _ (by omega) (by omega)).1]; exact h5
  · rw [(g (art t 14) _ (by omega) (by omega)).1]; exact h6
  · rw [(g (art t 15) _ (by omega) (by omega)).1]; exact h7
  · rw [(g (art t 14) _ (by omega) (by omega)).1]; exact h10
  · rw [(g (art t 15) _ (by omega) (by omega)).1]; exact h11
/-- the upper half: where the reference reads a realm -/
def upA (i k : Nat) : Prop := (i = 1002 ∧ 4 ≤ k) ∨ (i = 1005 ∧ 5 ≤ k) ∨ (1006 ≤ i ∧ i ≤ 1009 ∧ 12 ≤ k) ∨ (i = 1010 ∧ 60 ≤ k) ∨ (i = 1011 ∧ 12 ≤ k) ∨ ((i = 1012 ∨ i = 1013) ∧ 2 ≤ k) ∨ (i = 1014 ∧ 1000 ≤ k) ∨ i = 1015 ∨ i = 1016
def upB (i k : Nat) : Prop := i = 1003 ∨ (i = 1004 ∧ 12 ≤ k) ∨ 1014 ≤ i
def upF (k : Nat) : Prop := (3 ≤ k ∧ k ≤ 9) ∨ (23 ≤ k ∧ k ≤ 25) ∨ k = 38 ∨ k = 39
def frU (S S' : aS) : Prop := (∀ i k, ¬ upA i k → ga S' i k = ga S i k) ∧ (∀ i k, ¬ upB i k → gb S' i k = gb S i k) ∧ (∀ k, ¬ upF k → gi S' 1000 k = gi S 1000 k) ∧ ∀ k, ¬ upF k → gl S' 1000 k = gl S 1000 k
theorem frU.rf {S : aS} : frU S S := ⟨fun _ _ _ => rfl, fun _ _ _ => rfl, fun _ _ => rfl, fun _ _ => rfl⟩
theorem frU.tr {S S1 S2 : aS} (h : frU S S1) (g : frU S1 S2) : frU S S2 := ⟨fun i k q => (g.1 i k q).trans (h.1 i k q), fun i k q => (g.2.1 i k q).trans (h.2.1 i k q), fun k q => (g.2.2.1 k q).trans (h.2.2.1 k q), fun k q => (g.2.2.2 k q).trans (h.2.2.2 k q)⟩
theorem frU_tk {S S' : aS} (h : frM noC tkF S S') : frU S S' := ⟨fun i k _ => h.1 i k (fun q => q), fun i k _ => h.2.1 i k (fun q => q), fun k q => h.2.2.1 k (fun c => q (by unfold tkF at c; unfold upF; omega)), fun k q => h.2.2.2 k (fun c => q (by unfold tkF at c; unfold upF; omega))⟩
theorem frU_sa {S : aS} {i k : Nat} {v : Int32} (h : upA i k) : frU S (sa S i k v) := ⟨fun j m q => by rw [ga_sa, if_neg (fun c => q (by rw [c.1, c.2]; exact h))], fun _ _ _ => rfl, fun _ _ => rfl, fun _ _ => rfl⟩
theorem frU_si {S : aS} {k : Nat} {v : Int32} (h : upF k) : frU S (si S 1000 k v) := ⟨fun _ _ _ => rfl, fun _ _ _ => rfl, fun j q => by rw [gi_si, if_neg (fun c => q (by rw [c.2]; exact h))], fun _ _ => rfl⟩
theorem frU_sb {S : aS} {i k : Nat} {v : Int64} (h : upB i k) : frU S (sb S i k v) := ⟨fun _ _ _ => rfl, fun j m q => by rw [gb_sb, if_neg (fun c => q (by rw [c.1, c.2]; exact h))], fun _ _ => rfl, fun _ _ => rfl⟩
theorem frU_sl {S : aS} {k : Nat} {v : Int64} (h : upF k) : frU S (sl S 1000 k v) := ⟨fun _ _ _ => rfl, fun _ _ _ => rfl, fun _ _ => rfl, fun j q => by rw [gl_sl, if_neg (fun c => q (by rw [c.2]; exact h))]⟩
