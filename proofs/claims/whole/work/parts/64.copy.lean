/-! a Standing copied to another; what stays -/
def frX (C : Nat → Prop) (S S' : aS) : Prop := (∀ i k, ¬ C i → gi S' i k = gi S i k ∧ ga S' i k = ga S i k) ∧ S'.2.1 = S.2.1 ∧ S'.2.2.1 = S.2.2.1 ∧ S'.2.2.2.2 = S.2.2.2.2
theorem frX.rf {C : Nat → Prop} {S : aS} : frX C S S := ⟨fun _ _ _ => ⟨rfl, rfl⟩, rfl, rfl, rfl⟩
theorem frX.tr {C : Nat → Prop} {S S1 S2 : aS} (h : frX C S S1) (h2 : frX C S1 S2) : frX C S S2 := ⟨fun i k hi => ⟨(h2.1 i k hi).1.trans (h.1 i k hi).1, (h2.1 i k hi).2.trans (h.1 i k hi).2⟩, h2.2.1.trans h.2.1, h2.2.2.1.trans h.2.2.1, h2.2.2.2.trans h.2.2.2⟩
theorem frX.le {C C' : Nat → Prop} {S S' : aS} (h : frX C S S') (hc : ∀ i, C i → C' i) : frX C' S S' := ⟨fun i k hi => h.1 i k (fun z => hi (hc i z)), h.2⟩
theorem frX_si {C : Nat → Prop} {S : aS} {i k : Nat} {v : Int32} (h : C i) : frX C S (si S i k v) := by
  refine ⟨fun j m hj => ⟨?_, rfl⟩, rfl, rfl, rfl⟩
  rw [gi_si, if_neg (show ¬ (j = i ∧ m = k) from fun q => hj (q.1 ▸ h))]
theorem frX_sa {C : Nat → Prop} {S : aS} {i k : Nat} {v : Int32} (h : C i) : frX C S (sa S i k v) := by
  refine ⟨fun j m hj => ⟨rfl, ?_⟩, rfl, rfl, rfl⟩
  rw [ga_sa, if_neg (show ¬ (j = i ∧ m = k) from fun q => hj (q.1 ▸ h))]
theorem ga_scp (S : aS) (x y n : Nat) (i k : Nat) : ga (scp S x 0 y 0 (nI n)) i k = if i = y then (if k < (nI n).toNatClampNeg then ga S x k else ga S y k) else ga S i k := by
  unfold ga scp va_up va_cpy
  dsimp only
  by_cases h : i = y
  · subst h
    rw [if_pos rfl, if_pos rfl]
    have e0 : (0 : Int32).toNatClampNeg = 0 := by decide
    rw [e0]
    by_cases h2 : k < (nI n).toNatClampNeg
    · rw [if_pos h2, if_pos ⟨Nat.zero_le _, by omega⟩, Nat.zero_add, Nat.sub_zero]
    · rw [if_neg h2, if_neg (by omega)]
  · rw [if_neg h, if_neg h]
theorem frX_scp {C : Nat → Prop} {S : aS} {x y : Nat} {a b n : Int32} (h : C y) : frX C S (scp S x a y b n) := by
  refine ⟨fun j m hj => ⟨rfl, ?_⟩, rfl, rfl, rfl⟩
  unfold ga scp va_up
  dsimp only
  rw [if_neg (show ¬ j = y from fun q => hj (q ▸ h))]
/-- the cells of a Standing -/
def stC (t i : Nat) : Prop := i = t ∨ i = art t 0 ∨ i = art t 1 ∨ i = art t 2
/-- two Standings apart -/
def stD (t p : Nat) : Prop := ¬ stC t p ∧ ¬ stC t (art p 0) ∧ ¬ stC t (art p 1) ∧ ¬ stC t (art p 2) ∧ art t 0 ≠ art t 1 ∧ art t 0 ≠ art t 2 ∧ art t 1 ≠ art t 2
theorem stX.kept {r : zR} {z : zS} {S S' : aS} {t : Nat} {C : Nat → Prop} (h : stX r z S t) (hf : frX C S S') (hc : ∀ i, stC t i → ¬ C i) : stX r z S' t := by
  have g : ∀ k, gi S' t k = gi S t k := fun k => (hf.1 t k (hc t (Or.inl rfl))).1
  have a0 : ∀ k, ga S' (art t 0) k = ga S (art t 0) k := fun k => (hf.1 _ k (hc _ (Or.inr (Or.inl rfl)))).2
  have a1 : ∀ k, ga S' (art t 1) k = ga S (art t 1) k := fun k => (hf.1 _ k (hc _ (Or.inr (Or.inr (Or.inl rfl))))).2
  have a2 : ∀ k, ga S' (art t 2) k = ga S (art t 2) k := fun k => (hf.1 _ k (hc _ (Or.inr (Or.inr (Or.inr rfl))))).2
  unfold stX
  simp only [g, a0, a1, a2]
  exact h
section
variable {d : Nat} {Q : Value → aS → Prop} {S : aS} {t p0 : Nat} {r : zR} {z : zS}
theorem acp_ok {x y n : Nat} (hy : akd y = 20) (hx : n ≤ aln x) (hy2 : n ≤ aln y) (hn : n < 2 ^ 31) : acpG x 0 y 0 (nI n) := by
  have e0 : (0 : Int32).toNatClampNeg = 0 := by decide
  refine ⟨hy, by decide, by decide, nI_pos hn, ?_, ?_⟩ <;> rw [e0, nI_clamp hn, Nat.zero_add] <;> assumption
theorem wX_copyFrom (hr : okR r) (hz : okZ r z) (ht : isSt t) (hp : isSt p0) (hd : stD t p0) (hs : stX r z S p0) (h : ∀ S', frX (stC t) S S' → stX r z S' t → Q .null S') : aWX (d + 1) 84 [.ref t, .ref p0] S Q := by
  obtain ⟨k1, k2, k3, k4, k5, k6, k7⟩ := ht
  obtain ⟨q1, q2, q3, q4, q5, q6, q7⟩ := hp
  obtain ⟨d1, d2, d3, d4, d5, d6, d7⟩ := hd
  have hw := hr.2.1
  have hwr := hz.2.1
  have hfo := hr.2.2.1.2
  have hsp := hz.2.2.1
  refine mX_Standing_copyFrom (gK_ok k1 (gK_ok q1 (gK_ok k1 (gK_ok q2 ⟨acp_ok (n := 12) k2 (by omega) (by omega) (by decide), ?_⟩))))
  refine bX_Standing_copyFrom_8 (gK_ok q1 (gK_ok k1 (gK_ok q3 ⟨acp_ok (n := 4) k3 (by omega) (by omega) (by decide), ?_⟩)))
  refine bX_Standing_copyFrom_16 (gK_ok q1 (gK_ok k1 (gK_ok q4 ⟨acp_ok (n := 40) k4 (by omega) (by omega) (by decide), ?_⟩)))
  refine bX_Standing_copyFrom_24 (gK_ok q1 (gK_ok k1 (gK_ok q1 (gK_ok k1 (gK_ok q1 (gK_ok k1 (gK_ok q1 (gK_ok k1 ?_))))))))
  have hne : p0 ≠ t := fun q => d1 (Or.inl q)
  refine h _ ?_ ?_
  · exact frX.tr (frX.tr (frX.tr (frX.tr (frX.tr (frX.tr (frX_scp (Or.inr (Or.inl rfl))) (frX_scp (Or.inr (Or.inr (Or.inl rfl))))) (frX_scp (Or.inr (Or.inr (Or.inr rfl))))) (frX_si (Or.inl rfl))) (frX_si (Or.inl rfl))) (frX_si (Or.inl rfl))) (frX_si (Or.inl rfl))
  · have n0 : art p0 0 ≠ art t 0 := fun q => d2 (Or.inr (Or.inl q))
    have n1 : art p0 1 ≠ art t 0 := fun q => d3 (Or.inr (Or.inl q))
    have n2 : art p0 1 ≠ art t 1 := fun q => d3 (Or.inr (Or.inr (Or.inl q)))
    have n3 : art p0 2 ≠ art t 0 := fun q => d4 (Or.inr (Or.inl q))
    have n4 : art p0 2 ≠ art t 1 := fun q => d4 (Or.inr (Or.inr (Or.inl q)))
    have gs : ∀ k, gi (scp (scp (scp S (art p0 0) 0 (art t 0) 0 12) (art p0 1) 0 (art t 1) 0 4) (art p0 2) 0 (art t 2) 0 40) p0 k = gi S p0 k := fun _ => rfl
    have e12 : (12 : Int32) = nI 12 := rfl
    have e4 : (4 : Int32) = nI 4 := rfl
    have e40 : (40 : Int32) = nI 40 := rfl
    have f12 : (nI 12).toNatClampNeg = 12 := by decide
    have f4 : (nI 4).toNatClampNeg = 4 := by decide
    have f40 : (nI 40).toNatClampNeg = 40 := by decide
    obtain ⟨s1, s2, s3, s4, s5, s6, s7⟩ := hs
    refine ⟨?_, ?_, ?_, ?_, fun f hf => ?_, fun w hw' => ?_, fun k f hk hf => ?_⟩
    · simp [gi_si, hne, gs, s1]
    · simp [gi_si, hne, gs, s2]
    · simp [gi_si, hne, gs, s3]
    · simp [gi_si, hne, gs, s4]
    · simp only [ga_si, e12, e4, e40, ga_scp, f12, f4, f40, if_neg d7, if_neg n1, if_pos, show f < 4 by omega]
      exact s5 f hf
    · simp only [ga_si, e12, e4, e40, ga_scp, f12, f4, f40, if_neg d6, if_neg d5, if_pos, show w < 12 by omega]
      exact s6 w hw'
    · simp only [ga_si, e12, e4, e40, ga_scp, f12, f4, f40, if_neg n3, if_neg n4, if_pos, show 4 * k + f < 40 by omega]
      exact s7 k f hk hf
end
