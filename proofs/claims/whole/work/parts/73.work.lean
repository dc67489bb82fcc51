/-! an E worked out, the reference: what a row of codes does -/
def aR (n dp i j : Nat) : Prop := (1017 ≤ i ∧ i ≤ 1025 ∧ dp < j) ∨ (j = dp ∧ n ≤ i ∧ i ≤ 1024)
def frG (n dp : Nat) (S S' : aS) : Prop := (∀ i j, ¬ aR n dp i j → ga S' i j = ga S i j) ∧ S'.1 = S.1 ∧ S'.2.1 = S.2.1 ∧ S'.2.2.1 = S.2.2.1 ∧ S'.2.2.2.2 = S.2.2.2.2
theorem frG.rf {n dp : Nat} {S : aS} : frG n dp S S := ⟨fun _ _ _ => rfl, rfl, rfl, rfl, rfl⟩
theorem frG.tr {n dp : Nat} {S S1 S2 : aS} (h : frG n dp S S1) (h2 : frG n dp S1 S2) : frG n dp S S2 := ⟨fun i j q => (h2.1 i j q).trans (h.1 i j q), h2.2.1.trans h.2.1, h2.2.2.1.trans h.2.2.1, h2.2.2.2.1.trans h.2.2.2.1, h2.2.2.2.2.trans h.2.2.2.2⟩
theorem frG.le {n n' dp dp' : Nat} {S S' : aS} (h : frG n dp S S') (hq : ∀ i j, aR n dp i j → aR n' dp' i j) : frG n' dp' S S' := ⟨fun i j q => h.1 i j (fun z => q (hq i j z)), h.2⟩
theorem frG_sa {n dp i j : Nat} {S : aS} {v : Int32} (h : aR n dp i j) : frG n dp S (sa S i j v) := by
  refine ⟨fun a b q => ?_, rfl, rfl, rfl, rfl⟩
  rw [ga_sa, if_neg (show ¬ (a = i ∧ b = j) from fun z => q (z.1 ▸ z.2 ▸ h))]
/-- at the head of the loop; a value is at hand -/
def wk (d : Nat) (Q : Value → aS → Prop) (l dp k : Nat) (S : aS) : Prop := aBM d 16 Q 10 [some (.ref 1000), some (.int (nI l)), some (.int (nI dp)), some (.int (nI k)), none, none] [] S
def wv (d : Nat) (Q : Value → aS → Prop) (l dp k : Nat) (v : Int32) (S : aS) : Prop := aBM d 16 Q 143 [some (.ref 1000), some (.int (nI l)), some (.int (nI dp)), some (.int (nI k)), none, some (.int v)] [] S
/-- the sum, the test, the whole value at a depth, as they stand -/
def rS (S : aS) (dp : Nat) : Int32 := if ga S 1022 dp = 21 then ga S 1021 dp - ga S 1023 dp else ga S 1021 dp + ga S 1023 dp
def cmpV (a : Int32) (b s : Int32) : Int32 := if a = 24 then (if b < s then 1 else 0) else if a = 25 then (if b = s then 1 else 0) else s
def joiV (a : Int32) (b s : Int32) : Int32 := if a = 26 then (if ¬ b = 0 ∧ ¬ s = 0 then 1 else 0) else if a = 27 then (if ¬ b = 0 ∨ ¬ s = 0 then 1 else 0) else s
def rT (S : aS) (dp : Nat) : Int32 := cmpV (ga S 1020 dp) (ga S 1019 dp) (rS S dp)
def rK (S : aS) (dp : Nat) : Int32 := joiV (ga S 1018 dp) (ga S 1017 dp) (rT S dp)
section
variable {d : Nat} {Q : Value → aS → Prop} {S : aS} {dp : Nat}
theorem wM_opens (h7 : dp < 7) (h : ∀ S', frG 1018 dp S S' → ga S' 1018 dp = 0 → ga S' 1020 dp = 0 → ga S' 1021 dp = 0 → ga S' 1022 dp = 20 → ga S' 1024 dp = 0 → Q .null S') : aWM (d + 1) 13 [.ref 1000, .int (nI dp)] S Q := by
  have hv : vp_in (nI dp) 7 := nI_in h7 (by decide)
  refine mM_opens ⟨hv, hv, hv, hv, hv, ?_⟩
  rw [nI_clamp (by omega)]
  refine h _ ?_ ?_ ?_ ?_ ?_ ?_
  · exact ((((frG_sa (Or.inr ⟨rfl, by omega, by omega⟩)).tr (frG_sa (Or.inr ⟨rfl, by omega, by omega⟩))).tr (frG_sa (Or.inr ⟨rfl, by omega, by omega⟩))).tr (frG_sa (Or.inr ⟨rfl, by omega, by omega⟩))).tr (frG_sa (Or.inr ⟨rfl, by omega, by omega⟩))
  all_goals simp [ga_sa]
theorem wM_sums (h7 : dp < 7) (h : ∀ S', frG 1021 dp S S' → ga S' 1021 dp = rS S dp → ga S' 1022 dp = ga S 1022 dp → ga S' 1023 dp = ga S 1023 dp → ga S' 1024 dp = 0 → Q .null S') : aWM (d + 1) 14 [.ref 1000, .int (nI dp)] S Q := by
  have hv : vp_in (nI dp) 7 := nI_in h7 (by decide)
  have key : ∀ x, x = rS S dp → Q .null (sa (sa S 1021 dp x) 1024 dp 0) := by
    intro x hx
    refine h _ ((frG_sa (Or.inr ⟨rfl, by omega, by omega⟩)).tr (frG_sa (Or.inr ⟨rfl, by omega, by omega⟩))) ?_ ?_ ?_ ?_
    all_goals simp [ga_sa, hx]
  refine mM_sums ?_
  rw [nI_clamp (by omega)]
  refine ⟨hv, fun c => ⟨hv, hv, hv, hv, key _ ?_⟩, fun c => ⟨hv, hv, hv, hv, key _ ?_⟩⟩
  · unfold rS; rw [if_neg c]
  · unfold rS; rw [if_pos c]
theorem wM_tests (h7 : dp < 7) (h : ∀ S', frG 1017 dp S S' → ga S' 1017 dp = rK S dp → ga S' 1018 dp = ga S 1018 dp → ga S' 1020 dp = 0 → ga S' 1021 dp = 0 → ga S' 1022 dp = 20 → ga S' 1024 dp = 0 → Q .null S') : aWM (d + 2) 15 [.ref 1000, .int (nI dp)] S Q := by
  have hv : vp_in (nI dp) 7 := nI_in h7 (by decide)
  refine mM_tests (wM_sums h7 (fun S1 hf e1 e2 e3 e4 => ?_))
  have f17 : ga S1 1017 dp = ga S 1017 dp := hf.1 _ _ (by unfold aR; omega)
  have f18 : ga S1 1018 dp = ga S 1018 dp := hf.1 _ _ (by unfold aR; omega)
  have f19 : ga S1 1019 dp = ga S 1019 dp := hf.1 _ _ (by unfold aR; omega)
  have f20 : ga S1 1020 dp = ga S 1020 dp := hf.1 _ _ (by unfold aR; omega)
  have hf17 : frG 1017 dp S S1 := hf.le (fun i j q => by unfold aR at q ⊢; omega)
  have k80 : ∀ x, x = rK S dp → aBM (d + 1) 15 Q 80 [some (.ref 1000), some (.int (nI dp)), some (.int x)] [] S1 := by
    intro x hx
    refine bM_tests_80 ⟨hv, hv, hv, hv, ?_⟩
    rw [nI_clamp (by omega)]
    refine h _ ?_ ?_ ?_ ?_ ?_ ?_ ?_
    · exact (((hf17.tr (frG_sa (Or.inr ⟨rfl, by omega, by omega⟩))).tr (frG_sa (Or.inr ⟨rfl, by omega, by omega⟩))).tr (frG_sa (Or.inr ⟨rfl, by omega, by omega⟩))).tr (frG_sa (Or.inr ⟨rfl, by omega, by omega⟩))
    all_goals simp [ga_sa, hx, f18, e4]
  have k63 : ∀ y, (¬ ga S 1018 dp = 26 → y = rT S dp) → (ga S 1018 dp = 26 → y = rK S dp) → aBM (d + 1) 15 Q 63 [some (.ref 1000), some (.int (nI dp)), some (.int y)] [] S1 := by
    intro y hy hy2
    refine bM_tests_63 ?_
    rw [nI_clamp (by omega), f17, f18]
    refine ⟨hv, fun c => k80 _ ?_, fun c => ⟨hv, fun c2 => k80 _ ?_, fun c2 => ⟨fun c3 => k80 _ ?_, fun c3 => k80 _ ?_⟩⟩⟩
    · by_cases c26 : ga S 1018 dp = 26
      · exact hy2 c26
      · rw [hy c26]; unfold rK joiV; rw [if_neg c26, if_neg c]
    all_goals
      have c26 : ¬ ga S 1018 dp = 26 := by rw [c]; decide
      rw [hy c26] at *
      unfold rK joiV
      rw [if_neg c26, if_pos c]
    · rw [if_pos (Or.inl c2)]
    · rw [if_neg (by simp only [not_or, Classical.not_not]; exact ⟨c2, c3⟩)]
    · rw [if_pos (Or.inr c3)]
  have k46 : ∀ x, x = rT S dp → aBM (d + 1) 15 Q 46 [some (.ref 1000), some (.int (nI dp)), some (.int x)] [] S1 := by
    rintro x rfl
    refine bM_tests_46 ?_
    rw [nI_clamp (by omega), f17, f18]
    refine ⟨hv, fun c => k63 _ (fun _ => rfl) (fun q => absurd q c), fun c => ⟨hv, fun c2 => k63 _ (fun q => absurd c q) (fun _ => ?_), fun c2 => ⟨fun c3 => k63 _ (fun q => absurd c q) (fun _ => ?_), fun c3 => k63 _ (fun q => absurd c q) (fun _ => ?_)⟩⟩⟩ <;> (unfold rK joiV; rw [if_pos c])
    · rw [if_neg (fun q => q.1 c2)]
    · rw [if_neg (fun q => q.2 c3)]
    · rw [if_pos ⟨c2, c3⟩]
  have k27 : ∀ y, (¬ ga S 1020 dp = 24 → y = rS S dp) → (ga S 1020 dp = 24 → y = rT S dp) → aBM (d + 1) 15 Q 27 [some (.ref 1000), some (.int (nI dp)), some (.int y)] [] S1 := by
    intro y hy hy2
    refine bM_tests_27 ?_
    rw [nI_clamp (by omega), f20, f19, e1]
    refine ⟨hv, fun c => k46 _ ?_, fun c => ⟨hv, hv, fun c2 => k46 _ ?_, fun c2 => k46 _ ?_⟩⟩
    · by_cases c24 : ga S 1020 dp = 24
      · exact hy2 c24
      · rw [hy c24]; unfold rT cmpV; rw [if_neg c24, if_neg c]
    all_goals
      have c24 : ¬ ga S 1020 dp = 24 := by rw [c]; decide
      unfold rT cmpV
      rw [if_neg c24, if_pos c]
    · rw [if_neg c2]
    · rw [if_pos c2]
  show vp_in (nI dp) 7 ∧ _
  rw [nI_clamp (by omega), f20, f19, e1]
  refine ⟨hv, hv, fun c => k27 _ (fun _ => rfl) (fun q => absurd q c), fun c => ⟨hv, hv, fun c2 => k27 _ (fun q => absurd c q) (fun _ => ?_), fun c2 => k27 _ (fun q => absurd c q) (fun _ => ?_)⟩⟩ <;> (unfold rT cmpV; rw [if_pos c])
  · rw [if_neg (Int32.not_lt.mpr c2)]
  · rw [if_pos (Int32.not_le.mp c2)]
end
