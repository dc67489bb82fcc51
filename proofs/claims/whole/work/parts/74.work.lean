/-! an E worked out, the reference: code by code -/
def lnM (S : aS) (l e : Nat) : Prop := l < 4 ∧ ga S 1013 l = nI e ∧ e ≤ 2000
def sPn (S : aS) (dp : Nat) : Prop := ga S 1021 dp = 0 ∧ ga S 1022 dp = 20 ∧ ga S 1024 dp = 0
def tPn (S : aS) (dp : Nat) : Prop := ga S 1020 dp = 0 ∧ sPn S dp
def oPn (S : aS) (dp : Nat) : Prop := ga S 1018 dp = 0 ∧ tPn S dp
def nB (S : aS) (dp : Nat) : Prop := dp = 0 ∨ ¬ ga S 1025 dp = 1
section
variable {d : Nat} {Q : Value → aS → Prop} {S : aS} {dp l k e : Nat} {c v : Int32}
/-- what a code leads to, once the place is known -/
theorem wk_at {X : Prop} (hl : lnM S l e) (hk : k < e) (hx : X → aBM d 16 Q 10 [some (.ref 1000), some (.int (nI l)), some (.int (nI dp)), some (.int (nI k)), none, none] [] S) (x : X) : wk d Q l dp k S := hx x
theorem wv_end (hB : nB S dp) (h7 : dp < 7) (h : ∀ S', frG 1023 dp S S' → ga S' 1023 dp = (if ga S 1024 dp = 0 then v else ga S 1023 dp * v) → wk d Q l dp (k + 1) S') : wv d Q l dp k v S := by
  have hv : vp_in (nI dp) 7 := nI_in h7 (by decide)
  have k159 : aBM d 16 Q 159 [some (.ref 1000), some (.int (nI l)), some (.int (nI dp)), some (.int (nI k)), none, some (.int v)] [] S := by
    refine bM_worked_159 ?_
    rw [nI_clamp (by omega), nI_1]
    refine ⟨hv, fun c => ⟨hv, hv, ?_⟩, fun c => ⟨hv, ?_⟩⟩
    · refine h _ (frG_sa (Or.inr ⟨rfl, by omega, by omega⟩)) ?_
      rw [if_neg c, ga_sa, if_pos ⟨rfl, rfl⟩]
    · refine h _ (frG_sa (Or.inr ⟨rfl, by omega, by omega⟩)) ?_
      rw [if_pos c, ga_sa, if_pos ⟨rfl, rfl⟩]
  refine bM_worked_143 ?_
  rw [nI_le0 (by omega), nI_clamp (by omega)]
  refine ⟨fun _ => k159, fun c1 => ⟨hv, fun _ => k159, fun c2 => ?_⟩⟩
  rcases hB with q | q
  · exact absurd q c1
  · exact absurd c2 q
theorem wv_not (hB : ga S 1025 (dp + 1) = 1) (h7 : dp + 1 < 7) (h : wv d Q l dp k (if v = 0 then 1 else 0) S) : wv d Q l (dp + 1) k v S := by
  have hv : vp_in (nI (dp + 1)) 7 := nI_in h7 (by decide)
  refine bM_worked_143 ?_
  rw [nI_le0 (by omega), nI_clamp (by omega), pk_m1]
  refine ⟨fun q => absurd q (by omega), fun _ => ⟨hv, fun q => absurd hB q, fun _ => ⟨fun c => ?_, fun c => ?_⟩⟩⟩
  · rw [if_neg c] at h
    exact h
  · rw [if_pos c] at h
    exact h
theorem wk_20 (hl : lnM S l e) (hk : k < e) (h7 : dp < 7) (hc : ga S 1014 k = c) (hcc : c = 20 ∨ c = 21) (h : ∀ S', frG 1021 dp S S' → ga S' 1021 dp = rS S dp → ga S' 1022 dp = c → ga S' 1024 dp = 0 → wk (d + 1) Q l dp (k + 1) S') : wk (d + 1) Q l dp k S := by
  have hv : vp_in (nI dp) 7 := nI_in h7 (by decide)
  obtain ⟨l1, l2, l3⟩ := hl
  refine bM_worked_10 ?_
  rw [nI_clamp (show l < 2 ^ 31 by omega), nI_clamp (show k < 2 ^ 31 by omega), l2, hc]
  refine ⟨nI_in (by omega) (by decide), fun q => absurd q (nI_ge hk (by omega)), fun _ => ⟨nI_in (by omega) (by decide), ?_⟩⟩
  have fin : aWM (d + 1) 14 [.ref 1000, .int (nI dp)] S (fun v3 S4 => aV v3 (vp_in (nI dp) 7 ∧ (aBM (d + 1) 16 Q 10 [some (.ref 1000), some (.int (nI l)), some (.int (nI dp)), some (.int (nI k + (1 : Int32))), none, none] [] (sa S4 1022 (nI dp).toNatClampNeg c)))) := by
    refine wM_sums h7 (fun S1 hf e1 e2 e3 e4 => ⟨hv, ?_⟩)
    rw [nI_clamp (by omega), nI_1]
    refine h _ (hf.tr (frG_sa (Or.inr ⟨rfl, by omega, by omega⟩))) ?_ ?_ ?_
    all_goals simp [ga_sa, e1, e4]
  rcases hcc with rfl | rfl <;> simp (decide := true) only [false_implies, not_false_eq_true, true_implies, true_and, and_true, not_true_eq_false] <;> exact fin
theorem wk_22 (hl : lnM S l e) (hk : k < e) (h7 : dp < 7) (hc : ga S 1014 k = 22) (h : ∀ S', frG 1023 dp S S' → ga S' 1023 dp = ga S 1023 dp → ga S' 1024 dp = 22 → wk d Q l dp (k + 1) S') : wk d Q l dp k S := by
  have hv : vp_in (nI dp) 7 := nI_in h7 (by decide)
  obtain ⟨l1, l2, l3⟩ := hl
  refine bM_worked_10 ?_
  rw [nI_clamp (show l < 2 ^ 31 by omega), nI_clamp (show k < 2 ^ 31 by omega), l2, hc]
  refine ⟨nI_in (by omega) (by decide), fun q => absurd q (nI_ge hk (by omega)), fun _ => ⟨nI_in (by omega) (by decide), ?_⟩⟩
  simp (decide := true) only [false_implies, not_false_eq_true, true_implies, true_and, and_true, not_true_eq_false]
  refine ⟨hv, ?_⟩
  rw [nI_clamp (by omega), nI_1]
  refine h _ (frG_sa (Or.inr ⟨rfl, by omega, by omega⟩)) ?_ ?_
  all_goals simp [ga_sa]
theorem wk_24 (hl : lnM S l e) (hk : k < e) (h7 : dp < 7) (hc : ga S 1014 k = c) (hcc : c = 24 ∨ c = 25) (h : ∀ S', frG 1019 dp S S' → ga S' 1019 dp = rS S dp → ga S' 1020 dp = c → sPn S' dp → wk (d + 1) Q l dp (k + 1) S') : wk (d + 1) Q l dp k S := by
  have hv : vp_in (nI dp) 7 := nI_in h7 (by decide)
  obtain ⟨l1, l2, l3⟩ := hl
  refine bM_worked_10 ?_
  rw [nI_clamp (show l < 2 ^ 31 by omega), nI_clamp (show k < 2 ^ 31 by omega), l2, hc]
  refine ⟨nI_in (by omega) (by decide), fun q => absurd q (nI_ge hk (by omega)), fun _ => ⟨nI_in (by omega) (by decide), ?_⟩⟩
  have fin : aBM (d + 1) 16 Q 72 [some (.ref 1000), some (.int (nI l)), some (.int (nI dp)), some (.int (nI k)), some (.int c), none] [] S := by
    refine bM_worked_72 (wM_sums h7 (fun S1 hf e1 e2 e3 e4 => ⟨hv, hv, hv, hv, hv, ?_⟩))
    rw [nI_clamp (by omega), nI_1]
    have hf' : frG 1019 dp S S1 := hf.le (fun i j q => by unfold aR at q ⊢; omega)
    refine h _ ((((hf'.tr (frG_sa (Or.inr ⟨rfl, by omega, by omega⟩))).tr (frG_sa (Or.inr ⟨rfl, by omega, by omega⟩))).tr (frG_sa (Or.inr ⟨rfl, by omega, by omega⟩))).tr (frG_sa (Or.inr ⟨rfl, by omega, by omega⟩))) ?_ ?_ ⟨?_, ?_, ?_⟩
    all_goals simp [ga_sa, e1, e4]
  rcases hcc with rfl | rfl <;> simp (decide := true) only [false_implies, not_false_eq_true, true_implies, true_and, and_true, not_true_eq_false] <;> exact fin
theorem wk_26 (hl : lnM S l e) (hk : k < e) (h7 : dp < 7) (hc : ga S 1014 k = c) (hcc : c = 26 ∨ c = 27) (h : ∀ S', frG 1017 dp S S' → ga S' 1017 dp = rK S dp → ga S' 1018 dp = c → tPn S' dp → wk (d + 2) Q l dp (k + 1) S') : wk (d + 2) Q l dp k S := by
  have hv : vp_in (nI dp) 7 := nI_in h7 (by decide)
  obtain ⟨l1, l2, l3⟩ := hl
  refine bM_worked_10 ?_
  rw [nI_clamp (show l < 2 ^ 31 by omega), nI_clamp (show k < 2 ^ 31 by omega), l2, hc]
  refine ⟨nI_in (by omega) (by decide), fun q => absurd q (nI_ge hk (by omega)), fun _ => ⟨nI_in (by omega) (by decide), ?_⟩⟩
  have fin : aWM (d + 2) 15 [.ref 1000, .int (nI dp)] S (fun v5 S6 => aV v5 (vp_in (nI dp) 7 ∧ (aBM (d + 2) 16 Q 10 [some (.ref 1000), some (.int (nI l)), some (.int (nI dp)), some (.int (nI k + (1 : Int32))), none, none] [] (sa S6 1018 (nI dp).toNatClampNeg c)))) := by
    refine wM_tests h7 (fun S1 hf e1 e2 e3 e4 e5 e6 => ⟨hv, ?_⟩)
    rw [nI_clamp (by omega), nI_1]
    refine h _ (hf.tr (frG_sa (Or.inr ⟨rfl, by omega, by omega⟩))) ?_ ?_ ⟨?_, ?_, ?_, ?_⟩
    all_goals simp [ga_sa, e1, e3, e4, e5, e6]
  rcases hcc with rfl | rfl <;> simp (decide := true) only [false_implies, not_false_eq_true, true_implies, true_and, and_true, not_true_eq_false] <;> exact fin
theorem code100 : ∀ n, n ≤ 9999 → ¬ nI (100 + n) < 100 ∧ nI (100 + n) - 100 = nI n ∧ ¬ nI (100 + n) = 28 ∧ ¬ nI (100 + n) = 30 ∧ ¬ nI (100 + n) = 20 ∧ ¬ nI (100 + n) = 21 ∧ ¬ nI (100 + n) = 22 ∧ ¬ nI (100 + n) = 24 ∧ ¬ nI (100 + n) = 25 ∧ ¬ nI (100 + n) = 26 ∧ ¬ nI (100 + n) = 27 ∧ ¬ nI (100 + n) = 29 := by
  intro n hn
  have hne : ∀ m, m < 100 → ¬ nI (100 + n) = nI m := fun m hm q => by rw [nI_eq (by omega) (by omega)] at q; omega
  refine ⟨nI_nlt (a := 100 + n) (b := 100) (by omega) (by omega), ?_, hne 28 (by decide), hne 30 (by decide), hne 20 (by decide), hne 21 (by decide), hne 22 (by decide), hne 24 (by decide), hne 25 (by decide), hne 26 (by decide), hne 27 (by decide), hne 29 (by decide)⟩
  rw [show (100 : Int32) = nI 100 from rfl, nI_subN (by omega), show 100 + n - 100 = n by omega]
theorem wk_num {n : Nat} (hl : lnM S l e) (hk : k < e) (hn : n ≤ 9999) (hc : ga S 1014 k = nI (100 + n)) (h : wv d Q l dp k (nI n) S) : wk d Q l dp k S := by
  obtain ⟨l1, l2, l3⟩ := hl
  obtain ⟨c1, c2, c3, c4, c5, c6, c7, c8, c9, c10, c11, c12⟩ := code100 n hn
  refine bM_worked_10 ?_
  rw [nI_clamp (show l < 2 ^ 31 by omega), nI_clamp (show k < 2 ^ 31 by omega), l2, hc]
  refine ⟨nI_in (by omega) (by decide), fun q => absurd q (nI_ge hk (by omega)), fun _ => ⟨nI_in (by omega) (by decide), ?_⟩⟩
  simp only [c1, c2, c3, c4, c5, c6, c7, c8, c9, c10, c11, c12, false_implies, not_false_eq_true, true_implies, true_and, and_true, not_true_eq_false]
  exact h
theorem wk_fact {n : Nat} (hl : lnM S l e) (hk : k < e) (hn : n < 20) (hc : ga S 1014 k = nI n) (h : wv d Q l dp k (ga S 1026 n) S) : wk d Q l dp k S := by
  obtain ⟨l1, l2, l3⟩ := hl
  have hne : ∀ m, 20 ≤ m → m < 100 → ¬ nI n = nI m := fun m hm hm2 q => by rw [nI_eq (by omega) (by omega)] at q; omega
  have c1 : nI n < 100 := nI_lt (a := n) (b := 100) (by omega) (by decide)
  have c2 : ¬ (20 : Int32) ≤ nI n := nI_ge (a := n) (b := 20) hn (by decide)
  have c3 : ¬ nI n = 28 := hne 28 (by decide) (by decide)
  have c4 : ¬ nI n = 30 := hne 30 (by decide) (by decide)
  have c5 : ¬ nI n = 20 := hne 20 (by decide) (by decide)
  have c6 : ¬ nI n = 21 := hne 21 (by decide) (by decide)
  have c7 : ¬ nI n = 22 := hne 22 (by decide) (by decide)
  have c8 : ¬ nI n = 24 := hne 24 (by decide) (by decide)
  have c9 : ¬ nI n = 25 := hne 25 (by decide) (by decide)
  have c10 : ¬ nI n = 26 := hne 26 (by decide) (by decide)
  have c11 : ¬ nI n = 27 := hne 27 (by decide) (by decide)
  have c12 : ¬ nI n = 29 := hne 29 (by decide) (by decide)
  refine bM_worked_10 ?_
  rw [nI_clamp (show l < 2 ^ 31 by omega), nI_clamp (show k < 2 ^ 31 by omega), l2, hc]
  refine ⟨nI_in (by omega) (by decide), fun q => absurd q (nI_ge hk (by omega)), fun _ => ⟨nI_in (by omega) (by decide), ?_⟩⟩
  simp only [c1, c2, c3, c4, c5, c6, c7, c8, c9, c10, c11, c12, nI_clamp (show n < 2 ^ 31 by omega), false_implies, not_false_eq_true, true_implies, true_and, and_true, not_true_eq_false]
  exact ⟨nI_in (by omega) (by decide), h⟩
theorem wk_29 (hl : lnM S l e) (hk : k < e) (h7 : dp + 1 < 7) (hc : ga S 1014 k = 29) (h : ∀ S', frG 1017 (dp + 1) S S' → wv (d + 2) Q l dp k (rK S (dp + 1)) S') : wk (d + 2) Q l (dp + 1) k S := by
  have hv : vp_in (nI (dp + 1)) 7 := nI_in h7 (by decide)
  obtain ⟨l1, l2, l3⟩ := hl
  refine bM_worked_10 ?_
  rw [nI_clamp (show l < 2 ^ 31 by omega), nI_clamp (show k < 2 ^ 31 by omega), l2, hc]
  refine ⟨nI_in (by omega) (by decide), fun q => absurd q (nI_ge hk (by omega)), fun _ => ⟨nI_in (by omega) (by decide), ?_⟩⟩
  simp (decide := true) only [false_implies, not_false_eq_true, true_implies, true_and, and_true, not_true_eq_false]
  refine wM_tests h7 (fun S1 hf e1 e2 e3 e4 e5 e6 => ⟨hv, ?_⟩)
  rw [nI_clamp (by omega), pk_m1, e1]
  exact h S1 hf
theorem wk_28 {b : Int32} (hl : lnM S l e) (hk : k < e) (h7 : dp + 1 < 7) (hc : ga S 1014 k = c) (hcc : (c = 28 ∧ b = 0) ∨ (c = 30 ∧ b = 1)) (h : ∀ S', frG 1025 dp S S' → ga S' 1025 (dp + 1) = b → oPn S' (dp + 1) → wk (d + 1) Q l (dp + 1) (k + 1) S') : wk (d + 1) Q l dp k S := by
  have hv : vp_in (nI (dp + 1)) 7 := nI_in h7 (by decide)
  obtain ⟨l1, l2, l3⟩ := hl
  have fin : aBM (d + 1) 16 Q 27 [some (.ref 1000), some (.int (nI l)), some (.int (nI dp)), some (.int (nI k)), some (.int c), none] [] S := by
    refine bM_worked_27 ?_
    rw [nI_1, nI_1, nI_clamp (by omega)]
    have go : ∀ b', b' = b → aWM (d + 1) 13 [.ref 1000, .int (nI (dp + 1))] (sa S 1025 (dp + 1) b') (fun v1 S2 => aV v1 (aBM (d + 1) 16 Q 10 [some (.ref 1000), some (.int (nI l)), some (.int (nI (dp + 1))), some (.int (nI (k + 1))), none, none] [] S2)) := by
      rintro b' rfl
      refine wM_opens h7 (fun S1 hf e1 e2 e3 e4 e5 => ?_)
      have h0 : frG 1025 dp S (sa S 1025 (dp + 1) b') := frG_sa (Or.inl ⟨by omega, by omega, by omega⟩)
      refine h S1 (h0.tr (hf.le (fun i j q => by unfold aR at q ⊢; omega))) ?_ ⟨e1, e2, e3, e4, e5⟩
      rw [hf.1 _ _ (by unfold aR; omega), ga_sa, if_pos ⟨rfl, rfl⟩]
    rcases hcc with ⟨rfl, rfl⟩ | ⟨rfl, rfl⟩
    · exact ⟨fun _ => ⟨hv, go 0 rfl⟩, fun q => absurd q (by decide)⟩
    · exact ⟨fun q => absurd rfl q, fun _ => ⟨hv, go 1 rfl⟩⟩
  refine bM_worked_10 ?_
  rw [nI_clamp (show l < 2 ^ 31 by omega), nI_clamp (show k < 2 ^ 31 by omega), l2, hc]
  refine ⟨nI_in (by omega) (by decide), fun q => absurd q (nI_ge hk (by omega)), fun _ => ⟨nI_in (by omega) (by decide), ?_⟩⟩
  rcases hcc with ⟨rfl, rfl⟩ | ⟨rfl, rfl⟩ <;> simp (decide := true) only [false_implies, not_false_eq_true, true_implies, true_and, and_true, not_true_eq_false] <;> exact fin
end
