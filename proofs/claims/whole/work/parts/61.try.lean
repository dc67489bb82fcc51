/-! trial -/
theorem wX_stripAt2 {d : Nat} {Q : Value → aS → Prop} {f : Int32} {t : Nat} {S : aS} {r : zR} {z : zS} (hr : okR r) (hz : okZ r z) (ht : isSt t) (hs : stX r z S t) (h : Q (.int (pStrip z f)) S) : aWX (d + 1) 85 [.ref t, .int f] S Q := by
  have hwr : zWr z < 4 := Nat.lt_of_lt_of_le hz.2.1 hr.2.2.1.2
  obtain ⟨k1, k2, k3, k4, k5, k6, k7⟩ := ht
  obtain ⟨s1, s2, s3, s4, s5, s6, s7⟩ := hs
  refine mX_Standing_stripAt ?_
  simp only [aG, gK, k1, k3, s2, Nat.beq_refl, cond_true]
  unfold pStrip at h
  by_cases c1 : f < 0
  · simp only [c1, if_pos, not_true, false_implies, true_implies, and_true] at h ⊢
    exact h
  · by_cases c2 : nI (zWr z) ≤ f
    · simp only [c1, c2, if_false, if_true, not_true, not_false_eq_true, false_implies, true_implies, and_true, true_and] at h ⊢
      exact h
    · obtain ⟨j, hj, rfl, hc⟩ := nI_get (by omega) c1 c2
      have c3 : ¬ (4 : Int32) ≤ nI j := nI_ge (a := j) (b := 4) (by omega) (by decide)
      simp only [c1, c2, c3, if_false, not_false_eq_true, false_implies, true_implies, and_true, true_and, k6, hc, s5 j hj] at h ⊢
      exact ⟨nI_in (by omega) (by decide), h⟩
