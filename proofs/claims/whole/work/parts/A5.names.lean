/-! names told, found again: the reference -/
section
variable {d : Nat} {Q : Value → aS → Prop} {S : aS} {D : zD} {c : Nat} {l : List Nat}
theorem wM_writerNamed (ok : okDr D) (h : dM D c S) (hl : nmS l) (h7 : gl S 1000 7 = lN (enc 27 l)) (h1 : ∀ k, k < rWr D.1 → D.2.1 k = l → (∀ j, j < k → D.2.1 j ≠ l) → Q (.int (nI k)) S) (h0 : (∀ k, k < rWr D.1 → D.2.1 k ≠ l) → Q (.int (-1)) S) : aWM (d + 1) 18 [.ref 1000] S Q := by
  have hwr := ok.1.1
  refine mM_writerNamed ?_
  have c4 : (4 : Int32).toNatClampNeg = 4 := by decide
  have loop : ∀ n k, k + n = rWr D.1 → (∀ j, j < k → D.2.1 j ≠ l) → aBM d 18 Q 2 [some (.ref 1000), some (.int (nI (5 + k)))] [] S := by
    intro n
    induction n with
    | zero =>
      intro k hk hn
      obtain rfl : k = rWr D.1 := by omega
      refine bM_writerNamed_2 ⟨vin (by decide), ?_⟩
      rw [c4, h.1.1, show (5 : Int32) = nI 5 from rfl, nI_add, nI_leI (by omega) (by omega)]
      exact ⟨fun _ => h0 hn, fun c => absurd (Nat.le_refl _) c⟩
    | succ n ih =>
      intro k hk hn
      refine bM_writerNamed_2 ⟨vin (by decide), ?_⟩
      rw [c4, h.1.1, show (5 : Int32) = nI 5 from rfl, nI_add, nI_leI (by omega) (by omega), nI_clamp (by omega), lg_cmp0, (h.2.1 k (by omega)).2.1, h7, (ok.2.2.1 k (by omega)).eq (by decide) (by decide) hl, nI_subN (by omega), show 5 + k - 5 = k by omega]
      refine ⟨fun c => absurd c (by omega), fun _ => ⟨nI_in (by omega) (by omega), fun c => ?_, fun c => h1 k (by omega) c hn⟩⟩
      rw [nI_1, show 5 + k + 1 = 5 + (k + 1) by omega]
      refine ih (k + 1) (by omega) (fun j hj => ?_)
      by_cases e : j = k
      · rw [e]; exact c
      · exact hn j (by omega)
  exact loop (rWr D.1) 0 (by omega) (fun j hj => absurd hj (Nat.not_lt_zero _))
theorem wM_wordNamed {u n : Nat} {f : Nat → List Nat} (hu : u ≤ 1) (hn : n ≤ 12) (hc : ga S 1002 (4 * u + 1) = nI n) (hf : ∀ k, k < n → nmS (f k)) (hg : ∀ k, k < n → gb S 1004 (12 * u + k) = lN (enc 27 (f k))) (hl : nmS l) (h7 : gl S 1000 7 = lN (enc 27 l)) (h1 : ∀ k, k < n → f k = l → (∀ j, j < k → f j ≠ l) → Q (.int (nI k)) S) (h0 : (∀ k, k < n → f k ≠ l) → Q (.int (-1)) S) : aWM (d + 1) 19 [.ref 1000, .int (nI u)] S Q := by
  refine mM_wordNamed ?_
  have e12 : (12 : Int32) * nI u = nI (12 * u) := by rw [show (12 : Int32) = nI 12 from rfl, nI_mulN]
  have e4 : (4 : Int32) * nI u + 1 = nI (4 * u + 1) := by rw [show (4 : Int32) = nI 4 from rfl, nI_mulN, nI_1]
  rw [e12]
  have loop : ∀ m k, k + m = n → (∀ j, j < k → f j ≠ l) → aBM d 19 Q 4 [some (.ref 1000), some (.int (nI u)), some (.int (nI (12 * u + k)))] [] S := by
    intro m
    induction m with
    | zero =>
      intro k hk hj
      obtain rfl : k = n := by omega
      refine bM_wordNamed_4 ?_
      rw [e4, e12, nI_clamp (show 4 * u + 1 < 2 ^ 31 by omega), hc, nI_add, nI_leI (by omega) (by omega)]
      exact ⟨nI_in (by omega) (by omega), fun _ => h0 hj, fun c => absurd (Nat.le_refl _) c⟩
    | succ m ih =>
      intro k hk hj
      refine bM_wordNamed_4 ?_
      rw [e4, e12, nI_clamp (show 4 * u + 1 < 2 ^ 31 by omega), hc, nI_add, nI_leI (by omega) (by omega), nI_clamp (by omega), lg_cmp0, hg k (by omega), h7, (hf k (by omega)).eq (by decide) (by decide) hl, nI_subN (by omega), show 12 * u + k - 12 * u = k by omega]
      refine ⟨nI_in (by omega) (by omega), fun c => absurd c (by omega), fun _ => ⟨nI_in (by omega) (by omega), fun c => ?_, fun c => h1 k (by omega) c hj⟩⟩
      rw [nI_1, show 12 * u + k + 1 = 12 * u + (k + 1) by omega]
      refine ih (k + 1) (by omega) (fun j hj2 => ?_)
      by_cases e : j = k
      · rw [e]; exact c
      · exact hj j (by omega)
  exact loop n 0 (by omega) (fun j hj => absurd hj (Nat.not_lt_zero _))
end
