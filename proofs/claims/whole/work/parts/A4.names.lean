/-! names told, found again -/
section
variable {d : Nat} {Q : Value → aS → Prop} {S : aS} {t : Nat} {D : zD} {q : Nat} {l : List Nat}
theorem rt_k {t : Nat} (hT : isT t) : akd t = 6 ∧ akd (art t 2) = 21 ∧ aln (art t 2) = 5 ∧ akd (art t 8) = 21 ∧ aln (art t 8) = 12 := by
  rcases hT with rfl | rfl <;> decide
theorem wX_findWriter (hT : isT t) (ok : okDr D) (h : dX D q t S) (hl : nmS l) (h1 : ∀ k, k < rWr D.1 → D.2.1 k = l → (∀ j, j < k → D.2.1 j ≠ l) → Q (.int (nI k)) S) (h0 : (∀ k, k < rWr D.1 → D.2.1 k ≠ l) → Q (.int (-1)) S) : aWX (d + 1) 64 [.ref t, .long (lN (enc 32 l))] S Q := by
  obtain ⟨k0, k1, k2, -⟩ := rt_k hT
  have hwr := ok.1.1
  refine mX_Realm_findWriter (gK_ok k0 ?_)
  have loop : ∀ n k, k + n = rWr D.1 → (∀ j, j < k → D.2.1 j ≠ l) → aBX d 64 Q 2 [some (.ref t), some (.long (lN (enc 32 l))), none, some (.int (nI k))] [] S := by
    intro n
    induction n with
    | zero =>
      intro k hk hn
      obtain rfl : k = rWr D.1 := by omega
      refine bX_Realm_findWriter_2 (gK_ok k0 ?_)
      rw [h.1.1.1, nI_leI (by omega) (by omega)]
      exact ⟨fun _ => h0 hn, fun c => absurd (Nat.le_refl _) c⟩
    | succ n ih =>
      intro k hk hn
      refine bX_Realm_findWriter_2 (gK_ok k0 ?_)
      rw [h.1.1.1, nI_leI (by omega) (by omega), nI_clamp (by omega), lg_cmp0, h.2.2.2.1 k (by omega), (ok.2.2.1 k (by omega)).eq (by decide) (by decide) hl]
      refine ⟨fun c => absurd c (by omega), fun _ => ⟨fun c => absurd c (nI_ge (b := 5) (by omega) (by decide)), fun _ => gK_ok k0 (gK_ok k1 ⟨nI_in (by omega) (by omega), fun c => ?_, fun c => h1 k (by omega) c hn⟩)⟩⟩
      rw [nI_1]
      refine ih (k + 1) (by omega) (fun j hj => ?_)
      by_cases e : j = k
      · rw [e]; exact c
      · exact hn j (by omega)
  exact loop (rWr D.1) 0 (by omega) (fun j hj => absurd hj (Nat.not_lt_zero _))
theorem nmS_of {r : zR} {w : Nat} (h : okN r) (hw : w < rWd r) : nmS (rNm r w) := h.1 w hw
theorem wX_findWord {r : zR} (hT : isT t) (hr : okR r) (hn : okN r) (h : RX r S t) (hl : nmS l) (h1 : ∀ k, k < rWd r → rNm r k = l → (∀ j, j < k → rNm r j ≠ l) → Q (.int (nI k)) S) (h0 : (∀ k, k < rWd r → rNm r k ≠ l) → Q (.int (-1)) S) : aWX (d + 1) 65 [.ref t, .long (lN (enc 32 l))] S Q := by
  obtain ⟨k0, -, -, k1, k2⟩ := rt_k hT
  have hwr := hr.2.1
  refine mX_Realm_findWord (gK_ok k0 ?_)
  have loop : ∀ n k, k + n = rWd r → (∀ j, j < k → rNm r j ≠ l) → aBX d 65 Q 2 [some (.ref t), some (.long (lN (enc 32 l))), none, some (.int (nI k))] [] S := by
    intro n
    induction n with
    | zero =>
      intro k hk hn
      obtain rfl : k = rWd r := by omega
      refine bX_Realm_findWord_2 (gK_ok k0 ?_)
      rw [h.1.2.1, nI_leI (by omega) (by omega)]
      exact ⟨fun _ => h0 hn, fun c => absurd (Nat.le_refl _) c⟩
    | succ n ih =>
      intro k hk hn2
      refine bX_Realm_findWord_2 (gK_ok k0 ?_)
      rw [h.1.2.1, nI_leI (by omega) (by omega), nI_clamp (by omega), lg_cmp0, h.2.2.2.2 k (by omega), (nmS_of hn (by omega)).eq (by decide) (by decide) hl]
      refine ⟨fun c => absurd c (by omega), fun _ => ⟨fun c => absurd c (nI_ge (b := 12) (by omega) (by decide)), fun _ => gK_ok k0 (gK_ok k1 ⟨nI_in (by omega) (by omega), fun c => ?_, fun c => h1 k (by omega) c hn2⟩)⟩⟩
      rw [nI_1]
      refine ih (k + 1) (by omega) (fun j hj => ?_)
      by_cases e : j = k
      · rw [e]; exact c
      · exact hn2 j (by omega)
  exact loop (rWd r) 0 (by omega) (fun j hj => absurd hj (Nat.not_lt_zero _))
end
