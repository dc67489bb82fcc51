/-! a number wanted, a name wanted: the class -/
section
variable {d : Nat} {Q : Value → aS → Prop} {S : aS} {tp : List Nat} {q : Nat}
theorem wX_isNumber {a b : Nat} (ht : okT tp) (hs : tkX tp q S) (hl : plT tp q) (ha : a < 100) (hb : b < 100) (h1 : srT tp q = 2 → a ≤ nvT tp q → nvT tp q ≤ b → Q (.int 1) S) (h4 : srT tp q = 2 → ¬ (a ≤ nvT tp q ∧ nvT tp q ≤ b) → Q (.int 0) (si S 1 7 (4 + 16 * nI q))) (h0 : ¬ srT tp q = 2 → Q (.int 0) (si S 1 7 (1 + 16 * nI q))) : aWX (d + 2) 54 [.ref 3, .int (nI a), .int (nI b)] S Q := by
  refine mX_Reader_isNumber (wX_is (k := 2) hs (by decide) ?_)
  by_cases c : srT tp q = 2
  · have hn := nvT_le hl.1 c
    have f4 : ¬ (a ≤ nvT tp q ∧ nvT tp q ≤ b) → aBX (d + 1) 54 Q 23 [some (.ref 3), none, none, none] [.int 0] S := fun cc => bX_Reader_isNumber_23 ⟨fun q => absurd rfl q, fun _ => wX_fail hs ⟨fun _ => ⟨Or.inl rfl, h4 c cc⟩, fun q => absurd rfl q⟩⟩
    rw [decide_eq_true c, hs.2.2.2.2.1 c, nI_ltI (by omega) (by omega), nI_ltI (by omega) (by omega)]
    refine ⟨fun _ => ⟨fun c1 => f4 (by omega), fun c1 => ⟨fun c2 => f4 (by omega), fun c2 => bX_Reader_isNumber_23 ⟨fun _ => ⟨Or.inr rfl, h1 c (by omega) (by omega)⟩, fun q => absurd q (by decide)⟩⟩⟩, fun q => absurd q (by decide)⟩
  · rw [decide_eq_false c]
    exact ⟨fun q => absurd rfl q, fun _ => wX_fail hs ⟨Or.inl rfl, h0 c⟩⟩
theorem wX_failAtName (hs : tkX tp q S) (h2 : srT tp q = 3 → Q (.int 0) (si S 1 7 (2 + 16 * nI q))) (h1 : ¬ srT tp q = 3 → Q (.int 0) (si S 1 7 (1 + 16 * nI q))) : aWX (d + 2) 52 [.ref 3] S Q := by
  refine mX_Reader_failAtName (wX_is (k := 3) hs (by decide) ?_)
  by_cases c : srT tp q = 3
  · rw [decide_eq_true c]
    exact ⟨fun q => absurd q (by decide), fun _ => wX_fail hs ⟨Or.inl rfl, h2 c⟩⟩
  · rw [decide_eq_false c]
    exact ⟨fun _ => wX_fail hs ⟨Or.inl rfl, h1 c⟩, fun q => absurd rfl q⟩
end
