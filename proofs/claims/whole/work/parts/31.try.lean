/-! first readings -/
theorem wM_within {d : Nat} {Q : Value → aS → Prop} {v a b : Int32} {S : aS} (h : Q (.int (if a ≤ v ∧ v ≤ b then 1 else 0)) S) : aWM (d + 1) 1 [.int v, .int a, .int b] S Q := by
  refine mM_within ⟨fun z => ?_, fun z => ⟨fun y => ?_, fun y => ?_⟩⟩
  · rw [if_neg (fun q => absurd z (Int32.not_lt.mpr q.1))] at h
    exact ⟨Or.inl rfl, h⟩
  · rw [if_neg (fun q => absurd y (Int32.not_lt.mpr q.2))] at h
    exact ⟨Or.inl rfl, h⟩
  · rw [if_pos ⟨Int32.not_lt.mp z, Int32.not_lt.mp y⟩] at h
    exact ⟨Or.inr rfl, h⟩
/-- how many of the first n bits are set -/
def bitN (x : Int32) : Nat → Int32
  | 0 => 0
  | n + 1 => bitN x n + ((x >>> (nI n &&& 31)) &&& 1)
theorem wM_bits {d : Nat} {Q : Value → aS → Prop} {x : Int32} {S : aS} (h : Q (.int (bitN x 12)) S) : aWM (d + 1) 3 [.int x] S Q := by
  refine mM_bits ?_
  have loop : ∀ k n, n + k = 12 → aBM d 3 Q 4 [some (.int x), some (.int (bitN x n)), some (.int (nI n))] [] S := by
    intro k
    induction k with
    | zero =>
      intro n hn
      obtain rfl : n = 12 := by omega
      refine bM_bits_4 ⟨fun _ => h, fun z => absurd (show (12 : Int32) ≤ nI 12 from by decide) z⟩
    | succ k ih =>
      intro n hn
      refine bM_bits_4 ⟨fun z => absurd z ?_, fun _ => ?_⟩
      · exact nI_ge (a := n) (b := 12) (by omega) (by decide)
      · have := ih (n + 1) (by omega)
        rw [← nI_1] at this
        exact this
  exact loop 12 0 rfl
