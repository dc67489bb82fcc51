/-! what both sides answer of a token -/
section
variable {d : Nat} {Q : Value → aS → Prop} {S : aS} {tp : List Nat} {q : Nat}
def wW (s : Nat) : Int64 := lN (enc 27 (wlS s))
theorem wM_isWord {k : Nat} {w : Int64} (ht : okT tp) (hs : tkM tp q S) (hl : q ≤ tp.length) (h4 : 4 ≤ k) (h25 : k < 25) (hw : w = wW (2200 + k)) (h : Q (.int (bT (decide (srT tp q = k)))) S) : aWM (d + 1) 7 [.ref 1000, .long w] S Q := by
  have hwd := isWd_k k h25 h4
  have h6 : toT tp q < 5 := by
    unfold toT
    repeat' split
    all_goals decide
  refine mM_isWord ?_
  rw [hs.2.2.2.1, show (1 : Int32) = nI 1 from rfl, nI_eq (by omega) (by decide)]
  refine ⟨fun c => ⟨Or.inl rfl, ?_⟩, fun c => ?_⟩
  · rw [decide_eq_false (fun e => c (word_toT ht hwd hl ((srT_k hl h4 (by omega)).mp e)))] at h
    exact h
  · rw [lg_cmp0, hs.2.2.2.2.1 c, hw]
    unfold wW
    rw [toT_word hwd c]
    refine ⟨fun c2 => ⟨Or.inl rfl, ?_⟩, fun c2 => ⟨Or.inr rfl, ?_⟩⟩
    · rw [decide_eq_false (fun e => c2 ((srT_k hl h4 (by omega)).mp e))] at h
      exact h
    · rw [decide_eq_true ((srT_k hl h4 (by omega)).mpr c2)] at h
      exact h
theorem wM_isSign {k : Nat} {w : Int32} (ht : okT tp) (hs : tkM tp q S) (hl : q ≤ tp.length) (h25 : 25 ≤ k) (h33 : k < 33) (hw : w = nI (sgK k)) (h : Q (.int (bT (decide (srT tp q = k)))) S) : aWM (d + 1) 8 [.ref 1000, .int w] S Q := by
  have h1 := ht.1
  have h6 : toT tp q < 5 := by
    unfold toT
    repeat' split
    all_goals decide
  have hk : sgK k < 128 := (show ∀ k, k < 33 → sgK k < 128 by decide +kernel) k h33
  have hle := @sg_le tp q ht
  refine mM_isSign ?_
  rw [hs.2.2.2.1, show (3 : Int32) = nI 3 from rfl, nI_eq (by omega) (by decide)]
  refine ⟨fun c => ⟨Or.inl rfl, ?_⟩, fun c => ?_⟩
  · rw [decide_eq_false (fun e => c ((srT_s ht hl h25 h33).mp e).1)] at h
    exact h
  · have hq : q < tp.length := by
      refine Decidable.byContradiction (fun c2 => ?_)
      unfold toT at c
      rw [if_neg c2] at c
      cases c
    rw [hs.2.1, nI_clamp (by omega), hs.1.2 q hq, hw, nI_eq (by omega) (by omega)]
    refine ⟨nI_in (by omega) (by omega), fun c2 => ⟨Or.inl rfl, ?_⟩, fun c2 => ⟨Or.inr rfl, ?_⟩⟩
    · rw [decide_eq_false (fun e => c2 ((srT_s ht hl h25 h33).mp e).2)] at h
      exact h
    · rw [decide_eq_true ((srT_s ht hl h25 h33).mpr ⟨c, c2⟩)] at h
      exact h
theorem kc {g c : Int64} {s : Nat} {A X : Prop} (hc : c = wW s) (hA : g = wW s → A) (hX : g ≠ wW s → X) : (lg_cmp g c = 0 → A) ∧ (¬ lg_cmp g c = 0 → X) := by
  rw [lg_cmp0, hc]
  exact ⟨hA, hX⟩
theorem kc2 {g c : Int64} {s : Nat} {A X : Prop} (hc : c = wW s) (hA : g = wW s → A) (hX : g ≠ wW s → X) : (¬ lg_cmp g c = 0 → X) ∧ (lg_cmp g c = 0 → A) := by
  rw [lg_cmp0, hc]
  exact ⟨hX, hA⟩
theorem wM_isKept (ht : okT tp) (hs : tkM tp q S) (hl : q ≤ tp.length) (h : Q (.int (bT (decide (¬ srT tp q = 3)))) S) : aWM (d + 1) 17 [.ref 1000] S Q := by
  have h6 : toT tp q < 5 := by
    unfold toT
    repeat' split
    all_goals decide
  refine mM_isKept ?_
  rw [hs.2.2.2.1, show nI (toT tp q) = (1 : Int32) ↔ toT tp q = 1 from nI_eq (a := toT tp q) (b := 1) (by omega) (by decide)]
  refine ⟨fun c => ?_, fun c => ⟨Or.inr rfl, ?_⟩⟩
  · rw [hs.2.2.2.2.1 c]
    have yes : ∀ k, 4 ≤ k → k < 25 → lN (enc 27 (nmT tp q)) = wW (2200 + k) → ((1 : Int32) = 0 ∨ (1 : Int32) = 1) ∧ Q (.int 1) S := fun k h4 h25 e => by
      refine ⟨Or.inr rfl, ?_⟩
      have := (toT_word (isWd_k k h25 h4) c).mp e
      rw [decide_eq_true (show ¬ srT tp q = 3 from fun e3 => ((srT_n3 ht hl).mp e3).2 k h4 h25 this)] at h
      exact h
    refine kc (s := 2200 + 4) rfl (yes 4 (by decide) (by decide)) (fun n4 => ?_)
    refine kc (s := 2200 + 5) rfl (yes 5 (by decide) (by decide)) (fun n5 => ?_)
    refine kc (s := 2200 + 6) rfl (yes 6 (by decide) (by decide)) (fun n6 => ?_)
    refine kc (s := 2200 + 7) rfl (yes 7 (by decide) (by decide)) (fun n7 => ?_)
    refine kc (s := 2200 + 8) rfl (yes 8 (by decide) (by decide)) (fun n8 => ?_)
    refine kc (s := 2200 + 9) rfl (yes 9 (by decide) (by decide)) (fun n9 => ?_)
    refine kc (s := 2200 + 10) rfl (yes 10 (by decide) (by decide)) (fun n10 => ?_)
    refine kc (s := 2200 + 11) rfl (yes 11 (by decide) (by decide)) (fun n11 => ?_)
    refine kc (s := 2200 + 12) rfl (yes 12 (by decide) (by decide)) (fun n12 => ?_)
    refine kc (s := 2200 + 13) rfl (yes 13 (by decide) (by decide)) (fun n13 => ?_)
    refine kc (s := 2200 + 14) rfl (yes 14 (by decide) (by decide)) (fun n14 => ?_)
    refine kc (s := 2200 + 15) rfl (yes 15 (by decide) (by decide)) (fun n15 => ?_)
    refine kc (s := 2200 + 16) rfl (yes 16 (by decide) (by decide)) (fun n16 => ?_)
    refine kc (s := 2200 + 17) rfl (yes 17 (by decide) (by decide)) (fun n17 => ?_)
    refine kc (s := 2200 + 18) rfl (yes 18 (by decide) (by decide)) (fun n18 => ?_)
    refine kc (s := 2200 + 19) rfl (yes 19 (by decide) (by decide)) (fun n19 => ?_)
    refine kc (s := 2200 + 20) rfl (yes 20 (by decide) (by decide)) (fun n20 => ?_)
    refine kc (s := 2200 + 21) rfl (yes 21 (by decide) (by decide)) (fun n21 => ?_)
    refine kc (s := 2200 + 22) rfl (yes 22 (by decide) (by decide)) (fun n22 => ?_)
    refine kc (s := 2200 + 23) rfl (yes 23 (by decide) (by decide)) (fun n23 => ?_)
    refine kc2 (s := 2200 + 24) rfl (yes 24 (by decide) (by decide)) (fun n24 => ?_)
    refine ⟨Or.inl rfl, ?_⟩
    have : srT tp q = 3 := (srT_n3 ht hl).mpr ⟨c, fun k h4 h25 e => by
      have e2 := (toT_word (isWd_k k h25 h4) c).mpr e
      rcases show k = 4 ∨ k = 5 ∨ k = 6 ∨ k = 7 ∨ k = 8 ∨ k = 9 ∨ k = 10 ∨ k = 11 ∨ k = 12 ∨ k = 13 ∨ k = 14 ∨ k = 15 ∨ k = 16 ∨ k = 17 ∨ k = 18 ∨ k = 19 ∨ k = 20 ∨ k = 21 ∨ k = 22 ∨ k = 23 ∨ k = 24 by omega with rfl | rfl | rfl | rfl | rfl | rfl | rfl | rfl | rfl | rfl | rfl | rfl | rfl | rfl | rfl | rfl | rfl | rfl | rfl | rfl | rfl
      · exact n4 e2
      · exact n5 e2
      · exact n6 e2
      · exact n7 e2
      · exact n8 e2
      · exact n9 e2
      · exact n10 e2
      · exact n11 e2
      · exact n12 e2
      · exact n13 e2
      · exact n14 e2
      · exact n15 e2
      · exact n16 e2
      · exact n17 e2
      · exact n18 e2
      · exact n19 e2
      · exact n20 e2
      · exact n21 e2
      · exact n22 e2
      · exact n23 e2
      · exact n24 e2⟩
    rw [decide_eq_false (fun q => q this)] at h
    exact h
  · rw [decide_eq_true (show ¬ srT tp q = 3 from fun e => c ((srT_n3 ht hl).mp e).1)] at h
    exact h
end
