/-! the tie at the start -/
section
variable {d : Nat} {Q : Value → aS → Prop} {S : aS} {r : zR} {t : Nat}
theorem wX_pgBegin (hr : okR r) (hT : isT t) (h : RX r S t) (hx : ∀ S', frY (pgC 40) S S' → pgX r (z0 r, [], []) S' 40 → Q .null S') : aWX (d + 2) 37 [.ref 40, .ref t] S Q := by
  refine mX_Page_begin (gK_ok rfl (gK_ok rfl ?_))
  show aWX (d + 1) 83 [.ref 41, .ref t] S _
  refine wX_stBegin hr hT stG_41 h (fun S1 f1 h1 => ?_)
  show aBX (d + 1) 37 Q 4 _ [] S1
  refine bX_Page_begin_4 (gK_ok rfl (gK_ok rfl (gK_ok rfl ?_)))
  have f2 : frX (fun i => i = 40) S1 (si (si (si S1 40 2 0) 40 3 0) 40 4 0) := frX.tr (frX.tr (frX_si rfl) (frX_si rfl)) (frX_si rfl)
  refine hx _ (frY.tr (f1.le (fun i hi => by have := st_pg i hi; unfold pgC; omega)) (f2.Y.le (fun i hi => by unfold pgC; omega))) ⟨h1.kept f2 (fun i hi => by rw [stC_41] at hi; omega), ⟨?_, fun k l hk => by cases hk⟩, ?_, 0, ⟨by decide, fun w => by simp⟩, ?_⟩
  · rw [gi_si, if_neg (by decide), gi_si, if_neg (by decide), gi_si, if_pos ⟨rfl, rfl⟩]; rfl
  · rw [gi_si, if_pos ⟨rfl, rfl⟩]; rfl
  · rw [gi_si, if_neg (by decide), gi_si, if_pos ⟨rfl, rfl⟩]; rfl
end
def r0 : zR := ((0, 0, 3, 0), fun _ => 0, (fun _ => 0, fun _ => 0, fun _ => 0, fun _ => 0), fun _ _ => 0, fun _ _ => false, fun _ => [], none, none)
theorem okR_0 : okR r0 := ⟨by decide, by decide, ⟨by decide, by decide⟩, by decide, fun k hk => absurd hk (Nat.not_lt_zero _), fun k hk => absurd hk (Nat.not_lt_zero _), fun k w hk => absurd hk (Nat.not_lt_zero _)⟩
theorem okN_0 : okN r0 := ⟨fun k hk => absurd hk (Nat.not_lt_zero _), fun k w hk => absurd hk (Nat.not_lt_zero _)⟩
theorem RX_0 : RX r0 S0X 6 := ⟨⟨rfl, rfl, rfl, rfl, fun k hk => absurd hk (Nat.not_lt_zero _), fun k hk => absurd hk (Nat.not_lt_zero _), fun k hk => absurd hk (Nat.not_lt_zero _), fun k hk => absurd hk (Nat.not_lt_zero _), fun k hk => absurd hk (Nat.not_lt_zero _), fun k w hk => absurd hk (Nat.not_lt_zero _)⟩, ⟨rfl, rfl⟩, ⟨rfl, rfl⟩, fun k hk => absurd hk (Nat.not_lt_zero _), fun k hk => absurd hk (Nat.not_lt_zero _)⟩
theorem RM_0 : RM r0 (sa S0M 1002 2 3) := ⟨⟨rfl, rfl, rfl, rfl, fun k hk => absurd hk (Nat.not_lt_zero _), fun k hk => absurd hk (Nat.not_lt_zero _), fun k hk => absurd hk (Nat.not_lt_zero _), fun k hk => absurd hk (Nat.not_lt_zero _), fun k hk => absurd hk (Nat.not_lt_zero _), fun k w hk => absurd hk (Nat.not_lt_zero _)⟩, rfl, rfl, fun k hk => absurd hk (Nat.not_lt_zero _), fun k hk => absurd hk (Nat.not_lt_zero _)⟩
theorem gr_S0 (i k : Nat) : gr S0X i k < 1000 ∨ 2000 ≤ gr S0X i k := by
  show (((S0XR.find? fun q => Nat.beq q.1 i && Nat.beq q.2.1 k).map fun q => q.2.2).getD 0) < 1000 ∨ 2000 ≤ (((S0XR.find? fun q => Nat.beq q.1 i && Nat.beq q.2.1 k).map fun q => q.2.2).getD 0)
  cases h : S0XR.find? fun q => Nat.beq q.1 i && Nat.beq q.2.1 k with
  | none => exact Or.inl (by decide)
  | some q =>
    have hm := List.mem_of_find?_eq_some h
    have : ∀ q ∈ S0XR, q.2.2 < 1000 ∨ 2000 ≤ q.2.2 := by decide
    exact this q hm
theorem tie_start : aWX dd 37 [.ref 40, .ref 6] S0X (fun v SX => v = .null ∧ (∀ i k, gr SX i k < 1000 ∨ 2000 ≤ gr SX i k) ∧ aWM dd 39 [.ref 1000] (sa S0M 1002 2 3) (fun v SM => v = .null ∧ Rel SX SM)) := by
  refine wX_pgBegin (d := 98) okR_0 (Or.inl rfl) RX_0 (fun SX f1 h1 => ⟨rfl, fun i k => ?_, ?_⟩)
  · rw [f1.gr i k]
    exact gr_S0 i k
  · refine wM_fresh (d := 99) okR_0 RM_0.1 (fun SM f2 h2 => ⟨rfl, (r0, (z0 r0, [], []), [], fun _ => none, []), 6, ⟨okR_0, okN_0, ⟨okZ_0 okR_0, ⟨Nat.zero_le _, fun l hl => by cases hl⟩, ⟨Nat.zero_le _, fun l hl => by cases hl⟩⟩, ⟨Nat.zero_le _, fun l hl => by cases hl⟩⟩, ?_, ?_⟩)
    · have g : ∀ i k, ¬ pgC 40 i → gi SX i k = gi S0X i k := fun i k hi => (f1.1 i k hi).1
      refine ⟨⟨Or.inl rfl, (f1.gr 0 2).trans rfl, (f1.gr 0 3).trans rfl, (show fld S0X from ⟨rfl, rfl, rfl, rfl⟩).kept f1 (fun i hi => by unfold pgC; omega)⟩, RX_0.kept (Or.inl rfl) f1 (fun i hi => by unfold rcX at hi; unfold pgC; omega), h1, ⟨0, by decide, (g 47 1 (by unfold pgC; omega)).trans rfl, (g 47 2 (by unfold pgC; omega)).trans rfl, Nat.zero_le _, fun k z hk => by cases hk⟩, fun j hj => ?_, ⟨(g 1 1 (by unfold pgC; omega)).trans rfl, fun k c hk => by cases hk⟩⟩
      show gi SX (128 + 6 * j) 5 = 0
      rw [g (128 + 6 * j) 5 (by unfold pgC; omega)]
      rcases show j = 0 ∨ j = 1 ∨ j = 2 ∨ j = 3 by omega with rfl | rfl | rfl | rfl <;> rfl
    · have a : ∀ i k, i ≠ 1032 → ga SM i k = ga (sa S0M 1002 2 3) i k := fun i k hi => f2.1 i k hi
      refine ⟨RM_0.kept f2 (fun i hi => by unfold sC at hi; omega), ⟨h2, ⟨a 1027 0 (by decide), fun k c hk => by cases hk⟩, ⟨a 1030 0 (by decide), fun k c hk => by cases hk⟩⟩, ⟨f2.2.2.1 50 (fun q => q), Nat.zero_le _, fun k z hk => by cases hk⟩, fun j hj => ?_, ⟨f2.2.2.1 1 (fun q => q), fun k c hk => by cases hk⟩⟩
      show ga SM 1036 j = 0
      rw [a 1036 j (by decide), ga_sa, if_neg (by omega)]
      rfl
