/-! first loops: sums over words, a row laid over another -/
def pSum (f : Nat → Int32) : Nat → Int32
  | 0 => 0
  | n + 1 => pSum f n + f n
theorem pSum_ext {f g : Nat → Int32} : ∀ n, (∀ k, k < n → f k = g k) → pSum f n = pSum g n
  | 0, _ => rfl
  | n + 1, h => by
    show pSum f n + f n = pSum g n + g n
    rw [pSum_ext n (fun k hk => h k (by omega)), h n (by omega)]
theorem pSum_zero {f : Nat → Int32} (n : Nat) : ∀ m, (∀ k, n ≤ k → k < n + m → f k = 0) → pSum f (n + m) = pSum f n
  | 0, _ => rfl
  | m + 1, h => by
    show pSum f (n + m) + f (n + m) = pSum f n
    rw [pSum_zero n m (fun k h1 h2 => h k h1 (by omega)), h (n + m) (by omega) (by omega), Int32.add_zero]
section
variable {d : Nat} {Q : Value → aS → Prop} {S : aS} {t : Nat} {r : zR} {z : zS} {x y : Int32}
theorem wM_allLeft (hr : okR r) (hz : okZ r z) (hrl : rlM r S) (hs : stM r z (ga S 1032) 0) (h : Q (.int (pSum (fun w => nI (zLe z w)) (rWd r))) S) : aWM (d + 1) 103 [.ref 1000] S Q := by
  have hw := hr.2.1
  have e1 : ga S 1002 (1 : Int32).toNatClampNeg = nI (rWd r) := hrl.2.1
  refine mM_allLeft ?_
  have loop : ∀ m k, k + m = rWd r → aBM d 103 Q 4 [some (.ref 1000), some (.int (pSum (fun w => nI (zLe z w)) k)), some (.int (nI k))] [] S := by
    intro m
    induction m with
    | zero =>
      intro k hk
      obtain rfl : k = rWd r := by omega
      refine bM_allLeft_4 ?_
      simp only [e1]
      exact ⟨vin (by decide), fun _ => h, fun q => absurd (nI_le (Nat.le_refl _) (by omega)) q⟩
    | succ m ih =>
      intro k hk
      refine bM_allLeft_4 ?_
      have e2 : (8 : Int32) + nI k = nI (8 + k) := nI_add 8 k
      have e3 : ga S 1032 (8 + k) = nI (zLe z k) := by
        have := hs.2.2.2.2.2.1 k (by omega)
        rw [Nat.zero_add] at this
        exact this
      simp only [e1, e2, nI_clamp (show 8 + k < 2 ^ 31 by omega), e3, nI_1]
      exact ⟨vin (by decide), fun q => absurd q (nI_ge (by omega) (by omega)), fun _ => ⟨nI_in (by omega) (by decide), ih (k + 1) (by omega)⟩⟩
  exact loop (rWd r) 0 (by omega)
theorem wX_leftTogether {t' : Nat} (hr : okR r) (hz : okZ r z) (ht : isSt t) (hs : stX r z S t) (ht' : isRe t') (hrl : rlX r S t') (h : Q (.int (pSum (fun w => nI (zLe z w)) (rWd r))) S) : aWX (d + 2) 89 [.ref t, .ref t'] S Q := by
  have hw := hr.2.1
  refine mX_Standing_leftTogether (gK_ok ht.1 ?_)
  have loop : ∀ m k, k + m = 12 → aBX (d + 1) 89 Q 4 [some (.ref t), some (.ref t'), some (.int (pSum (fun w => if w < rWd r then nI (zLe z w) else 0) k)), some (.int (nI k))] [] S := by
    intro m
    induction m with
    | zero =>
      intro k hk
      obtain rfl : k = 12 := by omega
      refine bX_Standing_leftTogether_4 ⟨fun _ => ?_, fun q => absurd (show (12 : Int32) ≤ nI 12 by decide) q⟩
      have e : pSum (fun w => if w < rWd r then nI (zLe z w) else 0) 12 = pSum (fun w => nI (zLe z w)) (rWd r) := by
        have h1 := pSum_zero (f := fun w => if w < rWd r then nI (zLe z w) else 0) (rWd r) (12 - rWd r) (fun k h1 _ => if_neg (by omega))
        rw [show rWd r + (12 - rWd r) = 12 by omega] at h1
        rw [h1]
        exact pSum_ext _ (fun k hk => if_pos hk)
      rw [e]
      exact h
    | succ m ih =>
      intro k hk
      refine bX_Standing_leftTogether_4 ⟨fun q => absurd q (nI_ge (a := k) (b := 12) (by omega) (by decide)), fun _ => wX_hasWord hr ht' hrl ?_⟩
      have hn := ih (k + 1) (by omega)
      have e0 : pSum (fun w => if w < rWd r then nI (zLe z w) else 0) (k + 1) = pSum (fun w => if w < rWd r then nI (zLe z w) else 0) k + (if k < rWd r then nI (zLe z k) else 0) := rfl
      rw [e0] at hn
      by_cases c : k < rWd r
      · rw [if_pos c] at hn
        rw [idx_some (by omega) c]
        refine ⟨fun q => absurd q bI_some, fun _ => gK_ok ht.1 (gK_ok ht.2.1 ⟨by rw [ht.2.2.2.2.1]; exact nI_in (by omega) (by decide), ?_⟩)⟩
        rw [nI_clamp (by omega), hs.2.2.2.2.2.1 k c, nI_1]
        exact hn
      · rw [if_neg c] at hn
        rw [idx_none (Or.inr (nI_le (by omega) (by omega)))]
        refine ⟨fun _ => ?_, fun q => absurd rfl q⟩
        rw [nI_1]
        exact hn
  exact loop 12 0 rfl
/-- a part of row x laid over row y -/
def lay (S : aS) (x a y b n : Nat) : aS := (S.1, S.2.1, S.2.2.1, va_up S.2.2.2.1 y (fun k => if b ≤ k ∧ k < b + n then S.2.2.2.1 x (a + (k - b)) else S.2.2.2.1 y k), S.2.2.2.2)
theorem lay_0 (S : aS) (x a y b : Nat) : lay S x a y b 0 = S := by
  have e : va_up S.2.2.2.1 y (fun k => if b ≤ k ∧ k < b + 0 then S.2.2.2.1 x (a + (k - b)) else S.2.2.2.1 y k) = S.2.2.2.1 := by
    funext i k
    unfold va_up
    by_cases h : i = y
    · subst h
      rw [if_pos rfl, if_neg (by omega)]
    · rw [if_neg h]
  unfold lay
  rw [e]
theorem lay_step (S : aS) {x a y b n : Nat} (hxy : x ≠ y) : sa (lay S x a y b n) y (b + n) (ga (lay S x a y b n) x (a + n)) = lay S x a y b (n + 1) := by
  have e1 : ga (lay S x a y b n) x (a + n) = S.2.2.2.1 x (a + n) := by
    unfold ga lay va_up
    dsimp only
    rw [if_neg hxy]
  rw [e1]
  have e : va_up (lay S x a y b n).2.2.2.1 y (upd ((lay S x a y b n).2.2.2.1 y) (b + n) (S.2.2.2.1 x (a + n))) = (lay S x a y b (n + 1)).2.2.2.1 := by
    funext i k
    unfold lay va_up upd
    dsimp only
    by_cases h : i = y
    · subst h
      rw [if_pos rfl, if_pos rfl, if_pos rfl]
      by_cases hk : k = b + n
      · subst hk
        rw [if_pos rfl, if_pos (by omega), show b + n - b = n by omega]
      · rw [if_neg hk]
        by_cases h2 : b ≤ k ∧ k < b + n
        · rw [if_pos h2, if_pos (by omega)]
        · rw [if_neg h2, if_neg (by omega)]
    · rw [if_neg h, if_neg h, if_neg h]
  unfold sa
  rw [e]
  rfl
theorem wM_copies {p0 p2 a b : Nat} (h0 : akd p0 = 30) (h2 : akd p2 = 30) (hne : p0 ≠ p2) (ha : a + 60 ≤ aln p0) (hb : b + 60 ≤ aln p2) (hA : aln p0 ≤ 2000) (hB : aln p2 ≤ 2000) (h : Q .null (lay S p0 a p2 b 60)) : aWM (d + 1) 35 [.ref p0, .int (nI a), .ref p2, .int (nI b)] S Q := by
  refine mM_copies ?_
  have loop : ∀ m k, k + m = 60 → aBM d 35 Q 2 [some (.ref p0), some (.int (nI a)), some (.ref p2), some (.int (nI b)), some (.int (nI k))] [] (lay S p0 a p2 b k) := by
    intro m
    induction m with
    | zero =>
      intro k hk
      obtain rfl : k = 60 := by omega
      exact bM_copies_2 ⟨fun _ => h, fun q => absurd (show (60 : Int32) ≤ nI 60 by decide) q⟩
    | succ m ih =>
      intro k hk
      refine bM_copies_2 ⟨fun q => absurd q (nI_ge (a := k) (b := 60) (by omega) (by decide)), fun _ => ?_⟩
      have hn := ih (k + 1) (by omega)
      rw [← lay_step S hne] at hn
      rw [nI_add, nI_add, nI_clamp (by omega), nI_clamp (by omega), nI_1]
      exact gK_ok h0 ⟨nI_in (by omega) (by omega), gK_ok h2 ⟨nI_in (by omega) (by omega), hn⟩⟩
  have := loop 60 0 rfl
  rw [lay_0] at this
  exact this
end
