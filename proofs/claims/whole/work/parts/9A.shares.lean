/-! a million shared out: what comes to each word; the class -/
def sh0 (r : zR) (z : zS) (s f a w : Nat) : Nat := 1000000 * lkV r (wWho r s f) (zLe z w) w a / alV r z (wWho r s f) f a
def shS (r : zR) (z : zS) (s f : Nat) (h : Nat → Nat) (w : Nat) : Nat := nSum (fun v => if rFd r v + 1 = f then h v * lkV r (wWho r s f) (zLe z w) w (rGo r v) / alV r z (wWho r s f) f (rGo r v) else 0) (rWd r)
def shv (r : zR) (z : zS) (s : Nat) (P : Nat → Bool) (f0 a0 : Nat) : Nat → Nat → Nat
  | 0, w => sh0 r z s f0 a0 w
  | k + 1, w => shS r z s (f0 + k + 1) (fun v => if P v = true then shv r z s P f0 a0 k v else 0) w
theorem nSum_swap (g : Nat → Nat → Nat) (n : Nat) : ∀ m, nSum (fun w => nSum (fun v => g v w) n) m = nSum (fun v => nSum (fun w => g v w) m) n
  | 0 => by
    show 0 = nSum (fun _ => 0) n
    have := nSum_le (f := fun _ => 0) (m := 0) n (fun _ _ => Nat.le_refl _)
    omega
  | m + 1 => by
    have ih := nSum_swap g n m
    have add : ∀ k, nSum (fun v => nSum (fun w => g v w) m + g v m) k = nSum (fun v => nSum (fun w => g v w) m) k + nSum (fun v => g v m) k := by
      intro k
      induction k with
      | zero => rfl
      | succ k ihk =>
        show nSum (fun v => nSum (fun w => g v w) m + g v m) k + (nSum (fun w => g k w) m + g k m) = (nSum (fun v => nSum (fun w => g v w) m) k + nSum (fun w => g k w) m) + (nSum (fun v => g v m) k + g k m)
        omega
    show nSum (fun w => nSum (fun v => g v w) n) m + nSum (fun v => g v m) n = nSum (fun v => nSum (fun w => g v w) m + g v m) n
    rw [add n, ih]
theorem nSum_share {l : Nat → Nat} {m L : Nat} : ∀ n, nSum (fun w => m * l w / L) n * L ≤ m * nSum l n
  | 0 => by
    show 0 * L ≤ m * 0
    omega
  | n + 1 => by
    have ih := nSum_share (l := l) (m := m) (L := L) n
    show (nSum (fun w => m * l w / L) n + m * l n / L) * L ≤ m * (nSum l n + l n)
    rw [Nat.add_mul, Nat.mul_add]
    have := Nat.div_mul_le_self (m * l n) L
    omega
/-- shared out to a fold: no more than there was -/
theorem share_le {r : zR} (z : zS) (o : Option Nat) (f a m : Nat) : nSum (fun w => if rFd r w = f then m * lkV r o (zLe z w) w a / alV r z o f a else 0) (rWd r) ≤ m := by
  have h := nSum_share (l := fun w => if rFd r w = f then lkV r o (zLe z w) w a else 0) (m := m) (L := alV r z o f a) (rWd r)
  have e : nSum (fun w => m * (if rFd r w = f then lkV r o (zLe z w) w a else 0) / alV r z o f a) (rWd r) = nSum (fun w => if rFd r w = f then m * lkV r o (zLe z w) w a / alV r z o f a else 0) (rWd r) := nSum_ext _ (fun k _ => by
    by_cases c : rFd r k = f
    · rw [if_pos c, if_pos c]
    · rw [if_neg c, if_neg c, Nat.mul_zero, Nat.zero_div])
  rw [e] at h
  have h2 : nSum (fun w => if rFd r w = f then lkV r o (zLe z w) w a else 0) (rWd r) = alV r z o f a := rfl
  rw [h2] at h
  rcases Nat.eq_zero_or_pos (alV r z o f a) with q | q
  · have : nSum (fun w => if rFd r w = f then m * lkV r o (zLe z w) w a / alV r z o f a else 0) (rWd r) ≤ (rWd r) * 0 := nSum_le _ (fun k _ => by
      split
      · rw [q, Nat.div_zero]; exact Nat.le_refl _
      · exact Nat.le_refl _)
    omega
  · exact Nat.le_of_mul_le_mul_right h q
theorem shS_tot {r : zR} (z : zS) (s f : Nat) (h : Nat → Nat) : nSum (fun w => if rFd r w = f then shS r z s f h w else 0) (rWd r) ≤ nSum (fun v => if rFd r v + 1 = f then h v else 0) (rWd r) := by
  have e : nSum (fun w => if rFd r w = f then shS r z s f h w else 0) (rWd r) = nSum (fun w => nSum (fun v => if rFd r w = f then (if rFd r v + 1 = f then h v * lkV r (wWho r s f) (zLe z w) w (rGo r v) / alV r z (wWho r s f) f (rGo r v) else 0) else 0) (rWd r)) (rWd r) := nSum_ext _ (fun w _ => by
    by_cases c : rFd r w = f
    · rw [if_pos c]
      unfold shS
      exact nSum_ext _ (fun v _ => by rw [if_pos c])
    · rw [if_neg c]
      have : nSum (fun v => if rFd r w = f then (if rFd r v + 1 = f then h v * lkV r (wWho r s f) (zLe z w) w (rGo r v) / alV r z (wWho r s f) f (rGo r v) else 0) else 0) (rWd r) ≤ rWd r * 0 := nSum_le _ (fun v _ => by rw [if_neg c]; exact Nat.le_refl _)
      omega)
  rw [e, nSum_swap (fun v w => if rFd r w = f then (if rFd r v + 1 = f then h v * lkV r (wWho r s f) (zLe z w) w (rGo r v) / alV r z (wWho r s f) f (rGo r v) else 0) else 0)]
  refine (nSum_mono2 _ (fun v _ => ?_)).1
  by_cases c : rFd r v + 1 = f
  · rw [if_pos c]
    have := share_le (r := r) z (wWho r s f) f (rGo r v) (h v)
    refine Nat.le_trans (Nat.le_of_eq (nSum_ext _ (fun w _ => ?_))) this
    rw [if_pos c]
  · rw [if_neg c]
    have : nSum (fun w => if rFd r w = f then (if rFd r v + 1 = f then h v * lkV r (wWho r s f) (zLe z w) w (rGo r v) / alV r z (wWho r s f) f (rGo r v) else 0) else 0) (rWd r) ≤ rWd r * 0 := nSum_le _ (fun w _ => by
      rw [if_neg c]
      split <;> exact Nat.le_refl _)
    omega
theorem shv_tot {r : zR} (z : zS) (s : Nat) (P : Nat → Bool) (f0 a0 : Nat) : ∀ k, nSum (fun w => if rFd r w = f0 + k then shv r z s P f0 a0 k w else 0) (rWd r) ≤ 1000000
  | 0 => share_le z _ f0 a0 1000000
  | k + 1 => by
    have ih := shv_tot (r := r) z s P f0 a0 k
    refine Nat.le_trans (shS_tot z s (f0 + k + 1) _) (Nat.le_trans (nSum_mono2 _ (fun v _ => ?_)).1 ih)
    by_cases c : rFd r v = f0 + k
    · rw [if_pos c, if_pos (by omega)]
      split
      · exact Nat.le_refl _
      · exact Nat.zero_le _
    · rw [if_neg c, if_neg (by omega)]
      exact Nat.le_refl _
theorem shv_le {r : zR} {z : zS} {s : Nat} {P : Nat → Bool} {f0 a0 k w : Nat} (hw : w < rWd r) (hf : rFd r w = f0 + k) : shv r z s P f0 a0 k w ≤ 1000000 := by
  have h1 := shv_tot (r := r) z s P f0 a0 k
  have h2 := nSum_one (f := fun w => if rFd r w = f0 + k then shv r z s P f0 a0 k w else 0) hw
  rw [if_pos hf] at h2
  omega
theorem shS_ext {r : zR} {z : zS} {s f : Nat} {h h' : Nat → Nat} {w : Nat} (e : ∀ v, v < rWd r → rFd r v + 1 = f → h v = h' v) : shS r z s f h w = shS r z s f h' w := nSum_ext _ (fun v hv => by
  by_cases c : rFd r v + 1 = f
  · rw [if_pos c, if_pos c, e v hv c]
  · rw [if_neg c, if_neg c])
/-- what comes to the last fold, together -/
def shF (r : zR) (z : zS) (s : Nat) (P : Nat → Bool) (f0 a0 : Nat) : Nat := nSum (fun w => if rFd r w + 1 = rFo r ∧ P w = true then shv r z s P f0 a0 (rFo r - 1 - f0) w else 0) (rWd r)
def shX (h : Nat → Nat) (S : aS) : Prop := ∀ w, w < 12 → ga S 125 w = nI (h w)
def shC (i : Nat) : Prop := i = 125
theorem shC_rc {t : Nat} (hT : isT t) : ∀ i, rcX t i → ¬ shC i := fun i hi q => by
  unfold shC at q
  unfold rcX at hi
  rcases hT with rfl | rfl <;> omega
section
variable {d : Nat} {Q : Value → aS → Prop} {S : aS} {r : zR} {z : zS} {t s f a : Nat} {h : Nat → Nat}
theorem wX_of {w : Nat} (hh : shX h S) (hw : w < 12) (hx : Q (.int (nI (h w))) S) : aWX (d + 1) 75 [.ref 124, .int (nI w)] S Q := by
  refine mX_Shares_of ⟨fun q => absurd q (nI_pos (by omega)), fun _ => ⟨fun q => absurd q (nI_ge (a := w) (b := 12) hw (by decide)), fun _ => ⟨nI_in hw (by decide), ?_⟩⟩⟩
  rw [nI_clamp (by omega), hh w hw]
  exact hx
theorem wX_empty (hx : ∀ S', frY shC S S' → shX (fun _ => 0) S' → Q .null S') : aWX (d + 1) 79 [.ref 124] S Q := by
  refine mX_Shares_empty ?_
  have loop : ∀ m k S1, k + m = 12 → frY shC S S1 → (∀ w, w < k → ga S1 125 w = nI 0) → aBX d 79 Q 2 [some (.ref 124), some (.int (nI k))] [] S1 := by
    intro m
    induction m with
    | zero =>
      intro k S1 hk hf hz
      obtain rfl : k = 12 := by omega
      exact bX_Shares_empty_2 ⟨fun _ => hx S1 hf hz, fun q => absurd (show (12 : Int32) ≤ nI 12 by decide) q⟩
    | succ m ih =>
      intro k S1 hk hf hz
      refine bX_Shares_empty_2 ⟨fun q => absurd q (nI_ge (a := k) (b := 12) (by omega) (by decide)), fun _ => ⟨nI_in (by omega) (by decide), ?_⟩⟩
      rw [nI_clamp (by omega), nI_1]
      refine ih (k + 1) _ (by omega) (hf.tr (frY_sa rfl)) (fun w hw => ?_)
      rw [ga_sa]
      by_cases q : w = k
      · rw [if_pos ⟨rfl, q⟩]; rfl
      · rw [if_neg (fun e => q e.2)]
        exact hz w (by omega)
  exact loop 12 0 S rfl frY.rf (fun w hw => absurd hw (Nat.not_lt_zero _))
/-- so much is shared out to a fold -/
theorem wX_share {m i : Nat} {o : Option Nat} (hr : okR r) (hT : isT t) (hR : RX r S t) (ho : okW r o) (hO : oRow r z o f a S i) (hi : i < 13) (hf : f < 100) (hm : m ≤ 1000000) (hh : shX h S) (hx : ∀ S', frY shC S S' → shX (fun w => h w + (if w < rWd r ∧ rFd r w = f then m * lkV r o (zLe z w) w a / alV r z o f a else 0)) S' → Q .null S') : aWX (d + 3) 81 [.ref 124, .ref t, .ref 117, .int (nI f), .int (ahI i), .int (nI m)] S Q := by
  have hwd := hr.2.1
  have hal := alV_le hr z ho f a
  refine mX_Shares_share (wX_totalBehind hi ?_)
  rw [hO.2]
  show ((0 : Int32) < nI (alV r z o f a) → _) ∧ (¬ (0 : Int32) < nI (alV r z o f a) → _)
  rw [show (0 : Int32) = nI 0 from rfl, nI_ltI (by decide) (by omega)]
  refine ⟨fun c => ?_, fun c => hx S frY.rf (fun w hw => ?_)⟩
  · have loop : ∀ m2 k S1, k + m2 = 12 → frY shC S S1 → (∀ w, w < 12 → ga S1 125 w = nI (h w + (if w < k ∧ w < rWd r ∧ rFd r w = f then m * lkV r o (zLe z w) w a / alV r z o f a else 0))) → aBX (d + 2) 81 Q 9 [some (.ref 124), some (.ref t), some (.ref 117), some (.int (nI f)), some (.int (ahI i)), some (.int (nI m)), some (.int (nI (alV r z o f a))), some (.int (nI k))] [] S1 := by
      intro m2
      induction m2 with
      | zero =>
        intro k S1 hk hf1 hg
        obtain rfl : k = 12 := by omega
        refine bX_Shares_share_9 ⟨fun _ => hx S1 hf1 (fun w hw => ?_), fun q => absurd (show (12 : Int32) ≤ nI 12 by decide) q⟩
        rw [hg w hw]
        try dsimp only
        by_cases e : w < rWd r ∧ rFd r w = f
        · rw [if_pos e, if_pos ⟨hw, e⟩]
        · rw [if_neg e, if_neg (fun q => e q.2)]
      | succ m2 ih =>
        intro k S1 hk hf1 hg
        have hR1 := hR.kept hT hf1 (shC_rc hT)
        refine bX_Shares_share_9 ⟨fun q => absurd q (nI_ge (a := k) (b := 12) (by omega) (by decide)), fun _ => wX_foldOf hr hT.re hR1.1 ?_⟩
        have skip : ¬ (k < rWd r ∧ rFd r k = f) → aBX (d + 2) 81 Q 9 [some (.ref 124), some (.ref t), some (.ref 117), some (.int (nI f)), some (.int (ahI i)), some (.int (nI m)), some (.int (nI (alV r z o f a))), some (.int (nI k + 1))] [] S1 := fun e => by
          rw [nI_1]
          refine ih (k + 1) S1 (by omega) hf1 (fun w hw => ?_)
          rw [hg w hw]
          try dsimp only
          by_cases q : w < k ∧ w < rWd r ∧ rFd r w = f
          · rw [if_pos q, if_pos ⟨by omega, q.2⟩]
          · rw [if_neg q, if_neg (fun q2 => ?_)]
            rcases Nat.lt_or_ge w k with q3 | q3
            · exact q ⟨q3, q2.2⟩
            · rw [show w = k by omega] at q2
              exact e q2.2
        by_cases e : k < rWd r
        · have hf3 := (hr.2.2.2.2.2.1 k e).1
          have e1 : pAt (rWd r) (rFd r) (-1) (nI k) = nI (rFd r k) := by unfold pAt; rw [idx_some (by omega) e]
          rw [e1]
          show (¬ nI (rFd r k) = nI f → _) ∧ (nI (rFd r k) = nI f → _)
          rw [nI_eq (by omega) (by omega)]
          refine ⟨fun e2 => skip (fun q => e2 q.2), fun e2 => ⟨nI_in (by omega) (by decide), wX_likelyBehind hi (by omega) ?_⟩⟩
          rw [(hO.keptF hf1 (by unfold shC; omega) (by unfold shC; omega)).1 k e e2]
          have hlk := lkV_le hr ho e (zLe z k) a
          have hml : m * lkV r o (zLe z k) k a ≤ 1000000 * 99 := Nat.mul_le_mul hm hlk
          simp only [aI]
          rw [nI_clamp (by omega), hg k (by omega), nI_mulN, pk_div (by omega) c (by omega), nI_add, nI_1]
          refine ⟨by rw [nI_eq0 (by omega)]; omega, nI_in (by omega) (by decide), ih (k + 1) _ (by omega) (hf1.tr (frY_sa rfl)) (fun w hw => ?_)⟩
          rw [ga_sa]
          by_cases q : w = k
          · subst q
            rw [if_pos ⟨rfl, rfl⟩, if_neg (by omega), Nat.add_zero, if_pos ⟨by omega, e, e2⟩]
          · rw [if_neg (fun q2 => q q2.2), hg w hw]
            try dsimp only
            by_cases q3 : w < k ∧ w < rWd r ∧ rFd r w = f
            · rw [if_pos q3, if_pos ⟨by omega, q3.2⟩]
            · rw [if_neg q3, if_neg (fun q2 => q3 ⟨by omega, q2.2⟩)]
        · have e1 : pAt (rWd r) (rFd r) (-1) (nI k) = -1 := by unfold pAt; rw [idx_none (Or.inr (nI_le (by omega) (by omega)))]
          rw [e1]
          exact ⟨fun _ => skip (fun q => e q.1), fun q => absurd q (m1_ne (by omega))⟩
    refine loop 12 0 S rfl frY.rf (fun w hw => ?_)
    rw [if_neg (fun q => absurd q.1 (Nat.not_lt_zero _)), Nat.add_zero]
    exact hh w hw
  · dsimp only
    rw [show alV r z o f a = 0 by omega, Nat.div_zero, hh w hw]
    split <;> rw [Nat.add_zero]
/-- from one fold to the next -/
theorem wX_flow (hr : okR r) (hT : isT t) (hR : RX r S t) (hf : 0 < f) (hfo : f < rFo r) (hO : ∀ v, v < rWd r → rFd r v + 1 = f → oRow r z (wWho r s f) f (rGo r v) S (v + 1)) (hb : ∀ v, v < rWd r → rFd r v + 1 = f → h v ≤ 1000000) (hh : shX h S) (hx : ∀ S', frY shC S S' → shX (fun w => h w + (if w < rWd r ∧ rFd r w = f then shS r z s f h w else 0)) S' → Q .null S') : aWX (d + 4) 80 [.ref 124, .ref t, .ref 117, .int (nI f)] S Q := by
  have hwd := hr.2.1
  have hfo4 := hr.2.2.1.2
  have ef : nI f - 1 = nI (f - 1) := by
    have := nI_pred (f - 1)
    rw [show f - 1 + 1 = f by omega] at this
    exact this
  refine mX_Shares_flow ?_
  have loop : ∀ m k S1, k + m = 12 → frY shC S S1 → shX (fun w => h w + (if w < rWd r ∧ rFd r w = f then nSum (fun v => if rFd r v + 1 = f then h v * lkV r (wWho r s f) (zLe z w) w (rGo r v) / alV r z (wWho r s f) f (rGo r v) else 0) (min k (rWd r)) else 0)) S1 → aBX (d + 3) 80 Q 2 [some (.ref 124), some (.ref t), some (.ref 117), some (.int (nI f)), some (.int (nI k))] [] S1 := by
    intro m
    induction m with
    | zero =>
      intro k S1 hk hf1 hg
      obtain rfl : k = 12 := by omega
      rw [Nat.min_eq_right hwd] at hg
      exact bX_Shares_flow_2 ⟨fun _ => hx S1 hf1 hg, fun q => absurd (show (12 : Int32) ≤ nI 12 by decide) q⟩
    | succ m ih =>
      intro k S1 hk hf1 hg
      have hR1 := hR.kept hT hf1 (shC_rc hT)
      refine bX_Shares_flow_2 ⟨fun q => absurd q (nI_ge (a := k) (b := 12) (by omega) (by decide)), fun _ => wX_foldOf hr hT.re hR1.1 ?_⟩
      rw [ef]
      have skip : (k < rWd r → rFd r k + 1 = f → h k = 0) → aBX (d + 3) 80 Q 2 [some (.ref 124), some (.ref t), some (.ref 117), some (.int (nI f)), some (.int (nI k + 1))] [] S1 := fun e => by
        rw [nI_1]
        refine ih (k + 1) S1 (by omega) hf1 (fun w hw => ?_)
        rw [hg w hw]
        try dsimp only
        congr 2
        by_cases q : w < rWd r ∧ rFd r w = f
        · rw [if_pos q, if_pos q]
          by_cases q2 : k < rWd r
          · rw [Nat.min_eq_left (by omega), Nat.min_eq_left (by omega)]
            show _ = nSum _ k + (if rFd r k + 1 = f then _ else 0)
            by_cases q3 : rFd r k + 1 = f
            · rw [if_pos q3, e q2 q3, Nat.zero_mul, Nat.zero_div, Nat.add_zero]
            · rw [if_neg q3, Nat.add_zero]
          · rw [Nat.min_eq_right (by omega), Nat.min_eq_right (by omega)]
        · rw [if_neg q, if_neg q]
      by_cases e : k < rWd r
      · have hf3 := (hr.2.2.2.2.2.1 k e).1
        have e1 : pAt (rWd r) (rFd r) (-1) (nI k) = nI (rFd r k) := by unfold pAt; rw [idx_some (by omega) e]
        rw [e1]
        show (¬ nI (rFd r k) = nI (f - 1) → _) ∧ (nI (rFd r k) = nI (f - 1) → _)
        rw [nI_eq (by omega) (by omega)]
        refine ⟨fun e2 => skip (fun _ q => absurd (by omega) e2), fun e2 => wX_of hg (by omega) ?_⟩
        have hk0 : (h k + (if k < rWd r ∧ rFd r k = f then nSum (fun v => if rFd r v + 1 = f then h v * lkV r (wWho r s f) (zLe z k) k (rGo r v) / alV r z (wWho r s f) f (rGo r v) else 0) (min k (rWd r)) else 0)) = h k := by rw [if_neg (by omega), Nat.add_zero]
        rw [hk0]
        have hbk := hb k e (by omega)
        show (nI (h k) ≤ 0 → _) ∧ (¬ nI (h k) ≤ 0 → _)
        rw [nI_le0 (by omega)]
        refine ⟨fun e3 => skip (fun _ _ => e3), fun e3 => wX_of hg (by omega) ?_⟩
        rw [hk0]
        refine wX_share (i := k + 1) hr hT hR1 (okW_who s f) ((hO k e (by omega)).keptF hf1 (by unfold shC; omega) (by unfold shC; omega)) (by omega) (by omega) hbk hg (fun S2 hf2 hg2 => ?_)
        rw [nI_1]
        refine ih (k + 1) S2 (by omega) (hf1.tr hf2) (fun w hw => ?_)
        rw [hg2 w hw]
        try dsimp only
        congr 1
        by_cases q : w < rWd r ∧ rFd r w = f
        · rw [if_pos q, if_pos q, if_pos q, Nat.min_eq_left (by omega), Nat.min_eq_left (by omega), Nat.add_assoc]
          congr 1
          show _ = nSum _ k + (if rFd r k + 1 = f then _ else 0)
          rw [if_pos (by omega)]
        · rw [if_neg q, if_neg q, if_neg q]
      · have e1 : pAt (rWd r) (rFd r) (-1) (nI k) = -1 := by unfold pAt; rw [idx_none (Or.inr (nI_le (by omega) (by omega)))]
        rw [e1]
        exact ⟨fun _ => skip (fun q => absurd q e), fun q => absurd q (m1_ne (by omega))⟩
  refine loop 12 0 S rfl frY.rf (fun w hw => ?_)
  rw [hh w hw, Nat.zero_min]
  dsimp only
  congr 1
  by_cases q : w < rWd r ∧ rFd r w = f
  · rw [if_pos q]; rfl
  · rw [if_neg q]; rfl
/-- by the words that must stand: which go on -/
def PB (r : zR) (n w : Nat) : Bool := decide (n &&& bFo r (rFd r w) (rWd r) = 0) || decide (n &&& bFo r (rFd r w) (rWd r) = 2 ^ w)
theorem wX_keepAlone {n : Nat} (hr : okR r) (hT : isT t) (hR : RX r S t) (hf : f < 100) (hn : n < 4096) (hh : shX h S) (hx : ∀ S', frY shC S S' → shX (fun w => if w < rWd r ∧ rFd r w = f ∧ PB r n w = false then 0 else h w) S' → Q .null S') : aWX (d + 3) 82 [.ref 124, .ref t, .int (nI f), .int (nI n)] S Q := by
  have hwd := hr.2.1
  have hand : n &&& bFo r f (rWd r) < 4096 := Nat.lt_of_le_of_lt Nat.and_le_left hn
  refine mX_Shares_keepAlone (wX_bitsOfFold hr hT hR hf ?_)
  simp only [aI]
  rw [nI_andN]
  have loop : ∀ m k S1, k + m = 12 → frY shC S S1 → shX (fun w => if w < k ∧ w < rWd r ∧ rFd r w = f ∧ PB r n w = false then 0 else h w) S1 → aBX (d + 2) 82 Q 8 [some (.ref 124), some (.ref t), some (.int (nI f)), none, some (.int (nI (n &&& bFo r f (rWd r)))), some (.int (nI k))] [] S1 := by
    intro m
    induction m with
    | zero =>
      intro k S1 hk hf1 hg
      obtain rfl : k = 12 := by omega
      refine bX_Shares_keepAlone_8 ⟨fun _ => hx S1 hf1 (fun w hw => ?_), fun q => absurd (show (12 : Int32) ≤ nI 12 by decide) q⟩
      rw [hg w hw]
      try dsimp only
      congr 1
      by_cases e : w < rWd r ∧ rFd r w = f ∧ PB r n w = false
      · rw [if_pos e, if_pos ⟨hw, e⟩]
      · rw [if_neg e, if_neg (fun q => e q.2)]
    | succ m ih =>
      intro k S1 hk hf1 hg
      have hR1 := hR.kept hT hf1 (shC_rc hT)
      refine bX_Shares_keepAlone_8 ⟨fun q => absurd q (nI_ge (a := k) (b := 12) (by omega) (by decide)), fun _ => wX_foldOf hr hT.re hR1.1 ?_⟩
      have skip : ¬ (k < rWd r ∧ rFd r k = f ∧ PB r n k = false) → aBX (d + 2) 82 Q 8 [some (.ref 124), some (.ref t), some (.int (nI f)), none, some (.int (nI (n &&& bFo r f (rWd r)))), some (.int (nI k + 1))] [] S1 := fun e => by
        rw [nI_1]
        refine ih (k + 1) S1 (by omega) hf1 (fun w hw => ?_)
        rw [hg w hw]
        try dsimp only
        congr 1
        by_cases q : w < k ∧ w < rWd r ∧ rFd r w = f ∧ PB r n w = false
        · rw [if_pos q, if_pos ⟨by omega, q.2⟩]
        · rw [if_neg q, if_neg (fun q2 => ?_)]
          rcases Nat.lt_or_ge w k with q3 | q3
          · exact q ⟨q3, q2.2⟩
          · rw [show w = k by omega] at q2
            exact e q2.2
      by_cases e : k < rWd r
      · have hf3 := (hr.2.2.2.2.2.1 k e).1
        have e1 : pAt (rWd r) (rFd r) (-1) (nI k) = nI (rFd r k) := by unfold pAt; rw [idx_some (by omega) e]
        have hp : (2 : Nat) ^ k < 2 ^ 12 := Nat.pow_lt_pow_right (by decide) (by omega)
        rw [e1]
        show (¬ nI (rFd r k) = nI f → _) ∧ (nI (rFd r k) = nI f → _)
        rw [nI_eq (by omega) (by omega), (smod12 k (by omega)).2, nI_eq0 (by omega), nI_eq (by omega) (by omega), nI_clamp (by omega)]
        refine ⟨fun e2 => skip (fun q => e2 q.2.1), fun e2 => ⟨fun e3 => skip (fun q => ?_), fun e3 => ⟨fun e4 => skip (fun q => ?_), fun e4 => ⟨nI_in (by omega) (by decide), ?_⟩⟩⟩⟩
        · have := q.2.2
          unfold PB at this
          rw [e2, decide_eq_true e3] at this
          cases this
        · have := q.2.2
          unfold PB at this
          rw [e2, decide_eq_true e4, Bool.or_true] at this
          cases this
        · rw [nI_1]
          refine ih (k + 1) _ (by omega) (hf1.tr (frY_sa rfl)) (fun w hw => ?_)
          rw [ga_sa]
          by_cases q : w = k
          · subst q
            dsimp only
            rw [if_pos ⟨rfl, rfl⟩, if_pos ⟨by omega, e, e2, by unfold PB; rw [e2, decide_eq_false e3, decide_eq_false e4]; rfl⟩]
            rfl
          · rw [if_neg (fun q2 => q q2.2), hg w hw]
            try dsimp only
            congr 1
            by_cases q3 : w < k ∧ w < rWd r ∧ rFd r w = f ∧ PB r n w = false
            · rw [if_pos q3, if_pos ⟨by omega, q3.2⟩]
            · rw [if_neg q3, if_neg (fun q2 => q3 ⟨by omega, q2.2⟩)]
      · have e1 : pAt (rWd r) (rFd r) (-1) (nI k) = -1 := by unfold pAt; rw [idx_none (Or.inr (nI_le (by omega) (by omega)))]
        rw [e1]
        exact ⟨fun _ => skip (fun q => e q.1), fun q => absurd q (m1_ne (by omega))⟩
  refine loop 12 0 S rfl frY.rf (fun w hw => ?_)
  dsimp only
  rw [hh w hw, if_neg (fun q => absurd q.1 (Nat.not_lt_zero _))]
theorem wX_atLast (hr : okR r) (hT : isT t) (hR : RX r S t) (hh : shX h S) (hx : Q (.int (nI (nSum (fun w => if rFd r w + 1 = rFo r then h w else 0) (rWd r)))) S) : aWX (d + 3) 76 [.ref 124, .ref t] S Q := by
  have hwd := hr.2.1
  have hfo := hr.2.2.1
  have ef : nI (rFo r) - 1 = nI (rFo r - 1) := by
    have := nI_pred (rFo r - 1)
    rw [show rFo r - 1 + 1 = rFo r by omega] at this
    exact this
  refine mX_Shares_atLast ?_
  have loop : ∀ m k, k + m = 12 → aBX (d + 2) 76 Q 4 [some (.ref 124), some (.ref t), some (.int (nI (nSum (fun w => if w < rWd r ∧ rFd r w + 1 = rFo r then h w else 0) k))), some (.int (nI k))] [] S := by
    intro m
    induction m with
    | zero =>
      intro k hk
      obtain rfl : k = 12 := by omega
      refine bX_Shares_atLast_4 ⟨fun _ => ?_, fun q => absurd (show (12 : Int32) ≤ nI 12 by decide) q⟩
      rw [nSum_pad (n := rWd r) 12 hwd (fun k h1 _ => if_neg (fun q => by omega)), nSum_ext (g := fun w => if rFd r w + 1 = rFo r then h w else 0) (rWd r) (fun k hk => by
        by_cases c : rFd r k + 1 = rFo r
        · rw [if_pos c, if_pos ⟨hk, c⟩]
        · rw [if_neg c, if_neg (fun q => c q.2)])]
      exact hx
    | succ m ih =>
      intro k hk
      have ih := ih (k + 1) (by omega)
      have hn : nSum (fun w => if w < rWd r ∧ rFd r w + 1 = rFo r then h w else 0) (k + 1) = nSum (fun w => if w < rWd r ∧ rFd r w + 1 = rFo r then h w else 0) k + (if k < rWd r ∧ rFd r k + 1 = rFo r then h k else 0) := rfl
      refine bX_Shares_atLast_4 ⟨fun q => absurd q (nI_ge (a := k) (b := 12) (by omega) (by decide)), fun _ => wX_foldOf hr hT.re hR.1 (gK_ok hT.re.1 ?_)⟩
      rw [hR.1.2.2.1, ef, Int32.add_zero, nI_1]
      by_cases e : k < rWd r
      · have hf3 := (hr.2.2.2.2.2.1 k e).1
        have e1 : pAt (rWd r) (rFd r) (-1) (nI k) = nI (rFd r k) := by unfold pAt; rw [idx_some (by omega) e]
        rw [e1, nI_eq (by omega) (by omega)]
        refine ⟨fun e2 => ?_, fun e2 => wX_of hh (by omega) ?_⟩
        · rw [hn, if_neg (fun q => e2 (by omega)), Nat.add_zero] at ih
          exact ih
        · rw [hn, if_pos ⟨e, by omega⟩, ← nI_add] at ih
          exact ih
      · have e1 : pAt (rWd r) (rFd r) (-1) (nI k) = -1 := by unfold pAt; rw [idx_none (Or.inr (nI_le (by omega) (by omega)))]
        rw [e1]
        rw [hn, if_neg (fun q => e q.1), Nat.add_zero] at ih
        exact ⟨fun _ => ih, fun q => absurd q (m1_ne (by omega))⟩
  exact loop 12 0 rfl
end
