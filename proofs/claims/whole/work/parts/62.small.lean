/-! small questions: who writes, what can be written -/
def pWho (r : zR) (x y : Int32) : Int32 := if rWr r = 0 then -1 else (x + y) - (x + y) / nI (rWr r) * nI (rWr r)
def pNext (r : zR) (x : Int32) : Int32 := if rWr r = 0 then 0 else (x + 1) - (x + 1) / nI (rWr r) * nI (rWr r)
section
variable {d : Nat} {Q : Value → aS → Prop} {S : aS} {t : Nat} {r : zR} {z : zS} {x y : Int32}
theorem nI_le0 {n : Nat} (h : n < 2 ^ 31) : nI n ≤ 0 ↔ n = 0 := by
  rw [show (0 : Int32) = nI 0 from rfl, nI_leI h (by decide)]
  omega
theorem nI_eq0 {n : Nat} (h : n < 2 ^ 31) : nI n = 0 ↔ n = 0 := by
  rw [show (0 : Int32) = nI 0 from rfl, nI_eq h (by decide)]
theorem wX_writerAt (hr : okR r) (ht : isRe t) (hs : rlX r S t) (h : Q (.int (pWho r x y)) S) : aWX (d + 1) 71 [.ref t, .int x, .int y] S Q := by
  have hw := hr.1
  refine mX_Realm_writerAt ?_
  simp only [aG, gK, ht.1, hs.1, Nat.beq_refl, cond_true, nI_le0 (show rWr r < 2 ^ 31 by omega), nI_eq0 (show rWr r < 2 ^ 31 by omega)]
  unfold pWho at h
  by_cases c : rWr r = 0
  · rw [if_pos c] at h
    exact ⟨fun _ => h, fun q => absurd c q⟩
  · rw [if_neg c] at h
    exact ⟨fun q => absurd q c, fun _ => ⟨c, h⟩⟩
theorem wX_seatBehind (hr : okR r) (ht : isRe t) (hs : rlX r S t) (h : Q (.int (pNext r x)) S) : aWX (d + 1) 72 [.ref t, .int x] S Q := by
  have hw := hr.1
  refine mX_Realm_seatBehind ?_
  simp only [aG, gK, ht.1, hs.1, Nat.beq_refl, cond_true, nI_le0 (show rWr r < 2 ^ 31 by omega), nI_eq0 (show rWr r < 2 ^ 31 by omega)]
  unfold pNext at h
  by_cases c : rWr r = 0
  · rw [if_pos c] at h
    exact ⟨fun _ => h, fun q => absurd c q⟩
  · rw [if_neg c] at h
    exact ⟨fun q => absurd q c, fun _ => ⟨c, h⟩⟩
theorem wM_writerOf (hr : okR r) (hs : rlM r S) (h : Q (.int (pWho r x y)) S) : aWM (d + 1) 44 [.ref 1000, .int x, .int y] S Q := by
  have hw := hr.1
  have e1 : ga S 1002 (0 : Int32).toNatClampNeg = nI (rWr r) := hs.1
  refine mM_writerOf ?_
  simp only [e1, nI_eq0 (show rWr r < 2 ^ 31 by omega)]
  unfold pWho at h
  by_cases c : rWr r = 0
  · rw [if_pos c] at h
    exact ⟨vin (by decide), fun q => absurd c q, fun _ => h⟩
  · rw [if_neg c] at h
    exact ⟨vin (by decide), fun _ => ⟨vin (by decide), c, h⟩, fun q => absurd q c⟩
theorem wM_isTold (hr : okR r) (hs : rlM r S) (h : Q (.int (bI (idx (rWd r) x))) S) : aWM (d + 1) 43 [.ref 1000, .int x] S Q := by
  have hw := hr.2.1
  have e1 : ga S 1002 (1 : Int32).toNatClampNeg = nI (rWd r) := hs.2.1
  refine mM_isTold ?_
  simp only [e1, true_or, or_true, true_and]
  rcases idx_cases (rWd r) (by omega) x with ⟨e, c | ⟨c1, c2⟩⟩ | ⟨j, hj, rfl, e⟩
  · rw [e] at h
    exact ⟨fun _ => h, fun q => absurd c q⟩
  · rw [e] at h
    exact ⟨fun q => absurd q c1, fun _ => ⟨vin (by decide), fun _ => h, fun q => absurd c2 q⟩⟩
  · rw [e] at h
    exact ⟨fun q => absurd q (nI_pos (by omega)), fun _ => ⟨vin (by decide), fun q => absurd q (nI_ge hj (by omega)), fun _ => h⟩⟩
theorem wM_isWriter (hr : okR r) (hs : rlM r S) (h : Q (.int (bI (idx (rWr r) x))) S) : aWM (d + 1) 42 [.ref 1000, .int x] S Q := by
  have hw := hr.1
  have e1 : ga S 1002 (0 : Int32).toNatClampNeg = nI (rWr r) := hs.1
  refine mM_isWriter ?_
  simp only [e1, true_or, or_true, true_and]
  rcases idx_cases (rWr r) (by omega) x with ⟨e, c | ⟨c1, c2⟩⟩ | ⟨j, hj, rfl, e⟩
  · rw [e] at h
    exact ⟨fun _ => h, fun q => absurd c q⟩
  · rw [e] at h
    exact ⟨fun q => absurd q c1, fun _ => ⟨vin (by decide), fun _ => h, fun q => absurd c2 q⟩⟩
  · rw [e] at h
    exact ⟨fun q => absurd q (nI_pos (by omega)), fun _ => ⟨vin (by decide), fun q => absurd q (nI_ge hj (by omega)), fun _ => h⟩⟩
/-- of a word that is told: how many are left -/
theorem wX_leftOf {w : Nat} (hr : okR r) (hw : w < rWd r) (ht : isSt t) (hs : stX r z S t) (h : Q (.int (nI (zLe z w))) S) : aWX (d + 1) 88 [.ref t, .int (nI w)] S Q := by
  have hw2 := hr.2.1
  refine mX_Standing_leftOf ?_
  simp only [aG, gK, ht.1, ht.2.1, ht.2.2.2.2.1, Nat.beq_refl, cond_true, nI_clamp (show w < 2 ^ 31 by omega), hs.2.2.2.2.2.1 w hw]
  exact ⟨fun q => absurd q (nI_pos (by omega)), fun _ => ⟨fun q => absurd q (nI_ge (a := w) (b := 12) (by omega) (by decide)), fun _ => ⟨nI_in (by omega) (by decide), h⟩⟩⟩
/-- whether a word can be written now -/
def canW (r : zR) (z : zS) (w : Nat) : Bool := decide (rFd r w = zWr z) && decide (0 < zLe z w)
def pCan (r : zR) (z : zS) (x : Int32) : Int32 := bI ((idx (rWd r) x).filter (canW r z))
theorem wX_canPut {t' : Nat} (hr : okR r) (hz : okZ r z) (ht : isSt t) (hs : stX r z S t) (ht' : isRe t') (hrl : rlX r S t') (h : Q (.int (pCan r z x)) S) : aWX (d + 3) 90 [.ref t, .ref t', .int x] S Q := by
  have hw := hr.2.1
  have hf := hr.2.2.1.2
  have hwr := hz.2.1
  refine mX_Standing_canPut ?_
  simp only [aG, gK, ht.1, Nat.beq_refl, cond_true, true_or, or_true, true_and]
  refine wX_hasWord hr ht' hrl ?_
  unfold pCan at h
  rcases idx_cases (rWd r) (by omega) x with ⟨e, -⟩ | ⟨w, hj, rfl, e⟩
  · rw [e] at h ⊢
    exact ⟨fun _ => h, fun q => absurd rfl q⟩
  · rw [e] at h ⊢
    have hfw := (hr.2.2.2.2.2.1 w hj).1
    have hle := hz.2.2.2.2.1 w hj
    refine ⟨fun q => absurd q bI_some, fun _ => wX_foldOf hr ht' hrl ?_⟩
    have e2 : pAt (rWd r) (rFd r) (-1) (nI w) = nI (rFd r w) := by unfold pAt; rw [e]
    rw [e2]
    simp only [aI, hs.2.1, nI_eq (show rFd r w < 2 ^ 31 by omega) (show zWr z < 2 ^ 31 by omega)]
    rw [Option.filter_some] at h
    by_cases c : rFd r w = zWr z
    · refine ⟨fun q => absurd c q, fun _ => wX_leftOf hr hj ht hs ?_⟩
      simp only [aI, nI_le0 (show zLe z w < 2 ^ 31 by omega)]
      by_cases c2 : zLe z w = 0
      · rw [if_neg (by unfold canW; rw [decide_eq_false (show ¬ 0 < zLe z w by omega)]; simp)] at h
        exact ⟨fun _ => h, fun q => absurd c2 q⟩
      · rw [if_pos (by unfold canW; rw [decide_eq_true c, decide_eq_true (show 0 < zLe z w by omega)]; rfl)] at h
        exact ⟨fun q => absurd q c2, fun _ => h⟩
    · rw [if_neg (by unfold canW; rw [decide_eq_false c]; simp)] at h
      exact ⟨fun _ => h, fun q => absurd q c⟩
theorem wM_canWrite {w : Nat} (hr : okR r) (hz : okZ r z) (hw : w < rWd r) (hrl : rlM r S) (hs : stM r z (ga S 1032) 0) (h : Q (.int (pCan r z (nI w))) S) : aWM (d + 1) 55 [.ref 1000, .int (nI w)] S Q := by
  have hw2 := hr.2.1
  have hf := hr.2.2.1.2
  have hwr := hz.2.1
  have hfw := (hr.2.2.2.2.2.1 w hw).1
  have hle := hz.2.2.2.2.1 w hw
  have e1 : ga S 1032 (1 : Int32).toNatClampNeg = nI (zWr z) := hs.2.1
  have e2 : (8 : Int32) + nI w = nI (8 + w) := nI_add 8 w
  have e3 : ga S 1032 (8 + w) = nI (zLe z w) := by
    have := hs.2.2.2.2.2.1 w hw
    rw [Nat.zero_add] at this
    exact this
  refine mM_canWrite ?_
  simp only [e1, e2, nI_clamp (show w < 2 ^ 31 by omega), nI_clamp (show 8 + w < 2 ^ 31 by omega), hrl.2.2.2.2.2.1 w hw, e3, nI_eq (show rFd r w < 2 ^ 31 by omega) (show zWr z < 2 ^ 31 by omega), nI_le0 (show zLe z w < 2 ^ 31 by omega), true_or, or_true, true_and]
  unfold pCan at h
  rw [idx_some (by omega) hw, Option.filter_some] at h
  refine ⟨nI_in (by omega) (by decide), vin (by decide), fun c => ?_, fun c => ⟨nI_in (by omega) (by decide), fun c2 => ?_, fun c2 => ?_⟩⟩
  · rw [if_neg (by unfold canW; rw [decide_eq_false c]; simp)] at h
    exact h
  · rw [if_neg (by unfold canW; rw [decide_eq_false (show ¬ 0 < zLe z w by omega)]; simp)] at h
    exact h
  · rw [if_pos (by unfold canW; rw [decide_eq_true c, decide_eq_true (show 0 < zLe z w by omega)]; rfl)] at h
    exact h
end
