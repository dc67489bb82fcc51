/-! the seat moves on; a step back: both sides -/
theorem md5 : ∀ b, b < 6 → ¬ b = 0 → ∀ a, a < 20 → nI a - nI a / nI b * nI b = nI (a % b) := by decide +kernel
def zSeat (z : zS) (n : Nat) : zS := ((n, zWr z, zSp z), z.2)
def canP (r : zR) (z : zS) : Bool := decide (zWr z = 0) && decide (0 < rWr r)
def nxS (r : zR) (z : zS) : Nat := (zSe z + 1) % rWr r
theorem okZ_seat {r : zR} {z : zS} {n : Nat} (h : okZ r z) (hn : n < rWr r) : okZ r (zSeat z n) := ⟨Or.inl hn, h.2⟩
section
variable {d : Nat} {Q : Value → aS → Prop} {S : aS} {r : zR} {z : zS} {hs : List zS} {t t' : Nat}
theorem stM_seat {f : Nat → Int32} {n : Nat} (h : stM r z f 0) {g : Nat → Int32} (h0 : g 0 = nI n) (hg : ∀ k, 0 < k → g k = f k) : stM r (zSeat z n) g 0 := by
  obtain ⟨s1, s2, s3, s4, s5, s6, s7⟩ := h
  refine ⟨h0, (hg _ (by omega)).trans s2, (hg _ (by omega)).trans s3, (hg _ (by omega)).trans s4, fun k hk => (hg _ (by omega)).trans (s5 k hk), fun w hw => (hg _ (by omega)).trans (s6 w hw), fun k e hk he => (hg _ (by omega)).trans (s7 k e hk he)⟩
theorem wM_canPass (hr : okR r) (hz : okZ r z) (hrl : rlM r S) (hs1 : stM r z (ga S 1032) 0) (h : Q (.int (if canP r z = true then 1 else 0)) S) : aWM (d + 1) 60 [.ref 1000] S Q := by
  have hw := hr.1
  have hwr := hz.2.1
  have hfo := hr.2.2.1.2
  have e1 : ga S 1032 (1 : Int32).toNatClampNeg = nI (zWr z) := hs1.2.1
  have e2 : ga S 1002 (0 : Int32).toNatClampNeg = nI (rWr r) := hrl.1
  refine mM_canPass ?_
  simp only [e1, e2, nI_eq0 (show zWr z < 2 ^ 31 by omega), nI_le0 (show rWr r < 2 ^ 31 by omega), true_or, or_true, true_and]
  unfold canP at h
  refine ⟨vin (by decide), fun c => ?_, fun c => ⟨vin (by decide), fun c2 => ?_, fun c2 => ?_⟩⟩
  · rw [decide_eq_false c] at h
    exact h
  · rw [decide_eq_false (show ¬ 0 < rWr r by omega), Bool.and_false] at h
    exact h
  · rw [decide_eq_true c, decide_eq_true (show 0 < rWr r by omega)] at h
    exact h
theorem wX_canMoveSeat (hr : okR r) (hz : okZ r z) (ht : isSt t) (hs1 : stX r z S t) (ht' : isRe t') (hrl : rlX r S t') (h : Q (.int (if canP r z = true then 1 else 0)) S) : aWX (d + 1) 94 [.ref t, .ref t'] S Q := by
  have hw := hr.1
  have hwr := hz.2.1
  have hfo := hr.2.2.1.2
  refine mX_Standing_canMoveSeat ?_
  simp only [aG, gK, ht.1, ht'.1, hs1.2.1, hrl.1, Nat.beq_refl, cond_true, nI_eq0 (show zWr z < 2 ^ 31 by omega), nI_le0 (show rWr r < 2 ^ 31 by omega), true_or, or_true, true_and]
  unfold canP at h
  refine ⟨fun c => ?_, fun c => ⟨fun c2 => ?_, fun c2 => ?_⟩⟩
  · rw [decide_eq_false c] at h
    exact h
  · rw [decide_eq_false (show ¬ 0 < rWr r by omega), Bool.and_false] at h
    exact h
  · rw [decide_eq_true c, decide_eq_true (show 0 < rWr r by omega)] at h
    exact h
theorem wM_pass (hr : okR r) (hz : okZ r z) (hrl : rlM r S) (hs1 : stM r z (ga S 1032) 0) (hh : hsM r hs S) (h0 : canP r z = false → Q (.int (-1)) (si S 1000 0 0))
    (h : canP r z = true → ∀ S', frM (fun i => i = 1032 ∨ i = 1035) (fun k => k = 0 ∨ k = 50) S S' → hsM r (hKeep hs z) S' → stM r (zSeat z (nxS r z)) (ga S' 1032) 0 → Q (.int (nI (nxS r z))) S') : aWM (d + 3) 62 [.ref 1000] S Q := by
  have hw := hr.1
  refine mM_pass ?_
  refine wM_canPass (z := z) hr hz hrl hs1 ?_
  cases hc : canP r z with
  | false =>
    exact ⟨fun q => absurd rfl q, fun _ => h0 hc⟩
  | true =>
    have hwp : 0 < rWr r := by
      unfold canP at hc
      exact of_decide_eq_true ((Bool.and_eq_true _ _).mp hc).2
    have hse : zSe z < rWr r := by
      rcases hz.1 with q | q
      · exact q
      · omega
    refine ⟨fun _ => ?_, fun q => absurd q (by decide)⟩
    have hh0 : hsM r hs (si S 1000 0 0) := ⟨by rw [gi_si, if_neg (by decide)]; exact hh.1, hh.2⟩
    refine wM_keeps hr hz hh0 hs1 (fun S5 hf hk => ?_)
    have f1032 : ∀ k, ga S5 1032 k = ga S 1032 k := fun k => hf.1 1032 k (show ¬ 1032 = 1035 by decide)
    have e1 : ga S5 1032 (0 : Int32).toNatClampNeg = nI (zSe z) := (f1032 0).trans hs1.1
    have e2 : ga S5 1002 (0 : Int32).toNatClampNeg = nI (rWr r) := (hf.1 1002 0 (show ¬ 1002 = 1035 by decide)).trans hrl.1
    have e3 : nI (zSe z) + 1 - (nI (zSe z) + 1) / nI (rWr r) * nI (rWr r) = nI (nxS r z) := by
      rw [nI_1]
      exact md5 _ (by omega) (by omega) _ (by omega)
    show vp_in 0 60 ∧ vp_in 0 8 ∧ _
    rw [e1, e2, e3]
    refine ⟨vin (by decide), vin (by decide), by rw [nI_eq0 (by omega)]; omega, vin (by decide), vin (by decide), ?_⟩
    rw [ga_sa, if_pos ⟨rfl, rfl⟩]
    refine h hc _ (frM.tr (frM.tr (frM_si (Or.inl rfl)) (hf.le (fun i hi => Or.inr hi) (fun k hk => Or.inr hk))) (frM_sa (Or.inl rfl))) ⟨hk.1, hk.2.1, fun k z1 hz1 => ?_⟩ (stM_seat hs1 ?_ (fun k hk => ?_))
    · obtain ⟨b1, b2⟩ := hk.2.2 k z1 hz1
      have e4 : ga (sa S5 1032 (0 : Int32).toNatClampNeg (nI (nxS r z))) 1035 = ga S5 1035 := by
        funext i
        rw [ga_sa, if_neg (by omega)]
      rw [e4]
      exact ⟨b1, b2⟩
    · rw [ga_sa, if_pos ⟨rfl, rfl⟩]
    · rw [ga_sa, if_neg (fun q => absurd q.2 (by show ¬ k = 0; omega))]
      exact f1032 k
end
