/-! a word is written: the class -/
/-- a Standing beside the realms -/
def stG (t : Nat) : Prop := isSt t ∧ stN t ∧ (∀ i, stC t i → 41 ≤ i ∧ i ≤ 116) ∧ art t 0 ≠ t ∧ art t 1 ≠ t ∧ art t 2 ≠ t
theorem stC_113 {i : Nat} : stC 113 i ↔ (113 ≤ i ∧ i ≤ 116) := by
  have e1 : art 113 0 = 114 := rfl
  have e2 : art 113 1 = 115 := rfl
  have e3 : art 113 2 = 116 := rfl
  unfold stC
  rw [e1, e2, e3]
  omega
theorem stG_41 : stG 41 := ⟨isSt_all 41 (by decide) rfl, stN_41, fun i hi => by rw [stC_41] at hi; omega, by decide, by decide, by decide⟩
theorem stG_113 : stG 113 := ⟨isSt_all 113 (by decide) rfl, ⟨by decide, by decide, by decide⟩, fun i hi => by rw [stC_113] at hi; omega, by decide, by decide, by decide⟩
theorem stG.rc {t t' : Nat} (h : stG t) (hT : isT t') : ∀ i, rcX t' i → ¬ stC t i := fun i hi hc => by
  have := h.2.2.1 i hc
  unfold rcX at hi
  rcases hT with rfl | rfl <;> omega
theorem stG.sc {t : Nat} (h : stG t) : ∀ i, stC t i → ¬ scE i := fun i hi hc => by
  have := h.2.2.1 i hi
  unfold scE at hc
  omega
section
variable {d : Nat} {Q : Value → aS → Prop} {S : aS} {r : zR} {z : zS} {t t' w : Nat} {hs : List zS}
theorem stX_lay (hG : stG t) (hs1 : stX r z S t) : stX r (zLay z w) (si (sa (sa S (art t 0) w (nI (zLe z w - 1))) (art t 1) (zWr z) (nI w)) t 3 (nI (zWr z + 1))) t := by
  obtain ⟨-, ⟨n1, n2, n3⟩, -⟩ := hG
  obtain ⟨s1, s2, s3, s4, s5, s6, s7⟩ := hs1
  refine ⟨?_, ?_, ?_, ?_, fun f hf => ?_, fun v hv => ?_, fun j f hj hf => ?_⟩
  · rw [gi_si, if_neg (by simp)]; exact s1
  · rw [gi_si, if_pos ⟨rfl, rfl⟩]; rfl
  · rw [gi_si, if_neg (by simp)]; exact s3
  · rw [gi_si, if_neg (by simp)]; exact s4
  · have hf' : f < zWr z + 1 := hf
    show _ = nI (if f = zWr z then w else zSt z f)
    rw [ga_si, ga_sa]
    by_cases c : f = zWr z
    · rw [if_pos c, if_pos ⟨rfl, c⟩]
    · rw [if_neg c, if_neg (fun q => c q.2), ga_sa, if_neg (fun q => n1 q.1.symm)]
      exact s5 f (by omega)
  · show _ = nI (if v = w then zLe z v - 1 else zLe z v)
    rw [ga_si, ga_sa, if_neg (fun q => n1 q.1), ga_sa]
    by_cases c : v = w
    · rw [if_pos c, if_pos ⟨rfl, c⟩, c]
    · rw [if_neg c, if_neg (fun q => c q.2)]
      exact s6 v hv
  · rw [ga_si, ga_sa, if_neg (fun q => n3 q.1.symm), ga_sa, if_neg (fun q => n2 q.1.symm)]
    exact s7 j f hj hf
theorem stX_gd {g : Int32} (hs1 : stX r z S t) : stX r (zGd z g) (si S t 6 g) t := by
  obtain ⟨s1, s2, s3, s4, s5, s6, s7⟩ := hs1
  refine ⟨?_, ?_, ?_, ?_, s5, s6, s7⟩
  · rw [gi_si, if_neg (by simp)]; exact s1
  · rw [gi_si, if_neg (by simp)]; exact s2
  · rw [gi_si, if_pos ⟨rfl, rfl⟩]; rfl
  · rw [gi_si, if_neg (by simp)]; exact s4
theorem wX_putOnSpike (hr : okR r) (hz : okY r z) (hw : zWr z = rFo r) (hG : stG t) (hs1 : stX r z S t) (hx : ∀ S', frX (stC t) S S' → stX r (zTop (zCut z)) S' t → Q .null S') : aWX (d + 3) 92 [.ref t] S Q := by
  obtain ⟨ht, hn, hcc, na⟩ := id hG
  have hsp := hz.2.2.1
  have hfo := hr.2.2.1.2
  obtain ⟨y1, y2, y3, y4⟩ := okY_cut hz
  have k7 : ∀ S1, frX (stC t) S S1 → stX r (zCut z) S1 t → aBX (d + 2) 92 Q 7 [some (.ref t)] [] S1 := by
    intro S1 hf h1
    have hwy : zWr (zCut z) = rFo r := y3.trans hw
    generalize zCut z = y at *
    have e5 : gi S1 t 5 = nI (zSp y) := h1.2.2.2.1
    have e4 : nI (zSp y) * 4 = nI (4 * zSp y) := by rw [show (4 : Int32) = nI 4 from rfl, nI_mulN, Nat.mul_comm]
    refine bX_Standing_putOnSpike_7 (gK_ok ht.1 ?_)
    rw [e5, e4]
    refine ⟨fun q => absurd q (nI_pos (by omega)), fun _ => gK_ok ht.1 ⟨fun q => absurd q (nI_ge (a := zSp y) (b := 10) (by omega) (by decide)), fun _ => gK_ok ht.1 (gK_ok ht.1 (gK_ok ht.1 (gK_ok ht.2.2.1 ⟨?_, ?_⟩)))⟩⟩
    · refine ⟨ht.2.2.2.1, by decide, nI_pos (by omega), by decide, ?_, ?_⟩
      · rw [ht.2.2.2.2.2.1]; decide
      · rw [nI_clamp (by omega), ht.2.2.2.2.2.2, c4]; omega
    · refine bX_Standing_putOnSpike_25 (gK_ok ht.1 (gK_ok ht.1 ?_))
      have e6 : gi (scp S1 (art t 1) 0 (art t 2) (nI (4 * zSp y)) 4) t 5 + 1 = nI (zSp y + 1) := by
        show gi S1 t 5 + 1 = _
        rw [e5, nI_1]
      rw [e6]
      refine hx _ ((hf.tr (frX_scp (Or.inr (Or.inr (Or.inr rfl))))).tr (frX_si (Or.inl rfl))) ?_
      have hga : ∀ i k, ga (si (scp S1 (art t 1) 0 (art t 2) (nI (4 * zSp y)) 4) t 5 (nI (zSp y + 1))) i k = if i = art t 2 then (if 4 * zSp y ≤ k ∧ k < 4 * zSp y + 4 then ga S1 (art t 1) (0 + (k - 4 * zSp y)) else ga S1 (art t 2) k) else ga S1 i k := fun i k => ga_scpN S1 (art t 1) (art t 2) 0 (4 * zSp y) 4 (by omega) (by omega) (by omega) i k
      have hgi : ∀ k, k ≠ 5 → gi (si (scp S1 (art t 1) 0 (art t 2) (nI (4 * zSp y)) 4) t 5 (nI (zSp y + 1))) t k = gi S1 t k := fun k hk => by
        rw [gi_si, if_neg (fun q => hk q.2)]
        rfl
      obtain ⟨s1, s2, s3, s4, s5, s6, s7⟩ := h1
      refine ⟨(hgi 4 (by decide)).trans s1, (hgi 3 (by decide)).trans s2, (hgi 6 (by decide)).trans s3, ?_, fun f hf => ?_, fun v hv => ?_, fun j f hj hf => ?_⟩
      · rw [gi_si, if_pos ⟨rfl, rfl⟩]
        rfl
      · rw [hga, if_neg hn.2.2]
        exact s5 f hf
      · rw [hga, if_neg hn.2.1]
        exact s6 v hv
      · have hj' : j < zSp y + 1 := hj
        rw [hga, if_pos rfl]
        show _ = nI (if j = zSp y then zSt y f else zSk y j f)
        by_cases c : j = zSp y
        · rw [if_pos c, if_pos (by omega), show 0 + (4 * j + f - 4 * zSp y) = f by omega]
          exact s5 f (by omega)
        · rw [if_neg c, if_neg (by omega)]
          exact s7 j f (by omega) hf
  refine mX_Standing_putOnSpike (gK_ok ht.1 (gK_ok ht.1 ?_))
  rw [hs1.2.2.2.1, show (10 : Int32) = nI 10 from rfl, nI_ltI (by omega) (by decide)]
  refine ⟨fun c => k7 S frX.rf ?_, fun c => ?_⟩
  · unfold zCut
    rw [if_neg (by omega)]
    exact hs1
  · refine wX_closeGapY (w := 0) hr hz ht hn (by omega) hs1 (fun S1 hf h1 => k7 S1 hf ?_)
    unfold zCut
    rw [if_pos (by omega)]
    exact h1
def pcX (t i : Nat) : Prop := stC t i ∨ scE i
theorem can1 (hr : okR r) (hw : w < rWd r) (hc : canW r z w = true) : pCan r z (nI w) = 1 := by
  unfold pCan
  rw [idx_some (by have := hr.2.1; omega) hw, Option.filter_some, if_pos hc]
  rfl
theorem wX_put (hr : okR r) (hz : okZ r z) (hG : stG t) (hT : isT t') (hw : w < rWd r) (hc : canW r z w = true) (h : RX r S t') (hs1 : stX r z S t) (hx : ∀ S', frY (pcX t) S S' → stX r (zPut r z w) S' t → Q .null S') : aWX (d + 4) 91 [.ref t, .ref t', .int (nI w)] S Q := by
  obtain ⟨ht, hn, hcc, na0, na1, na2⟩ := id hG
  have ht' := hT.re
  have hwd := hr.2.1
  have hwr := hz.2.1
  have hfo := hr.2.2.1.2
  have hle := hz.2.2.2.2.1 w hw
  have hc1 := (Bool.and_eq_true _ _).mp (show (decide (rFd r w = zWr z) && decide (0 < zLe z w)) = true from hc)
  have hfd := of_decide_eq_true hc1.1
  have hl := of_decide_eq_true hc1.2
  have eL : ga S (art t 0) w = nI (zLe z w) := hs1.2.2.2.2.2.1 w hw
  have eL2 : nI (zLe z w) - 1 = nI (zLe z w - 1) := by
    have := nI_pred (zLe z w - 1)
    rw [show zLe z w - 1 + 1 = zLe z w by omega] at this
    exact this
  have e3 : gi S t 3 = nI (zWr z) := hs1.2.1
  have hst := stX_lay (w := w) hG hs1
  have hf1 : frY (pcX t) S (si (sa (sa S (art t 0) w (nI (zLe z w - 1))) (art t 1) (zWr z) (nI w)) t 3 (nI (zWr z + 1))) := ((frY_sa (Or.inl (Or.inr (Or.inl rfl)))).tr (frY_sa (Or.inl (Or.inr (Or.inr (Or.inl rfl)))))).tr (frY_si (Or.inl (Or.inl rfl)))
  have rcp : ∀ i, rcX t' i → ¬ pcX t i := fun i hi hc => hc.elim (hG.rc hT i hi) (rc_sc hT i hi)
  have h1 := h.kept hT hf1 rcp
  refine mX_Standing_put (gK_ok ht.1 (wX_canPut hr hz ht hs1 ht' h.1 ?_))
  rw [can1 hr hw hc]
  refine ⟨fun q => absurd q (by decide), fun _ => gK_ok ht.1 ?_⟩
  rw [e3]
  refine ⟨fun q => absurd q (nI_pos (by omega)), fun _ => gK_ok ht.1 ⟨fun _ => ?_, fun q => absurd (nI_lt (a := zWr z) (b := 4) (by omega) (by decide)) q⟩⟩
  simp only [gi_sa, e3, nI_clamp (show w < 2 ^ 31 by omega), nI_clamp (show zWr z < 2 ^ 31 by omega), eL, eL2, nI_1]
  refine gK_ok ht.1 (gK_ok ht.2.1 ⟨by rw [ht.2.2.2.2.1]; exact nI_in (by omega) (by decide), gK_ok ht.2.1 ⟨by rw [ht.2.2.2.2.1]; exact nI_in (by omega) (by decide), gK_ok ht.1 (gK_ok ht.1 (gK_ok ht.2.2.1 ⟨by rw [ht.2.2.2.2.2.1]; exact nI_in (by omega) (by decide), gK_ok ht.1 (gK_ok ht.1 (gK_ok ht.1 (gK_ok ht'.1 ?_)))⟩))⟩⟩)
  generalize hS1 : si (sa (sa S (art t 0) w (nI (zLe z w - 1))) (art t 1) (zWr z) (nI w)) t 3 (nI (zWr z + 1)) = S1 at *
  rw [show gi S1 t 3 = nI (zWr z + 1) from hst.2.1, h1.1.2.2.1, nI_ltI (by omega) (by omega)]
  unfold zPut at hx
  refine ⟨fun c => ?_, fun c => gK_ok ht.1 (gK_ok ht.1 (gK_ok ht.1 ?_))⟩
  · rw [if_pos c] at hx
    exact hx S1 hf1 hst
  rw [if_neg c] at hx
  have hwf : zWr (zLay z w) = rFo r := by show zWr z + 1 = rFo r; omega
  have hY := okY_lay hz hw hfd
  rw [show gi S1 t 5 = nI (zSp (zLay z w)) from hst.2.2.2.1, show gi S1 t 6 = zGo (zLay z w) from hst.2.2.1]
  refine wX_goodOf (fr := 0) (wd := zSt (zLay z w)) hr hT h1 ht.2.2.1 (hG.sc _ (Or.inr (Or.inr (Or.inl rfl)))) (by rw [ht.2.2.2.2.2.1]; omega) (by rw [ht.2.2.2.2.2.1]; decide) (fun i hi => ⟨by rw [Nat.zero_add]; exact hst.2.2.2.2.1 i (by omega), (hY.2.2.2.1 i (by omega)).1⟩) (fun S5 hf5 => ?_)
  generalize zLay z w = y at *
  have hs5 := hst.keptY hf5 hG.sc
  have hf5' := hf1.tr (hf5.le (fun i hi => Or.inr hi))
  refine gK_ok ht.1 (wX_putOnSpike hr (z := zGd y (zGo y + nI (doV r y))) hY hwf hG (stX_gd hs5) (fun S8 hf8 hs8 => ?_))
  have hf8' : frY (pcX t) S S8 := (hf5'.tr (frY_si (Or.inl (Or.inl rfl)))).tr (hf8.Y.le (fun i hi => Or.inl hi))
  have h8 := h.kept hT (hf8'.tr (frY_si (i := t) (k := 3) (v := 0) (Or.inl (Or.inl rfl)))) rcp
  refine bX_Standing_put_52 (gK_ok ht.1 (gK_ok ht.1 (wX_seatBehind hr ht' h8.1 (gK_ok ht.1 ?_))))
  have hsy : zSe (zTop (zCut (zGd y (zGo y + nI (doV r y))))) = zSe y := by
    show zSe (zCut (zGd y (zGo y + nI (doV r y)))) = zSe y
    unfold zCut
    split <;> rfl
  have e4 : gi (si S8 t 3 0) t 4 = nI (zSe y) := by rw [gi_si, if_neg (by simp), hs8.1, hsy]
  have en : pNext r (gi (si S8 t 3 0) t 4) = nI (nxt r (zTop (zCut (zGd y (zGo y + nI (doV r y)))))) := by
    have hwr5 := hr.1
    unfold pNext nxt
    rw [e4, hsy]
    by_cases q : rWr r = 0
    · rw [if_pos q, if_pos q]; rfl
    · rw [if_neg q, if_neg q, nI_1]
      have hse : zSe y < rWr r := hY.1.elim (fun a => a) (fun a => absurd a.1 q)
      exact md5 _ (by omega) q _ (by omega)
  rw [en]
  refine hx _ (hf8'.tr ((frY_si (Or.inl (Or.inl rfl))).tr (frY_si (Or.inl (Or.inl rfl))))) ?_
  obtain ⟨s1, s2, s3, s4, s5, s6, s7⟩ := hs8
  refine ⟨?_, ?_, ?_, ?_, fun f hf => absurd hf (Nat.not_lt_zero _), s6, s7⟩
  · rw [gi_si, if_pos ⟨rfl, rfl⟩]; rfl
  · rw [gi_si, if_neg (by simp), gi_si, if_pos ⟨rfl, rfl⟩]; rfl
  · rw [gi_si, if_neg (by simp), gi_si, if_neg (by simp)]; exact s3
  · rw [gi_si, if_neg (by simp), gi_si, if_neg (by simp)]; exact s4
theorem wX_put0 {x : Int32} (hr : okR r) (hz : okZ r z) (hG : stG t) (hT : isT t') (hc : pCan r z x = 0) (h : RX r S t') (hs1 : stX r z S t) (hx : Q .null S) : aWX (d + 4) 91 [.ref t, .ref t', .int x] S Q := by
  obtain ⟨ht, hn, hcc, na0, na1, na2⟩ := id hG
  refine mX_Standing_put (gK_ok ht.1 (wX_canPut hr hz ht hs1 hT.re h.1 ?_))
  rw [hc]
  exact ⟨fun _ => hx, fun q => absurd rfl q⟩
theorem can_or (hr : okR r) {x : Int32} : pCan r z x = 0 ∨ ∃ w, x = nI w ∧ w < rWd r ∧ canW r z w = true := by
  have hwd := hr.2.1
  unfold pCan
  rcases idx_cases (rWd r) (by omega) x with ⟨e, -⟩ | ⟨w, hw, rfl, e⟩
  · rw [e]; exact Or.inl rfl
  · rw [e, Option.filter_some]
    by_cases q : canW r z w = true
    · exact Or.inr ⟨w, rfl, hw, q⟩
    · rw [if_neg q]; exact Or.inl rfl
theorem wX_write {x : Int32} (hr : okR r) (hz : okZ r z) (hg : gr S 0 2 = t) (hT : isT t) (h : RX r S t) (hs1 : stX r z S 41) (hh : hsX r hs S) (h0 : pCan r z x = 0 → Q (.int (-1)) S)
    (hx : ∀ w, x = nI w → w < rWd r → canW r z w = true → ∀ S', frY (fun i => hC i ∨ pcX 41 i) S S' → hsX r (hKeep hs z) S' → stX r (zPut r z w) S' 41 → Q (.int (nI (zWr (zPut r z w)))) S') : aWX (d + 5) 124 [.ref 0, .int x] S Q := by
  refine mX_FoldedRealm_write ?_
  rw [hg]
  refine wX_canPut hr hz stG_41.1 hs1 hT.re h.1 ?_
  rcases can_or (z := z) hr (x := x) with c | ⟨w, rfl, hw, c⟩
  · rw [c]
    exact ⟨fun q => absurd rfl q, fun _ => h0 c⟩
  · rw [can1 hr hw c]
    refine ⟨fun _ => wX_keep hr hz hh hs1 (fun S5 hf hk => ?_), fun q => absurd q (by decide)⟩
    have hg5 : gr S5 0 2 = t := (hf.Y.gr 0 2).trans hg
    show aWX (d + 4) 91 [.ref 41, .ref (gr S5 0 2), .int (nI w)] S5 _
    rw [hg5]
    have hreC : ∀ i, rcX t i → ¬ hC i := by
      intro i hi
      unfold rcX at hi
      unfold hC
      rcases hT with rfl | rfl <;> omega
    refine wX_put hr hz stG_41 hT hw c (h.kept hT hf.Y hreC) (hs1.kept hf (fun i hi => by rw [stC_41] at hi; unfold hC; omega)) (fun S6 hf6 hs6 => ?_)
    show Q (.int (gi S6 41 3)) S6
    rw [show gi S6 41 3 = nI (zWr (zPut r z w)) from hs6.2.1]
    refine hx w rfl hw c S6 ((hf.Y.le (fun i hi => Or.inl hi)).tr (hf6.le (fun i hi => Or.inr hi))) ?_ hs6
    obtain ⟨fi, g0, g1, g2, g3, g4⟩ := hk
    have n6 : ∀ i, hC i → ¬ pcX 41 i := fun i hi hc => by
      unfold hC at hi
      unfold pcX scE at hc
      rw [stC_41] at hc
      omega
    refine ⟨fi, g0, (hf6.1 47 1 (n6 47 (by unfold hC; omega))).1.trans g1, (hf6.1 47 2 (n6 47 (by unfold hC; omega))).1.trans g2, g3, fun k z1 hz1 => ?_⟩
    obtain ⟨b1, b2⟩ := g4 k z1 hz1
    refine ⟨b1, b2.keptY hf6 (fun i hi => n6 i ?_)⟩
    rw [stC_h (Nat.mod_lt _ (by decide))] at hi
    have := Nat.mod_lt (fi + k) (show 0 < 16 by decide)
    unfold hC
    omega
end
