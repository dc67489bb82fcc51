/-! a whole is burnt: both sides -/
def zLf (z : zS) (w x : Nat) : zS := (z.1, zGo z, zSt z, (fun v => if v = w then x else zLe z v), zSk z)
def zUp (z : zS) (k : Nat) : Nat → zS
  | 0 => z
  | n + 1 => zLf (zUp z k n) (zSk z k n) (min 9 (zLe (zUp z k n) (zSk z k n) + 1))
def zBurn (r : zR) (z : zS) (k : Nat) : zS := zOff (zUp z k (rFo r)) k
theorem okZ_lf {r : zR} {z : zS} {w x : Nat} (h : okZ r z) (hx : x ≤ 9) : okZ r (zLf z w x) := by
  obtain ⟨h1, h2, h3, h4, h5, h6⟩ := h
  refine ⟨h1, h2, h3, h4, fun v hv => ?_, h6⟩
  show (if v = w then x else zLe z v) ≤ 9
  by_cases c : v = w
  · rw [if_pos c]; exact hx
  · rw [if_neg c]; exact h5 v hv
theorem zUp_same (z : zS) (k : Nat) : ∀ n, (zUp z k n).1 = z.1 ∧ zGo (zUp z k n) = zGo z ∧ zSt (zUp z k n) = zSt z ∧ zSk (zUp z k n) = zSk z
  | 0 => ⟨rfl, rfl, rfl, rfl⟩
  | n + 1 => zUp_same z k n
theorem okZ_up {r : zR} {z : zS} (k : Nat) (h : okZ r z) : ∀ n, okZ r (zUp z k n)
  | 0 => h
  | n + 1 => okZ_lf (okZ_up k h n) (Nat.min_le_left _ _)
theorem okZ_burn {r : zR} {z : zS} {k : Nat} (h : okZ r z) (hk : k < zSp z) : okZ r (zBurn r z k) := okZ_off (okZ_up k h _) (by
  have := (zUp_same z k (rFo r)).1
  unfold zSp at hk ⊢
  rw [this]
  exact hk)
theorem min9 : ∀ a, a ≤ 9 → (if nI (a + 1) < (9 : Int32) then nI (a + 1) else 9) = nI (min 9 (a + 1)) := by decide +kernel
section
variable {d : Nat} {Q : Value → aS → Prop} {S : aS} {r : zR} {z : zS} {t t' w k : Nat} {hs : List zS}
theorem stM_lf {x : Nat} (hr : okR r) (hz : okZ r z) (hw : w < rWd r) (h : stM r z (ga S 1032) 0) : stM r (zLf z w x) (ga (sa S 1032 (8 + w) (nI x)) 1032) 0 := by
  have hwd := hr.2.1
  have hwr := hz.2.1
  have hfo := hr.2.2.1.2
  obtain ⟨s1, s2, s3, s4, s5, s6, s7⟩ := h
  have hg : ∀ j, j ≠ 8 + w → ga (sa S 1032 (8 + w) (nI x)) 1032 j = ga S 1032 j := fun j hj => by rw [ga_sa, if_neg (fun q => hj q.2)]
  refine ⟨(hg _ (by omega)).trans s1, (hg _ (by omega)).trans s2, (hg _ (by omega)).trans s3, (hg _ (by omega)).trans s4, fun f hf => ?_, fun v hv => ?_, fun j f hj hf => (hg _ (by omega)).trans (s7 j f hj hf)⟩
  · have hf' : f < zWr z := hf
    exact (hg _ (by omega)).trans (s5 f hf)
  · show _ = nI (if v = w then x else zLe z v)
    by_cases c : v = w
    · subst c
      rw [if_pos rfl, ga_sa, if_pos ⟨rfl, by omega⟩]
    · rw [if_neg c]
      exact (hg _ (by omega)).trans (s6 v hv)
theorem stX_lf {x : Nat} (hn : stN t) (h : stX r z S t) : stX r (zLf z w x) (sa S (art t 0) w (nI x)) t := by
  obtain ⟨s1, s2, s3, s4, s5, s6, s7⟩ := h
  refine ⟨s1, s2, s3, s4, fun f hf => ?_, fun v hv => ?_, fun j f hj hf => ?_⟩
  · rw [ga_sa, if_neg (fun q => hn.1 q.1.symm)]
    exact s5 f hf
  · show _ = nI (if v = w then x else zLe z v)
    rw [ga_sa]
    by_cases c : v = w
    · rw [if_pos c, if_pos ⟨rfl, c⟩]
    · rw [if_neg c, if_neg (fun q => c q.2)]
      exact s6 v hv
  · rw [ga_sa, if_neg (fun q => hn.2.1 q.1.symm)]
    exact s7 j f hj hf
theorem rlM.kept {C F : Nat → Prop} {S' : aS} (h : rlM r S) (hf : frM C F S S') (hc : ∀ i, C i → i < 1002 ∨ 1010 < i) : rlM r S' := by
  have a : ∀ i, 1002 ≤ i → i ≤ 1010 → ∀ k, ga S' i k = ga S i k := fun i h1 h2 k => hf.1 i k (fun q => by have := hc i q; omega)
  unfold rlM
  simp only [a 1002 (by decide) (by decide), a 1005 (by decide) (by decide), a 1006 (by decide) (by decide), a 1007 (by decide) (by decide), a 1008 (by decide) (by decide), a 1009 (by decide) (by decide), a 1010 (by decide) (by decide)]
  exact h
theorem wM_burns (hr : okR r) (hz : okZ r z) (hk : k < zSp z) (hrl : rlM r S) (hs1 : stM r z (ga S 1032) 0) (h : ∀ S', frM sC nF S S' → stM r (zBurn r z k) (ga S' 1032) 0 → Q .null S') : aWM (d + 2) 59 [.ref 1000, .int (nI k)] S Q := by
  have hsp := hz.2.2.1
  have hwd := hr.2.1
  have hfo := hr.2.2.1.2
  refine mM_burns ?_
  have loop : ∀ m n S1, n + m = rFo r → frM sC nF S S1 → stM r (zUp z k n) (ga S1 1032) 0 → aBM (d + 1) 59 Q 2 [some (.ref 1000), some (.int (nI k)), some (.int (nI n)), none] [] S1 := by
    intro m
    induction m with
    | zero =>
      intro n S1 hn hf hst
      have hrl1 := hrl.kept hf (fun i hi => by unfold sC at hi; omega)
      have e1 : ga S1 1002 (2 : Int32).toNatClampNeg = nI (rFo r) := hrl1.2.2.1
      obtain rfl : n = rFo r := by omega
      refine bM_burns_2 ?_
      rw [e1]
      refine ⟨vin (by decide), fun _ => ?_, fun q => absurd (nI_le (Nat.le_refl _) (by omega)) q⟩
      have hk2 : k < zSp (zUp z k (rFo r)) := by
        have := (zUp_same z k (rFo r)).1
        unfold zSp at hk ⊢
        rw [this]
        exact hk
      exact wM_fallsOff hr (okZ_up k hz _) hk2 hst (fun S2 hf2 hst2 => h S2 (hf.tr hf2) hst2)
    | succ m ih =>
      intro n S1 hn hf hst
      have hrl1 := hrl.kept hf (fun i hi => by unfold sC at hi; omega)
      have e1 : ga S1 1002 (2 : Int32).toNatClampNeg = nI (rFo r) := hrl1.2.2.1
      have hk2 : k < zSp (zUp z k n) := by
        have := (zUp_same z k n).1
        unfold zSp at hk ⊢
        rw [this]
        exact hk
      have hsk : zSk (zUp z k n) = zSk z := (zUp_same z k n).2.2.2
      obtain ⟨hw1, hw2⟩ := hz.2.2.2.2.2 k n hk (by omega)
      have hle := (okZ_up k hz n).2.2.2.2.1 (zSk z k n) hw1
      have e2 : (20 : Int32) + 4 * nI k + nI n = nI (20 + 4 * k + n) := by
        rw [show (4 : Int32) = nI 4 from rfl, show (20 : Int32) = nI 20 from rfl, nI_mulN, nI_add, nI_add]
      have e3 : ga S1 1032 (20 + 4 * k + n) = nI (zSk z k n) := by
        have := hst.2.2.2.2.2.2 k n hk2 (by omega)
        rw [Nat.zero_add, hsk] at this
        exact this
      have e4 : (8 : Int32) + nI (zSk z k n) = nI (8 + zSk z k n) := nI_add 8 _
      have e5 : ga S1 1032 (8 + zSk z k n) = nI (zLe (zUp z k n) (zSk z k n)) := by
        have := hst.2.2.2.2.2.1 _ hw1
        rw [Nat.zero_add] at this
        exact this
      refine bM_burns_2 ?_
      simp only [e1, e2, nI_clamp (show 20 + 4 * k + n < 2 ^ 31 by omega), e3, e4, nI_clamp (show 8 + zSk z k n < 2 ^ 31 by omega), e5, nI_1, min9 _ hle]
      refine ⟨vin (by decide), fun q => absurd q (nI_ge (by omega) (by omega)), fun _ => ⟨nI_in (by omega) (by decide), nI_in (by omega) (by decide), nI_in (by omega) (by decide), ?_⟩⟩
      exact ih (n + 1) _ (by omega) (hf.tr (frM_sa rfl)) (stM_lf hr (okZ_up k hz n) hw1 hst)
  exact loop (rFo r) 0 S (by omega) frM.rf hs1
theorem hsM.kept {C F : Nat → Prop} {S' : aS} (h : hsM r hs S) (hf : frM C F S S') (hc : ¬ C 1035) (hF : ¬ F 50) : hsM r hs S' := by
  obtain ⟨g1, g2, g3⟩ := h
  refine ⟨(hf.2.2.1 50 hF).trans g1, g2, fun k z1 hk => ?_⟩
  obtain ⟨b1, b2⟩ := g3 k z1 hk
  refine ⟨b1, ?_⟩
  have e : ga S' 1035 = ga S 1035 := funext fun i => hf.1 1035 i hc
  rw [e]
  exact b2
theorem wM_burn {x : Int32} (hr : okR r) (hz : okZ r z) (hrl : rlM r S) (hs1 : stM r z (ga S 1032) 0) (hh : hsM r hs S) (h0 : idx (zSp z) x = none → Q (.int (-1)) (si S 1000 0 0))
    (h : ∀ k, idx (zSp z) x = some k → k < zSp z → ∀ S', frM (fun i => i = 1032 ∨ i = 1035) (fun k => k = 0 ∨ k = 50) S S' → hsM r (hKeep hs z) S' → stM r (zBurn r z k) (ga S' 1032) 0 → Q (.int (nI (zSp z - 1))) S') : aWM (d + 3) 63 [.ref 1000, .int x] S Q := by
  have hsp := hz.2.2.1
  have e1 : ga (si S 1000 0 0) 1032 (3 : Int32).toNatClampNeg = nI (zSp z) := hs1.2.2.2.1
  refine mM_burn ?_
  rw [e1]
  rcases idx_cases (zSp z) (by omega) x with ⟨e, c | ⟨c1, c2⟩⟩ | ⟨k, hk, rfl, e⟩
  · exact ⟨fun _ => h0 e, fun q => absurd c q⟩
  · exact ⟨fun q => absurd q c1, fun _ => ⟨vin (by decide), fun q => absurd c2 (Int32.not_le.mpr q), fun _ => h0 e⟩⟩
  · refine ⟨fun q => absurd q (nI_pos (by omega)), fun _ => ⟨vin (by decide), fun _ => ?_, fun q => absurd (nI_lt hk (by omega)) q⟩⟩
    have hh0 : hsM r hs (si S 1000 0 0) := ⟨by rw [gi_si, if_neg (by decide)]; exact hh.1, hh.2⟩
    refine wM_keeps hr hz hh0 hs1 (fun S5 hf hk5 => ?_)
    have f1032 : ga S5 1032 = ga S 1032 := funext fun j => hf.1 1032 j (show ¬ 1032 = 1035 by decide)
    have hrl0 : rlM r (si S 1000 0 0) := hrl
    refine wM_burns hr hz hk (hrl0.kept hf (fun i hi => by unfold kC at hi; omega)) (by rw [f1032]; exact hs1) (fun S6 hf6 hst6 => ⟨vin (by decide), ?_⟩)
    have e2 : ga S6 1032 (3 : Int32).toNatClampNeg = nI (zSp z - 1) := by
      have := hst6.2.2.2.1
      have e9 : zSp (zUp z k (rFo r)) = zSp z := by
        have := (zUp_same z k (rFo r)).1
        unfold zSp
        rw [this]
      show ga S6 1032 (0 + 3) = _
      rw [this, ← e9]
      rfl
    rw [e2]
    exact h k e hk S6 (((frM_si (Or.inl rfl)).tr (hf.le (fun i hi => Or.inr hi) (fun k hk => Or.inr hk))).tr (hf6.le (fun i hi => Or.inl hi) (fun k hk => hk.elim))) (hk5.kept hf6 (by unfold sC; decide) (by unfold nF; exact fun q => q)) hst6
theorem wX_takeDown (hr : okR r) (hz : okZ r z) (ht : isSt t) (hn : stN t) (hT : isT t') (hdj : ∀ i, stC t i → ¬ reC t' i) (hrl : rlX r S t') (hk : k < zSp z) (hs1 : stX r z S t) (h : ∀ S', frX (stC t) S S' → stX r (zBurn r z k) S' t → Q .null S') : aWX (d + 3) 96 [.ref t, .ref t', .int (nI k)] S Q := by
  have hsp := hz.2.2.1
  have hwd := hr.2.1
  have hfo := hr.2.2.1.2
  have ht' := hT.re
  refine mX_Standing_takeDown (gK_ok ht.1 ?_)
  have loop : ∀ m n S1, n + m = rFo r → frX (stC t) S S1 → stX r (zUp z k n) S1 t → aBX (d + 2) 96 Q 2 [some (.ref t), some (.ref t'), some (.int (nI k)), some (.int (nI n)), none] [] S1 := by
    intro m
    induction m with
    | zero =>
      intro n S1 hn1 hf hst
      have hrl1 := hrl.kept hT hf (fun i hi hc => hdj i hc hi)
      obtain rfl : n = rFo r := by omega
      refine bX_Standing_takeDown_2 (gK_ok ht'.1 ?_)
      rw [hrl1.2.2.1]
      refine ⟨fun _ => ?_, fun q => absurd (nI_le (Nat.le_refl _) (by omega)) q⟩
      have hk2 : k < zSp (zUp z k (rFo r)) := by
        have := (zUp_same z k (rFo r)).1
        unfold zSp at hk ⊢
        rw [this]
        exact hk
      exact wX_closeGap hr (okZ_up k hz _) ht hn hk2 hst (fun S2 hf2 hst2 => bX_Standing_takeDown_32 (h S2 (hf.tr hf2) hst2))
    | succ m ih =>
      intro n S1 hn1 hf hst
      have hrl1 := hrl.kept hT hf (fun i hi hc => hdj i hc hi)
      have hk2 : k < zSp (zUp z k n) := by
        have := (zUp_same z k n).1
        unfold zSp at hk ⊢
        rw [this]
        exact hk
      have hsk : zSk (zUp z k n) = zSk z := (zUp_same z k n).2.2.2
      obtain ⟨hw1, hw2⟩ := hz.2.2.2.2.2 k n hk (by omega)
      have hle := (okZ_up k hz n).2.2.2.2.1 (zSk z k n) hw1
      refine bX_Standing_takeDown_2 (gK_ok ht'.1 ?_)
      rw [hrl1.2.2.1]
      refine ⟨fun q => absurd q (nI_ge (by omega) (by omega)), fun _ => ?_⟩
      refine wX_spikeAt hr (okZ_up k hz n) ht hst (nI_lt (by omega) (by omega)) ?_
      have e1 : pSpike r (zUp z k n) (nI k) (nI n) = nI (zSk z k n) := by
        unfold pSpike
        rw [idx_some (by have := (okZ_up k hz n).2.2.1; omega) hk2, idx_some (by omega) (show n < rFo r by omega), hsk]
      rw [e1]
      refine wX_hasWord hr ht' hrl1 ?_
      rw [idx_some (by omega) hw1]
      refine ⟨fun q => absurd q bI_some, fun _ => gK_ok ht.1 (gK_ok ht.1 (gK_ok ht.2.1 ⟨by rw [ht.2.2.2.2.1]; exact nI_in (by omega) (by decide), gK_ok ht.2.1 ⟨by rw [ht.2.2.2.2.1]; exact nI_in (by omega) (by decide), ?_⟩⟩))⟩
      rw [nI_clamp (show zSk z k n < 2 ^ 31 by omega), hst.2.2.2.2.2.1 _ hw1, nI_1, nI_1, min9 _ hle]
      exact ih (n + 1) _ (by omega) (hf.tr (frX_sa (Or.inr (Or.inl rfl)))) (stX_lf hn hst)
  exact loop (rFo r) 0 S (by omega) frX.rf hs1
theorem stN_41 : stN 41 := ⟨by decide, by decide, by decide⟩
theorem st41_re (hT : isT t) : ∀ i, stC 41 i → ¬ reC t i := by
  intro i hi
  rw [stC_41] at hi
  unfold reC
  rcases hT with rfl | rfl <;> omega
theorem wX_burn {x : Int32} (hr : okR r) (hz : okZ r z) (hg : gr S 0 2 = t) (hT : isT t) (hrl : rlX r S t) (hs1 : stX r z S 41) (hh : hsX r hs S) (h0 : idx (zSp z) x = none → Q (.int (-1)) S)
    (h : ∀ k, idx (zSp z) x = some k → k < zSp z → ∀ S', frX (fun i => hC i ∨ stC 41 i) S S' → hsX r (hKeep hs z) S' → stX r (zBurn r z k) S' 41 → Q (.int (nI (zSp z - 1))) S') : aWX (d + 4) 126 [.ref 0, .int x] S Q := by
  have hsp := hz.2.2.1
  refine mX_FoldedRealm_burn ?_
  refine wX_hasWhole hz (isSt_all 41 (by decide) rfl) hs1 ?_
  rcases idx_cases (zSp z) (by omega) x with ⟨e, -⟩ | ⟨k, hk, rfl, e⟩
  · rw [e]
    exact ⟨fun q => absurd rfl q, fun _ => h0 e⟩
  · rw [e]
    refine ⟨fun _ => ?_, fun q => absurd q bI_some⟩
    refine wX_keep hr hz hh hs1 (fun S5 hf hk5 => ?_)
    have hg5 : gr S5 0 2 = t := by
      have : S5.2.2.1 = S.2.2.1 := hf.2.2.1
      show S5.2.2.1 0 2 = t
      rw [this]
      exact hg
    have hreC : ∀ i, reC t i → ¬ hC i := by
      intro i hi
      unfold reC at hi
      unfold hC
      rcases hT with rfl | rfl <;> omega
    have hrl5 := hrl.kept hT hf hreC
    have hs5 : stX r z S5 41 := hs1.kept hf (fun i hi => by rw [stC_41] at hi; unfold hC; omega)
    show aWX (d + 3) 96 [.ref 41, .ref (gr S5 0 2), .int (nI k)] S5 _
    rw [hg5]
    refine wX_takeDown hr hz (isSt_all 41 (by decide) rfl) stN_41 hT (st41_re hT) hrl5 hk hs5 (fun S6 hf6 hst6 => ?_)
    have e2 : gi S6 41 5 = nI (zSp z - 1) := by
      have := hst6.2.2.2.1
      have e9 : zSp (zUp z k (rFo r)) = zSp z := by
        have := (zUp_same z k (rFo r)).1
        unfold zSp
        rw [this]
      rw [this, ← e9]
      rfl
    show Q (.int (gi S6 41 5)) S6
    rw [e2]
    exact h k e hk S6 ((hf.le (fun i hi => Or.inl hi)).tr (hf6.le (fun i hi => Or.inr hi))) (hk5.kept hf6 (fun i hi hc => by rw [stC_41] at hc; unfold hC at hi; omega)) hst6
end
