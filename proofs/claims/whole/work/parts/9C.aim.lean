/-! ties: aim, meet -/
theorem shv_P {r : zR} {z : zS} {s s' : Nat} {P P' : Nat → Bool} {f0 a0 : Nat} (hP : ∀ u, u < rWd r → P u = P' u) (hs : ∀ f, wWho r s f = wWho r s' f) : ∀ k w, shv r z s P f0 a0 k w = shv r z s' P' f0 a0 k w := by
  intro k
  induction k with
  | zero =>
    intro w
    show sh0 r z s f0 a0 w = sh0 r z s' f0 a0 w
    unfold sh0
    rw [hs]
  | succ k ih =>
    intro w
    show shS r z s (f0 + k + 1) _ w = shS r z s' (f0 + k + 1) _ w
    unfold shS
    refine nSum_ext _ (fun v hv => ?_)
    dsimp only
    rw [hs, hP v hv, ih v]
theorem shF_P {r : zR} {z : zS} {s s' : Nat} {P P' : Nat → Bool} {f0 a0 : Nat} (hP : ∀ u, u < rWd r → P u = P' u) (hs : ∀ f, wWho r s f = wWho r s' f) : shF r z s P f0 a0 = shF r z s' P' f0 a0 := by
  unfold shF
  refine nSum_ext _ (fun w hw => ?_)
  rw [hP w hw, shv_P hP hs]
theorem shF_le {r : zR} (hr : okR r) (z : zS) (s : Nat) (P : Nat → Bool) {f0 a0 : Nat} (hf : f0 < rFo r) : shF r z s P f0 a0 ≤ 1000000 := by
  have h1 := shv_tot (r := r) z s P f0 a0 (rFo r - 1 - f0)
  refine Nat.le_trans (nSum_mono2 _ (fun w _ => ?_)).1 h1
  by_cases c : rFd r w + 1 = rFo r ∧ P w = true
  · rw [if_pos c, if_pos (by omega)]
    exact Nat.le_refl _
  · rw [if_neg c]
    exact Nat.zero_le _
def aiS (r : zR) (z : zS) (w : Nat) : Nat → Option (Nat × Nat)
  | 0 => none
  | k + 1 => if canW r z k = true then (match aiS r z w k with
    | none => some (k, aimV r z k w)
    | some (b, m) => if aimV r z k w ≤ m then some (b, m) else some (k, aimV r z k w)) else aiS r z w k
def aiB (o : Option (Nat × Nat)) : Int32 := match o with
  | none => -1
  | some (b, _) => nI b
def aiM (e : Int32) (o : Option (Nat × Nat)) : Int32 := match o with
  | none => e
  | some (_, m) => nI m
theorem aimV_le {r : zR} {z : zS} (hz : okZ r z) {k w : Nat} (hw : w < rWd r) (hf : rFd r w + 1 = rFo r) : aimV r z k w ≤ 1000000 := by
  have hwr := hz.2.1
  unfold aimV
  by_cases c : zWr z + 1 = rFo r
  · rw [if_pos c]
    split <;> omega
  · rw [if_neg c]
    exact shv_le hw (by omega)
theorem aiS_ok {r : zR} {z : zS} {w : Nat} (hz : okZ r z) (hw : w < rWd r) (hf : rFd r w + 1 = rFo r) : ∀ k b m, aiS r z w k = some (b, m) → b < k ∧ m ≤ 1000000 := by
  intro k
  induction k with
  | zero => intro b m h; cases h
  | succ k ih =>
    intro b m h
    have h1 := aimV_le hz (k := k) hw hf
    unfold aiS at h
    split at h
    · cases e : aiS r z w k with
      | none =>
        rw [e] at h
        cases h
        exact ⟨by omega, h1⟩
      | some x =>
        obtain ⟨b', m'⟩ := x
        rw [e] at h
        dsimp only at h
        split at h
        · cases h
          have := ih b m e
          exact ⟨by omega, this.2⟩
        · cases h
          exact ⟨by omega, h1⟩
    · have := ih b m h
      exact ⟨by omega, this.2⟩
theorem canW_p {r : zR} {z : zS} {k : Nat} (hr : okR r) (hk : k < rWd r) : pCan r z (nI k) = bB (canW r z k) := by
  unfold pCan
  rw [idx_some (by have := hr.2.1; omega) hk, Option.filter_some]
  cases canW r z k <;> rfl
theorem tie_aim : ok_aim Rel := by
  intro x y
  refine tie_q (fun g t ok hT => ?_)
  obtain ⟨okr, okn, ⟨okz, okl, okd⟩, okt⟩ := id ok
  have hwd := okr.2.1
  have hfo := okr.2.2.1
  have hwr := okz.2.1
  have hse : zSe g.2.1.1 < 6 := by have := okr.1; rcases okz.1 with q | q <;> omega
  have ef : nI (rFo g.1) - 1 = nI (rFo g.1 - 1) := by
    have := nI_pred (rFo g.1 - 1)
    rw [show rFo g.1 - 1 + 1 = rFo g.1 by omega] at this
    exact this
  by_cases hok : (∃ w, w < rWd g.1 ∧ x = nI w ∧ rFd g.1 w + 1 = rFo g.1) ∧ ((0 : Int32) ≤ y ∧ y ≤ 1)
  · obtain ⟨⟨w, hw, rfl, hfw⟩, hy⟩ := hok
    obtain ⟨c, hc, rfl⟩ := nI_of2 (n := 1) (by decide) (Int32.not_lt.mpr hy.1) hy.2
    have hc2 : c = 0 ∨ c = 1 := by omega
    have hf3 := (okr.2.2.2.2.2.1 w hw).1
    refine ⟨if c = 0 then aiB (aiS g.1 g.2.1.1 w (rWd g.1)) else aiM (-1) (aiS g.1 g.2.1.1 w (rWd g.1)), fun S Q h hx => ?_, fun S Q h hx => ?_⟩
    · refine mX_FoldedRealm_aim (d := 99) ⟨fun q => absurd q (nI_pos (by omega)), fun _ => ⟨fun q => absurd q (nI_nlt (a := 1) (b := c) (by omega) (by decide)), fun _ => ?_⟩⟩
      rw [h.1.2.1]
      refine wX_foldOf (d := 97) okr hT.re h.2.1.1 ?_
      have e1 : pAt (rWd g.1) (rFd g.1) (-1) (nI w) = nI (rFd g.1 w) := by unfold pAt; rw [idx_some (by omega) hw]
      rw [e1]
      show aG (gK (gr S 0 2) 6) ((nI (rFd g.1 w) = gi S (gr S 0 2) 12 - 1 → aWX 99 25 [.ref 117, .ref (gr S 0 2), .ref 41, .int (gi S 41 4), .int (gi S 41 3)] S _) ∧ _)
      rw [h.1.2.1, h.2.1.1.2.2.1, ef, nI_eq (by omega) (by omega), show gi S 41 4 = nI (zSe g.2.1.1) from h.2.2.1.1.1, show gi S 41 3 = nI (zWr g.2.1.1) from h.2.2.1.1.2.1]
      refine gK_ok hT.re.1 ⟨fun _ => wX_weighAll (d := 94) okr okz hT stG_41 h.2.1 h.2.2.1.1 (by omega) hwr (Or.inr ⟨rfl, rfl⟩) (fun S1 hf1 hO => ?_), fun q => absurd (by omega) q⟩
      have loop : ∀ m k S2, k + m = rWd g.1 → frY shC S1 S2 → aBX 99 133 Q 37 [some (.ref 0), some (.int (nI w)), some (.int (nI c)), some (.ref 41), some (.int (aiB (aiS g.1 g.2.1.1 w k))), some (.int (aiM (-1) (aiS g.1 g.2.1.1 w k))), some (.int (nI k))] [] S2 := by
        intro m
        induction m with
        | zero =>
          intro k S2 hk hf2
          have hf12 : frY soC S S2 := (hf1.le (fun _ q => Or.inl q)).tr (hf2.le (fun _ q => Or.inr q))
          have hR2 := h.2.1.kept hT hf12 (soC_rc hT)
          have hx := hx S2 (hf12.le soC_sc)
          obtain rfl : k = rWd g.1 := by omega
          refine bX_FoldedRealm_aim_37 ?_
          rw [hf12.gr, h.1.2.1, hR2.1.2.1]
          refine gK_ok hT.re.1 ⟨fun _ => ?_, fun q => absurd (nI_le (Nat.le_refl _) (by omega)) q⟩
          rcases hc2 with rfl | rfl
          · exact ⟨fun q => absurd rfl q, fun _ => hx⟩
          · exact ⟨fun _ => hx, fun q => absurd q (by decide)⟩
        | succ m ih =>
          intro k S2 hk hf2
          have ih := ih (k + 1)
          have hf12 : frY soC S S2 := (hf1.le (fun _ q => Or.inl q)).tr (hf2.le (fun _ q => Or.inr q))
          have hR2 := h.2.1.kept hT hf12 (soC_rc hT)
          have hs2 := h.2.2.1.1.keptY hf12 (soC_st stG_41)
          unfold aiS at ih
          refine bX_FoldedRealm_aim_37 ?_
          rw [hf12.gr, h.1.2.1, hR2.1.2.1]
          refine gK_ok hT.re.1 ⟨fun q => absurd q (nI_ge (by omega) (by omega)), fun _ => wX_canPut (d := 96) okr okz stG_41.1 hs2 hT.re hR2.1 ?_⟩
          rw [canW_p okr (by omega), nI_1]
          cases hcan : canW g.1 g.2.1.1 k with
          | false =>
            rw [hcan, if_neg (by decide)] at ih
            exact ⟨fun _ => ih S2 (by omega) hf2, fun q => absurd rfl q⟩
          | true =>
            rw [hcan, if_pos rfl] at ih
            refine ⟨fun q => absurd q (by decide), fun _ => ?_⟩
            show aWX 99 78 [.ref 124, .ref (gr S2 0 2), .ref 117, .int (nI k)] S2 _
            rw [hf12.gr, h.1.2.1]
            have hO2 : oAll g.1 g.2.1.1 (zSe g.2.1.1) (zWr g.2.1.1) (ahV g.1 g.2.1.1) S2 := ⟨hO.1.keptF hf2 (by unfold shC; omega) (by unfold shC; omega), fun v hv h2 h3 => (hO.2 v hv h2 h3).keptF hf2 (by unfold shC; omega) (by unfold shC; omega)⟩
            refine wX_pourBehind (d := 94) okr okz hT hR2 hO2 (show k < rWd g.1 by omega) (canW_fd hcan) (fun S3 hh hf3 hh3 hl => ?_)
            have ih := ih S3 (by omega) (hf2.tr hf3)
            refine wX_of (d := 98) hh3 (by omega) ?_
            rw [hl w hw hfw]
            have ha := aimV_le okz (k := k) hw hfw
            cases e : aiS g.1 g.2.1.1 w k with
            | none =>
              rw [e] at ih
              refine ⟨fun q => absurd q (Int32.not_le.mpr (m1_lt (by omega))), fun _ => wX_of (d := 98) hh3 (by omega) ?_⟩
              rw [hl w hw hfw]
              exact ih
            | some bm =>
              obtain ⟨b, mm⟩ := bm
              have hbm := aiS_ok okz hw hfw k b mm e
              rw [e] at ih
              dsimp only at ih
              show (nI (aimV g.1 g.2.1.1 k w) ≤ nI mm → _) ∧ (¬ nI (aimV g.1 g.2.1.1 k w) ≤ nI mm → _)
              rw [nI_leI (by omega) (by omega)]
              refine ⟨fun q => ?_, fun q => wX_of (d := 98) hh3 (by omega) ?_⟩
              · rw [if_pos q] at ih
                exact ih
              · rw [if_neg q] at ih
                rw [hl w hw hfw]
                exact ih
      exact loop (rWd g.1) 0 S1 (by omega) frY.rf
    · have h' := MM_0 ok h
      have hx2 : ∀ S', frM (fun i => smC i ∨ i = 1040) nF (si S 1000 0 0) S' → Q (.int (if c = 0 then aiB (aiS g.1 g.2.1.1 w (rWd g.1)) else aiM (-1) (aiS g.1 g.2.1.1 w (rWd g.1)))) S' := fun S' hf => hx S' (frM_0.tr (hf.le (fun i hi => by unfold smC eC at hi; unfold scM; omega) (fun _ q => q.elim))) (fun k _ => hf.1 1032 k (by unfold smC eC; omega))
      refine mM_aim (d := 99) (wM_isTold (d := 98) okr h'.1.1 ?_)
      generalize si S 1000 0 0 = S0 at *
      rw [idx_some (by omega) hw]
      refine ⟨fun q => absurd q bI_some, fun _ => wM_within (d := 98) ?_⟩
      rw [if_pos hy]
      refine ⟨fun q => absurd q (by decide), fun _ => ⟨nI_in (by omega) (by decide), vin (by decide), ?_⟩⟩
      rw [nI_clamp (by omega), h'.1.1.2.2.2.2.2.1 w hw, c2, h'.1.1.2.2.1, ef, nI_eq (by omega) (by omega)]
      refine ⟨fun _ => wM_noneOnly (d := 98) (fun S1 hf1 hon => ?_), fun q => absurd (by omega) q⟩
      have hR1 := h'.1.kept hf1 (fun i hi => by omega)
      have hs1 : stM g.1 g.2.1.1 (ga S1 1032) 0 := by
        rw [show ga S1 1032 = ga S0 1032 from funext fun j => hf1.1 1032 j (by omega)]
        exact h'.2.1.1
      have loop : ∀ m k S2, k + m = rWd g.1 → frM smC nF S1 S2 → aBM 99 85 Q 33 [some (.ref 1000), some (.int (nI w)), some (.int (nI c)), some (.int (aiB (aiS g.1 g.2.1.1 w k))), some (.int (aiM 0 (aiS g.1 g.2.1.1 w k))), some (.int (nI k)), none] [] S2 := by
        intro m
        induction m with
        | zero =>
          intro k S2 hk hf2
          have hR2 := sm_rm hR1 hf2
          have hx := hx2 S2 ((hf1.le (fun _ q => Or.inr q) (fun _ q => q)).tr (hf2.le (fun _ q => Or.inl q) (fun _ q => q)))
          obtain rfl : k = rWd g.1 := by omega
          refine bM_aim_33 ?_
          rw [c1, hR2.1.2.1]
          refine ⟨vin (by decide), fun _ => ?_, fun q => absurd (nI_le (Nat.le_refl _) (by omega)) q⟩
          cases e : aiS g.1 g.2.1.1 w (rWd g.1) with
          | none =>
            rw [e] at hx
            refine ⟨fun _ => ?_, fun q => absurd (by decide) q⟩
            rcases hc2 with rfl | rfl
            · exact hx
            · exact hx
          | some bm =>
            obtain ⟨b, mm⟩ := bm
            have hbm := aiS_ok okz hw hfw _ b mm e
            rw [e] at hx
            refine ⟨fun q => absurd q (nI_pos (show b < 2 ^ 31 by omega)), fun _ => ?_⟩
            rcases hc2 with rfl | rfl
            · exact ⟨fun q => absurd rfl q, fun _ => hx⟩
            · exact ⟨fun _ => hx, fun q => absurd q (by decide)⟩
        | succ m ih =>
          intro k S2 hk hf2
          have ih := ih (k + 1)
          have hR2 := sm_rm hR1 hf2
          have hs2 := sm_st hs1 hf2
          have hgo := (okr.2.2.2.2.2.1 k (by omega)).2.2.1
          unfold aiS at ih
          refine bM_aim_33 ?_
          rw [c1, hR2.1.2.1]
          refine ⟨vin (by decide), fun q => absurd q (nI_ge (by omega) (by omega)), fun _ => wM_canWrite (d := 98) okr okz (by omega) hR2.1 hs2 ?_⟩
          rw [canW_p okr (by omega), nI_1]
          cases hcan : canW g.1 g.2.1.1 k with
          | false =>
            rw [hcan, if_neg (by decide)] at ih
            exact ⟨fun q => absurd rfl q, fun _ => ih S2 (by omega) hf2⟩
          | true =>
            rw [hcan, if_pos rfl] at ih
            have ha := aimV_le okz (k := k) hw hfw
            have k84 : ∀ S3, frM smC nF S1 S3 → aBM 99 85 Q 84 [some (.ref 1000), some (.int (nI w)), some (.int (nI c)), some (.int (aiB (aiS g.1 g.2.1.1 w k))), some (.int (aiM 0 (aiS g.1 g.2.1.1 w k))), some (.int (nI k)), some (.int (nI (aimV g.1 g.2.1.1 k w)))] [] S3 := by
              intro S3 hf3
              have ih := ih S3 (by omega) hf3
              refine bM_aim_84 ?_
              rw [nI_1]
              cases e : aiS g.1 g.2.1.1 w k with
              | none =>
                rw [e] at ih
                exact ⟨fun _ => ih, fun q => absurd (by decide) q⟩
              | some bm =>
                obtain ⟨b, mm⟩ := bm
                have hbm := aiS_ok okz hw hfw k b mm e
                rw [e] at ih
                dsimp only at ih
                show (nI b < 0 → _) ∧ (¬ nI b < 0 → ((nI mm < nI (aimV g.1 g.2.1.1 k w) → _) ∧ (¬ nI mm < nI (aimV g.1 g.2.1.1 k w) → _)))
                rw [nI_ltI (show mm < 2 ^ 31 by omega) (by omega)]
                refine ⟨fun q => absurd q (nI_pos (by omega)), fun _ => ⟨fun q => ?_, fun q => ?_⟩⟩
                · rw [if_neg (by omega)] at ih; exact ih
                · rw [if_pos (by omega)] at ih; exact ih
            have k50 : ∀ v, (zWr g.2.1.1 + 1 = rFo g.1 → v = nI (aimV g.1 g.2.1.1 k w)) → aBM 99 85 Q 50 [some (.ref 1000), some (.int (nI w)), some (.int (nI c)), some (.int (aiB (aiS g.1 g.2.1.1 w k))), some (.int (aiM 0 (aiS g.1 g.2.1.1 w k))), some (.int (nI k)), none] [.int v] S2 := by
              intro v hv
              refine bM_aim_50 ?_
              rw [c1, c2, c0, hR2.1.2.2.1, show ga S2 1032 1 = nI (zWr g.2.1.1) from hs2.2.1, show ga S2 1032 0 = nI (zSe g.2.1.1) from hs2.1, nI_1, nI_leI (by omega) (by omega), nI_clamp (by omega), hR2.1.2.2.2.2.2.2.2.1 k (by omega)]
              refine ⟨vin (by decide), vin (by decide), fun q => ?_, fun q => ⟨vin (by decide), vin (by decide), nI_in (by omega) (by decide), wM_sharesOut (d := 92) (onl := fun _ => none) okr okz hR2 hs2 (by omega) (by omega) (fun f hf => (hf2.1 1040 f (by unfold smC eC; omega)).trans (hon f hf)) (fun f v q => by cases q) (fun S3 hh hf3 hh3 hl => ⟨nI_in (by omega) (by decide), ?_⟩)⟩⟩
              · rw [hv (by omega)]
                exact k84 S2 hf2
              · rw [nI_clamp (by omega), hh3 w (by omega), hl w hw hfw]
                have e2 : shv g.1 g.2.1.1 (zSe g.2.1.1) (PO g.1 fun _ => none) (zWr g.2.1.1 + 1) (rGo g.1 k) (rFo g.1 - 1 - (zWr g.2.1.1 + 1)) w = aimV g.1 g.2.1.1 k w := by
                  unfold aimV
                  rw [if_neg (by omega)]
                  rfl
                rw [e2]
                exact k84 S3 (hf2.tr hf3)
            refine ⟨fun _ => ?_, fun q => absurd q (by decide)⟩
            show (¬ nI k = nI w → _) ∧ (nI k = nI w → _)
            rw [nI_eq (by omega) (by omega)]
            refine ⟨fun q => k50 0 (fun e => ?_), fun q => k50 1000000 (fun e => ?_)⟩
            · unfold aimV
              rw [if_pos e, if_neg (fun q2 => q q2.symm)]
              rfl
            · unfold aimV
              rw [if_pos e, if_pos q.symm]
              rfl
      exact loop (rWd g.1) 0 S1 (by omega) frM.rf
  · refine ⟨-1, fun S Q h hx => ?_, fun S Q h hx => ?_⟩
    · have hx := hx S frY.rf
      refine mX_FoldedRealm_aim (d := 99) ⟨fun _ => hx, fun q1 => ⟨fun _ => hx, fun q2 => ?_⟩⟩
      have hy : (0 : Int32) ≤ y ∧ y ≤ 1 := ⟨Int32.not_lt.mp q1, Int32.not_lt.mp q2⟩
      rw [h.1.2.1]
      refine wX_foldOf (d := 97) okr hT.re h.2.1.1 ?_
      show aG (gK (gr S 0 2) 6) ((pAt (rWd g.1) (rFd g.1) (-1) x = gi S (gr S 0 2) 12 - 1 → _) ∧ _)
      rw [h.1.2.1, h.2.1.1.2.2.1, ef]
      refine gK_ok hT.re.1 ⟨fun q => ?_, fun _ => hx⟩
      exfalso
      rcases idx_cases (rWd g.1) (by omega) x with ⟨e, -⟩ | ⟨w, hw, rfl, e⟩
      · unfold pAt at q
        rw [e] at q
        exact m1_ne (by omega) q
      · unfold pAt at q
        rw [e] at q
        have hf3 := (okr.2.2.2.2.2.1 w hw).1
        dsimp only at q
        rw [nI_eq (by omega) (by omega)] at q
        exact hok ⟨⟨w, hw, rfl, by omega⟩, hy⟩
    · have h' := MM_0 ok h
      have hx := hx _ frM_0 (fun _ _ => rfl)
      refine mM_aim (d := 99) (wM_isTold (d := 98) okr h'.1.1 ?_)
      generalize si S 1000 0 0 = S0 at *
      rcases idx_cases (rWd g.1) (by omega) x with ⟨e, -⟩ | ⟨w, hw, rfl, e⟩
      · rw [e]
        exact ⟨fun _ => hx, fun q => absurd rfl q⟩
      · rw [e]
        refine ⟨fun q => absurd q bI_some, fun _ => wM_within (d := 98) ?_⟩
        by_cases hy : (0 : Int32) ≤ y ∧ y ≤ 1
        · rw [if_pos hy]
          have hf3 := (okr.2.2.2.2.2.1 w hw).1
          refine ⟨fun q => absurd q (by decide), fun _ => ⟨nI_in (by omega) (by decide), vin (by decide), ?_⟩⟩
          rw [nI_clamp (by omega), h'.1.1.2.2.2.2.2.1 w hw, c2, h'.1.1.2.2.1, ef, nI_eq (by omega) (by omega)]
          exact ⟨fun q => absurd ⟨⟨w, hw, rfl, by omega⟩, hy⟩ hok, fun _ => hx⟩
        · rw [if_neg hy]
          exact ⟨fun _ => hx, fun q => absurd rfl q⟩
/-! meet -/
def mtQ (r : zR) (z : zS) (P : Nat → Bool) : Nat → Nat
  | 0 => 1000000
  | k + 1 => mtQ r z P k * (1000000 - shF r z (zSe z + k) P 0 0) / 1000000
theorem mtQ_le (r : zR) (z : zS) (P : Nat → Bool) : ∀ k, mtQ r z P k ≤ 1000000
  | 0 => Nat.le_refl _
  | k + 1 => by
    have ih := mtQ_le r z P k
    unfold mtQ
    refine Nat.div_le_of_le_mul ?_
    exact Nat.mul_le_mul ih (Nat.sub_le _ _)
def onl2 (r : zR) (v w : Nat) : Nat → Option Nat := fun f => if f = rFd r w then some w else if f = rFd r v then some v else none
theorem PB_two {r : zR} {v w u : Nat} (hv : v < rWd r) (hw : w < rWd r) (hne : rFd r v ≠ rFd r w) (hu : u < rWd r) : PB r (2 ^ v ||| 2 ^ w) u = PO r (onl2 r v w) u := by
  have hcap : ∀ i, ((2 ^ v ||| 2 ^ w) &&& bFo r (rFd r u) (rWd r)).testBit i = ((decide (v = i) || decide (w = i)) && (decide (i < rWd r) && decide (rFd r i = rFd r u))) := fun i => by rw [Nat.testBit_and, Nat.testBit_or, Nat.testBit_two_pow, Nat.testBit_two_pow, bFo_bit]
  have one : ∀ a, a < rWd r → rFd r a = rFd r u → (∀ i, ((2 ^ v ||| 2 ^ w) &&& bFo r (rFd r u) (rWd r)).testBit i = decide (a = i)) → PB r (2 ^ v ||| 2 ^ w) u = decide (a = u) := by
    intro a ha hfa hb
    have e : (2 ^ v ||| 2 ^ w) &&& bFo r (rFd r u) (rWd r) = 2 ^ a := Nat.eq_of_testBit_eq (fun i => by rw [hb, Nat.testBit_two_pow])
    unfold PB
    rw [e, decide_eq_false (Nat.pos_iff_ne_zero.mp (Nat.two_pow_pos a)), Bool.false_or]
    by_cases c : a = u
    · subst c
      rw [decide_eq_true rfl, decide_eq_true rfl]
    · rw [decide_eq_false c, decide_eq_false (fun q => c ((Nat.pow_right_inj (by decide)).mp q))]
  unfold PO onl2
  by_cases c1 : rFd r u = rFd r w
  · rw [if_pos c1]
    refine one w hw c1.symm (fun i => ?_)
    rw [hcap]
    by_cases e : w = i
    · subst e
      rw [decide_eq_true rfl, decide_eq_true hw, decide_eq_true c1.symm, Bool.or_true]
      rfl
    · rw [decide_eq_false e, Bool.or_false]
      by_cases e2 : v = i
      · subst e2
        rw [decide_eq_false (show ¬ rFd r v = rFd r u by omega), Bool.and_false, Bool.and_false]
      · rw [decide_eq_false e2, Bool.false_and]
  · rw [if_neg c1]
    by_cases c2 : rFd r u = rFd r v
    · rw [if_pos c2]
      refine one v hv c2.symm (fun i => ?_)
      rw [hcap]
      by_cases e : v = i
      · subst e
        rw [decide_eq_true rfl, decide_eq_true hv, decide_eq_true c2.symm, Bool.true_or]
        rfl
      · rw [decide_eq_false e, Bool.false_or]
        by_cases e2 : w = i
        · subst e2
          rw [decide_eq_false (show ¬ rFd r w = rFd r u by omega), Bool.and_false, Bool.and_false]
        · rw [decide_eq_false e2, Bool.false_and]
    · rw [if_neg c2]
      have e : (2 ^ v ||| 2 ^ w) &&& bFo r (rFd r u) (rWd r) = 0 := Nat.eq_of_testBit_eq (fun i => by
        rw [hcap, Nat.zero_testBit]
        by_cases e1 : v = i
        · subst e1
          rw [decide_eq_false (show ¬ rFd r v = rFd r u by omega), Bool.and_false, Bool.and_false]
        · by_cases e2 : w = i
          · subst e2
            rw [decide_eq_false (show ¬ rFd r w = rFd r u by omega), Bool.and_false, Bool.and_false]
          · rw [decide_eq_false e1, decide_eq_false e2]
            rfl)
      unfold PB
      rw [e, decide_eq_true rfl]
      rfl
theorem who_next {r : zR} {s s' : Nat} (h : ∀ f, wWho r s f = wWho r s' f) : ∀ f, wWho r (if rWr r = 0 then 0 else (s + 1) % rWr r) f = wWho r (s' + 1) f := by
  intro f
  unfold wWho
  by_cases c : rWr r = 0
  · rw [if_pos c, if_pos c]
  · rw [if_neg c, if_neg c, if_neg c]
    have := h (f + 1)
    unfold wWho at this
    rw [if_neg c, if_neg c] at this
    have e : (s + (f + 1)) % rWr r = (s' + (f + 1)) % rWr r := Option.some.inj this
    rw [show s' + 1 + f = s' + (f + 1) by omega, ← e, Nat.mod_add_mod, show s + 1 + f = s + (f + 1) by omega]
theorem tie_meet : ok_meet Rel := by
  intro x y n
  refine tie_q (fun g t ok hT => ?_)
  obtain ⟨okr, okn, ⟨okz, okl, okd⟩, okt⟩ := id ok
  have hwd := okr.2.1
  have hfo := okr.2.2.1
  have hse : zSe g.2.1.1 < 6 := by have := okr.1; rcases okz.1 with q | q <;> omega
  by_cases hok : (∃ v, v < rWd g.1 ∧ x = nI v ∧ rFd g.1 v < rFo g.1 ∧ ∃ w, w < rWd g.1 ∧ y = nI w ∧ rFd g.1 w < rFo g.1 ∧ rFd g.1 v ≠ rFd g.1 w) ∧ ((1 : Int32) ≤ n ∧ n ≤ 9)
  · obtain ⟨⟨v, hv, rfl, hfv, w, hw, rfl, hfw, hne⟩, hN⟩ := hok
    obtain ⟨N, hN9, rfl⟩ := nI_of2 (n := 9) (by decide) (Int32.not_lt.mpr (Int32.le_trans (by decide) hN.1)) hN.2
    have hset : (2 : Nat) ^ v ||| 2 ^ w < 4096 := Nat.or_lt_two_pow (n := 12) (Nat.pow_lt_pow_right (by decide) (by omega)) (Nat.pow_lt_pow_right (by decide) (by omega))
    have hle := mtQ_le g.1 g.2.1.1 (PO g.1 (onl2 g.1 v w)) N
    refine ⟨nI (1000000 - mtQ g.1 g.2.1.1 (PO g.1 (onl2 g.1 v w)) N), fun S Q h hx => ?_, fun S Q h hx => ?_⟩
    · have hwr5 := okr.1
      have filt : ∀ u, u < rWd g.1 → rFd g.1 u < rFo g.1 → (idx (rWd g.1) (nI u)).filter (fun w => decide (rFd g.1 w < rFo g.1)) = some u := fun u hu hfu => by rw [idx_some (by omega) hu, Option.filter_some, decide_eq_true hfu, if_pos rfl]
      have fo : ∀ u, u < rWd g.1 → pAt (rWd g.1) (rFd g.1) (-1) (nI u) = nI (rFd g.1 u) := fun u hu => by unfold pAt; rw [idx_some (by omega) hu]
      refine mX_FoldedRealm_meet (d := 99) ?_
      rw [h.1.2.1]
      refine wX_isWritten (d := 97) okr hT.re h.2.1.1 ?_
      rw [filt v hv hfv]
      refine ⟨fun q => absurd q bI_some, fun _ => ?_⟩
      rw [h.1.2.1]
      refine wX_isWritten (d := 97) okr hT.re h.2.1.1 ?_
      rw [filt w hw hfw]
      refine ⟨fun q => absurd q bI_some, fun _ => ⟨fun q => absurd hN.1 (Int32.not_le.mpr q), fun _ => ⟨fun _ => ?_, fun q => absurd hN.2 q⟩⟩⟩
      rw [h.1.2.1]
      refine wX_foldOf (d := 97) okr hT.re h.2.1.1 ?_
      rw [fo v hv]
      show aWX 99 58 [.ref (gr S 0 2), .int (nI w)] S _
      rw [h.1.2.1]
      refine wX_foldOf (d := 97) okr hT.re h.2.1.1 ?_
      rw [fo w hw]
      show (¬ nI (rFd g.1 v) = nI (rFd g.1 w) → _) ∧ (nI (rFd g.1 v) = nI (rFd g.1 w) → _)
      rw [nI_eq (by omega) (by omega), (smod12 v (by omega)).2, (smod12 w (by omega)).2, nI_orN, show gi S 41 4 = nI (zSe g.2.1.1) from h.2.2.1.1.1]
      refine ⟨fun _ => ?_, fun q => absurd q hne⟩
      have loop : ∀ m k s S1, k + m = N → s < 6 → (∀ f, wWho g.1 s f = wWho g.1 (zSe g.2.1.1 + k) f) → frY soC S S1 → aBX 99 134 Q 46 [some (.ref 0), none, none, some (.int (nI N)), some (.int (nI (2 ^ v ||| 2 ^ w))), some (.int (nI s)), some (.long (lN (mtQ g.1 g.2.1.1 (PO g.1 (onl2 g.1 v w)) k))), none, some (.int (nI k)), none, none] [] S1 := by
        intro m
        induction m with
        | zero =>
          intro k s S1 hk hs6 hws hf1
          obtain rfl : k = N := by omega
          refine bX_FoldedRealm_meet_46 ⟨fun _ => ?_, fun q => absurd (nI_le (Nat.le_refl _) (by omega)) q⟩
          rw [show (1000000 : Int64) = lN 1000000 from rfl, lN_sub hle, lN_i]
          exact hx S1 (hf1.le soC_sc)
        | succ m ih =>
          intro k s S1 hk hs6 hws hf1
          have hR1 := h.2.1.kept hT hf1 (soC_rc hT)
          have hs1 := h.2.2.1.1.keptY hf1 (soC_st stG_41)
          have hg1 : gr S1 0 2 = t := (hf1.gr 0 2).trans h.1.2.1
          refine bX_FoldedRealm_meet_46 ⟨fun q => absurd q (nI_ge (by omega) (by omega)), fun _ => wX_sharedBy (d := 92) okr okz hT hg1 hR1 hs1 (by omega) hset (fun S2 hf2 => ⟨by decide, ?_⟩)⟩
          have eF : shF g.1 g.2.1.1 s (PB g.1 (2 ^ v ||| 2 ^ w)) 0 0 = shF g.1 g.2.1.1 (zSe g.2.1.1 + k) (PO g.1 (onl2 g.1 v w)) 0 0 := shF_P (fun u hu => PB_two hv hw hne hu) hws
          have hF := shF_le okr g.2.1.1 (zSe g.2.1.1 + k) (PO g.1 (onl2 g.1 v w)) (f0 := 0) (a0 := 0) (by omega)
          have hq := mtQ_le g.1 g.2.1.1 (PO g.1 (onl2 g.1 v w)) k
          have hR2 := hR1.kept hT hf2 (soC_rc hT)
          rw [eF, hf2.gr, hg1]
          refine wX_seatBehind (d := 98) okr hT.re hR2.1 ?_
          have en : pNext g.1 (nI s) = nI (if rWr g.1 = 0 then 0 else (s + 1) % rWr g.1) := by
            unfold pNext
            by_cases c : rWr g.1 = 0
            · rw [if_pos c, if_pos c]; rfl
            · rw [if_neg c, if_neg c, nI_1]
              exact pk_rem (by omega) (by omega) (by omega)
          have hmul : mtQ g.1 g.2.1.1 (PO g.1 (onl2 g.1 v w)) k * (1000000 - shF g.1 g.2.1.1 (zSe g.2.1.1 + k) (PO g.1 (onl2 g.1 v w)) 0 0) ≤ 1000000 * 1000000 := Nat.mul_le_mul hq (Nat.sub_le _ _)
          simp only [aI]
          rw [en, nI_l (by omega), show (1000000 : Int64) = lN 1000000 from rfl, lN_sub hF, lN_mul, pk_lDiv (by omega) (by decide) (by decide), nI_1]
          refine ih (k + 1) _ S2 (by omega) ?_ (fun f => ?_) (hf1.tr hf2)
          · split
            · omega
            · have := Nat.mod_lt (s + 1) (show 0 < rWr g.1 by omega)
              omega
          · rw [show zSe g.2.1.1 + (k + 1) = zSe g.2.1.1 + k + 1 by omega]
            exact who_next hws f
      exact loop N 0 (zSe g.2.1.1) S (by omega) hse (fun f => rfl) frY.rf
    · have h' := MM_0 ok h
      have hx2 : ∀ S', frM (fun i => smC i ∨ i = 1040) nF (si S 1000 0 0) S' → Q (.int (nI (1000000 - mtQ g.1 g.2.1.1 (PO g.1 (onl2 g.1 v w)) N))) S' := fun S' hf => hx S' (frM_0.tr (hf.le (fun i hi => by unfold smC eC at hi; unfold scM; omega) (fun _ q => q.elim))) (fun k _ => hf.1 1032 k (by unfold smC eC; omega))
      refine mM_meet (d := 99) (wM_isTold (d := 98) okr h'.1.1 ?_)
      generalize si S 1000 0 0 = S0 at *
      rw [idx_some (by omega) hv]
      refine ⟨fun q => absurd q bI_some, fun _ => wM_isTold (d := 98) okr h'.1.1 ?_⟩
      rw [idx_some (by omega) hw]
      refine ⟨fun q => absurd q bI_some, fun _ => wM_within (d := 98) ?_⟩
      rw [if_pos hN]
      have iv : vp_in (nI v) 24 := nI_in (by omega) (by decide)
      have iw : vp_in (nI w) 24 := nI_in (by omega) (by decide)
      refine ⟨fun q => absurd q (by decide), fun _ => ⟨iv, iw, ?_⟩⟩
      rw [nI_clamp (show v < 2 ^ 31 by omega), nI_clamp (show w < 2 ^ 31 by omega), h'.1.1.2.2.2.2.2.1 v hv, h'.1.1.2.2.2.2.2.1 w hw, c2, h'.1.1.2.2.1, nI_eq (by omega) (by omega), nI_leI (by omega) (by omega), nI_ltI (by omega) (by omega)]
      refine ⟨fun q => absurd q hne, fun _ => ⟨iv, vin (by decide), fun q => absurd q (by omega), fun _ => ⟨iw, vin (by decide), fun _ => wM_noneOnly (d := 98) (fun S1 hf1 hon => ?_), fun q => absurd hfw q⟩⟩⟩
      have hR1 := h'.1.kept hf1 (fun i hi => by omega)
      have e1 : ga S1 1006 v = nI (rFd g.1 v) := hR1.1.2.2.2.2.2.1 v hv
      have e2 : ∀ k x, ga (sa S1 1040 k x) 1006 w = nI (rFd g.1 w) := fun k x => by rw [ga_sa, if_neg (fun q => absurd q.1 (by decide))]; exact hR1.1.2.2.2.2.2.1 w hw
      simp only [aV]
      rw [e1, nI_clamp (show rFd g.1 v < 2 ^ 31 by omega), e2, nI_clamp (show rFd g.1 w < 2 ^ 31 by omega)]
      refine ⟨iv, nI_in (by omega) (by decide), iw, nI_in (by omega) (by decide), ?_⟩
      have hf2 : frM (fun i => smC i ∨ i = 1040) nF S0 (sa (sa S1 1040 (rFd g.1 v) (nI v)) 1040 (rFd g.1 w) (nI w)) := ((hf1.le (fun _ q => Or.inr q) (fun _ q => q)).tr (frM_sa (Or.inr rfl))).tr (frM_sa (Or.inr rfl))
      have hon2 : onM (onl2 g.1 v w) (sa (sa S1 1040 (rFd g.1 v) (nI v)) 1040 (rFd g.1 w) (nI w)) := fun f hf => by
        unfold onl2
        rw [ga_sa]
        by_cases q : f = rFd g.1 w
        · rw [if_pos ⟨rfl, q⟩, if_pos q]; rfl
        · rw [if_neg (fun e => q e.2), if_neg q, ga_sa]
          by_cases q2 : f = rFd g.1 v
          · rw [if_pos ⟨rfl, q2⟩, if_pos q2]; rfl
          · rw [if_neg (fun e => q2 e.2), if_neg q2]
            exact hon f hf
      have hok2 : okOn (onl2 g.1 v w) := fun f u hu => by
        unfold onl2 at hu
        split at hu
        · cases hu; omega
        · split at hu
          · cases hu; omega
          · cases hu
      generalize sa (sa S1 1040 (rFd g.1 v) (nI v)) 1040 (rFd g.1 w) (nI w) = S2 at *
      have hR2 := h'.1.kept hf2 (fun i hi => by unfold smC eC at hi; omega)
      have hs2 : stM g.1 g.2.1.1 (ga S2 1032) 0 := by
        rw [show ga S2 1032 = ga S0 1032 from funext fun j => hf2.1 1032 j (by unfold smC eC; omega)]
        exact h'.2.1.1
      have loop : ∀ m k S3, k + m = N → frM smC nF S2 S3 → aBM 99 86 Q 67 [some (.ref 1000), none, none, some (.int (nI N)), some (.int (nI (mtQ g.1 g.2.1.1 (PO g.1 (onl2 g.1 v w)) k))), some (.int (nI k))] [] S3 := by
        intro m
        induction m with
        | zero =>
          intro k S3 hk hf3
          obtain rfl : k = N := by omega
          refine bM_meet_67 ⟨fun _ => ?_, fun q => absurd (nI_le (Nat.le_refl _) (by omega)) q⟩
          rw [show (1000000 : Int32) = nI 1000000 from rfl, nI_subN hle]
          exact hx2 S3 (hf2.tr (hf3.le (fun _ q => Or.inl q) (fun _ q => q)))
        | succ m ih =>
          intro k S3 hk hf3
          have hR3 := sm_rm hR2 hf3
          have hs3 := sm_st hs2 hf3
          refine bM_meet_67 ⟨fun q => absurd q (nI_ge (by omega) (by omega)), fun _ => ⟨vin (by decide), ?_⟩⟩
          rw [c0, show ga S3 1032 0 = nI (zSe g.2.1.1) from hs3.1, nI_add]
          refine wM_sharesOut (d := 92) (f := 0) (a := 0) (onl := onl2 g.1 v w) okr okz hR3 hs3 (by omega) (by omega) (fun f hf => (hf3.1 1040 f (by unfold smC eC; omega)).trans (hon2 f hf)) hok2 (fun S4 hh hf4 hh4 hl => ⟨by decide, ?_⟩)
          have hF := shF_le okr g.2.1.1 (zSe g.2.1.1 + k) (PO g.1 (onl2 g.1 v w)) (f0 := 0) (a0 := 0) (by omega)
          have hq := mtQ_le g.1 g.2.1.1 (PO g.1 (onl2 g.1 v w)) k
          have hmul : mtQ g.1 g.2.1.1 (PO g.1 (onl2 g.1 v w)) k * (1000000 - shF g.1 g.2.1.1 (zSe g.2.1.1 + k) (PO g.1 (onl2 g.1 v w)) 0 0) ≤ 1000000 * 1000000 := Nat.mul_le_mul hq (Nat.sub_le _ _)
          rw [show (1000000 : Int32) = nI 1000000 from rfl, nI_subN hF, nI_l (by omega), nI_l (by omega), show (1000000 : Int64) = lN 1000000 from rfl, lN_mul, pk_lDiv (by omega) (by decide) (by decide), lN_i, nI_1]
          exact ih (k + 1) S4 (by omega) (hf3.tr hf4)
      exact loop N 0 S2 (by omega) frM.rf
  · refine ⟨-1, fun S Q h hx => ?_, fun S Q h hx => ?_⟩
    · have hx := hx S frY.rf
      refine mX_FoldedRealm_meet (d := 99) ?_
      rw [h.1.2.1]
      refine wX_isWritten (d := 97) okr hT.re h.2.1.1 ?_
      rcases idx_cases (rWd g.1) (by omega) x with ⟨e, -⟩ | ⟨v, hv, rfl, e⟩
      · rw [e]
        exact ⟨fun _ => hx, fun q => absurd rfl q⟩
      · rw [e, Option.filter_some]
        have hf3 := (okr.2.2.2.2.2.1 v hv).1
        by_cases hfv : rFd g.1 v < rFo g.1
        · rw [decide_eq_true hfv, if_pos rfl]
          refine ⟨fun q => absurd q bI_some, fun _ => ?_⟩
          rw [h.1.2.1]
          refine wX_isWritten (d := 97) okr hT.re h.2.1.1 ?_
          rcases idx_cases (rWd g.1) (by omega) y with ⟨e2, -⟩ | ⟨w, hw, rfl, e2⟩
          · rw [e2]
            exact ⟨fun _ => hx, fun q => absurd rfl q⟩
          · rw [e2, Option.filter_some]
            have hf3' := (okr.2.2.2.2.2.1 w hw).1
            by_cases hfw : rFd g.1 w < rFo g.1
            · rw [decide_eq_true hfw, if_pos rfl]
              refine ⟨fun q => absurd q bI_some, fun _ => ⟨fun _ => hx, fun q1 => ⟨fun q2 => ?_, fun _ => hx⟩⟩⟩
              rw [h.1.2.1]
              refine wX_foldOf (d := 97) okr hT.re h.2.1.1 ?_
              show aWX 99 58 [.ref (gr S 0 2), .int (nI w)] S _
              rw [h.1.2.1]
              refine wX_foldOf (d := 97) okr hT.re h.2.1.1 ?_
              unfold pAt
              rw [e, e2]
              show (¬ nI (rFd g.1 v) = nI (rFd g.1 w) → _) ∧ (nI (rFd g.1 v) = nI (rFd g.1 w) → _)
              rw [nI_eq (by omega) (by omega)]
              exact ⟨fun q => absurd ⟨⟨v, hv, rfl, hfv, w, hw, rfl, hfw, q⟩, Int32.not_lt.mp q1, q2⟩ hok, fun _ => hx⟩
            · rw [decide_eq_false hfw, if_neg (by decide)]
              exact ⟨fun _ => hx, fun q => absurd rfl q⟩
        · rw [decide_eq_false hfv, if_neg (by decide)]
          exact ⟨fun _ => hx, fun q => absurd rfl q⟩
    · have h' := MM_0 ok h
      have hx := hx _ frM_0 (fun _ _ => rfl)
      refine mM_meet (d := 99) (wM_isTold (d := 98) okr h'.1.1 ?_)
      generalize si S 1000 0 0 = S0 at *
      rcases idx_cases (rWd g.1) (by omega) x with ⟨e, -⟩ | ⟨v, hv, rfl, e⟩
      · rw [e]
        exact ⟨fun _ => hx, fun q => absurd rfl q⟩
      · rw [e]
        refine ⟨fun q => absurd q bI_some, fun _ => wM_isTold (d := 98) okr h'.1.1 ?_⟩
        rcases idx_cases (rWd g.1) (by omega) y with ⟨e2, -⟩ | ⟨w, hw, rfl, e2⟩
        · rw [e2]
          exact ⟨fun _ => hx, fun q => absurd rfl q⟩
        · rw [e2]
          refine ⟨fun q => absurd q bI_some, fun _ => wM_within (d := 98) ?_⟩
          have hf3 := (okr.2.2.2.2.2.1 v hv).1
          have hf3' := (okr.2.2.2.2.2.1 w hw).1
          by_cases hN : (1 : Int32) ≤ n ∧ n ≤ 9
          · rw [if_pos hN]
            have iv : vp_in (nI v) 24 := nI_in (by omega) (by decide)
            have iw : vp_in (nI w) 24 := nI_in (by omega) (by decide)
            refine ⟨fun q => absurd q (by decide), fun _ => ⟨iv, iw, ?_⟩⟩
            rw [nI_clamp (show v < 2 ^ 31 by omega), nI_clamp (show w < 2 ^ 31 by omega), h'.1.1.2.2.2.2.2.1 v hv, h'.1.1.2.2.2.2.2.1 w hw, c2, h'.1.1.2.2.1, nI_eq (by omega) (by omega), nI_leI (by omega) (by omega), nI_ltI (by omega) (by omega)]
            exact ⟨fun _ => hx, fun q1 => ⟨iv, vin (by decide), fun _ => hx, fun q2 => ⟨iw, vin (by decide), fun q3 => absurd ⟨⟨v, hv, rfl, by omega, w, hw, rfl, q3, q1⟩, hN⟩ hok, fun _ => hx⟩⟩⟩
          · rw [if_neg hN]
            exact ⟨fun _ => hx, fun q => absurd rfl q⟩
