/-! ties: write, pass, burn, undo, writer, count -/
def stepG (g : zG) (z : zS) (hs : List zS) : zG := (g.1, (z, g.2.1.2), hs, g.2.2.2)
theorem okG.step {g : zG} {z : zS} {hs : List zS} (h : okG g) (hz : okZ g.1 z) : okG (stepG g z hs) := ⟨h.1, h.2.1, ⟨hz, h.2.2.1.2⟩, h.2.2.2⟩
theorem XX.step {g : zG} {t : Nat} {S S' : aS} {z : zS} {hs : List zS} {C : Nat → Prop} (h : XX g t S) (hf : frY C S S') (hc : ∀ i, C i → hC i ∨ stC 41 i ∨ scE i) (h1 : hsX g.1 hs S') (h2 : stX g.1 z S' 41) : XX (stepG g z hs) t S' := by
  obtain ⟨⟨hT, g2, g3, g4⟩, k1, k2, k3, k4, k5⟩ := h
  have n : ∀ i, ¬ scE i → ¬ (41 ≤ i ∧ i ≤ 44) → ¬ (47 ≤ i ∧ i ≤ 112) → ¬ C i := fun i a b c q => by
    rcases hc i q with e | e | e
    · exact c e
    · exact b (stC_41.mp e)
    · exact a e
  refine ⟨⟨hT, (hf.gr 0 2).trans g2, (hf.gr 0 3).trans g3, g4.kept hf (fun i hi => n i (by unfold scE; omega) (by omega) (by omega))⟩, k1.kept hT hf (fun i hi => ?_), ⟨h2, k2.2.1.kept (fun k => (hf.1 40 k (n 40 ?_ ?_ ?_)).1) (fun k => (hf.1 45 k (n 45 ?_ ?_ ?_)).2.1), k2.2.2.kept (fun k => (hf.1 40 k (n 40 ?_ ?_ ?_)).1)⟩, h1, k4.kept hf (fun i a b => n i ?_ ?_ ?_), k5.kept hf (n 1 ?_ ?_ ?_) (n 2 ?_ ?_ ?_)⟩
  · have := rc_sc hT i hi
    unfold rcX at hi
    exact n i this (by rcases hT with rfl | rfl <;> omega) (by rcases hT with rfl | rfl <;> omega)
  all_goals (try unfold scE)
  all_goals omega
theorem MM.step {g : zG} {S S' : aS} {z : zS} {hs : List zS} {C F : Nat → Prop} (h : MM g S) (hf : frM C F S S') (hc : ∀ i, C i → i = 1032 ∨ i = 1035 ∨ eC i) (hF : ∀ k, F k → k = 0 ∨ k = 50 ∨ k = 51) (h1 : hsM g.1 hs S') (h2 : stM g.1 z (ga S' 1032) 0) : MM (stepG g z hs) S' := by
  obtain ⟨k1, ⟨k2, k3, k4⟩, k5, k6, k7⟩ := h
  have a : ∀ i, i < 1015 ∨ (1027 ≤ i ∧ i ≤ 1031) ∨ i = 1034 ∨ i = 1036 → ∀ k, ga S' i k = ga S i k := fun i hi k => hf.1 i k (fun q => by have := hc i q; unfold eC at this; omega)
  have ar : ∀ i, 1027 ≤ i → i ≤ 1031 → ∀ k, ga S' i k = ga S i k := fun i h1 h2 => a i (by omega)
  exact ⟨k1.kept hf (fun i hi => by have := hc i hi; unfold eC at this; omega), ⟨h2, k3.kept ar, k4.kept ar⟩, h1, k6.kept ar (a 1034 (by omega)) (a 1036 (by omega)), ⟨(hf.2.2.1 1 (fun q => by have := hF 1 q; omega)).trans k7.1, fun k c hk => (a 1001 (by omega) k).trans (k7.2 k c hk)⟩⟩
theorem canW_fd {r : zR} {z : zS} {w : Nat} (hc : canW r z w = true) : rFd r w = zWr z := of_decide_eq_true ((Bool.and_eq_true _ _).mp (show (decide (rFd r w = zWr z) && decide (0 < zLe z w)) = true from hc)).1
theorem tie_write : ok_write Rel := by
  rintro a SX SM ⟨g, t, ok, hX, hM⟩
  have hwd := ok.1.2.1
  refine wX_write (d := 95) ok.1 ok.2.2.1.1 hX.1.2.1 hX.1.1 hX.2.1 hX.2.2.1.1 hX.2.2.2.1 (fun c => ⟨-1, rfl, ?_⟩) (fun w e hw c S' hf hh hs => ⟨_, rfl, ?_⟩)
  · refine wM_write (d := 93) ok.1 ok.2.2.1.1 hM.1 hM.2.1.1 hM.2.2.1 (fun _ => ⟨rfl, g, t, ok, hX, MM_0 ok hM⟩) (fun w e hw c2 => ?_)
    rw [e, can1 ok.1 hw c2] at c
    exact absurd c (by decide)
  · subst e
    refine wM_write (d := 93) ok.1 ok.2.2.1.1 hM.1 hM.2.1.1 hM.2.2.1 (fun c2 => ?_) (fun w' e hw' c2 S2 hf2 hh2 hs2 => ?_)
    · rw [can1 ok.1 hw c] at c2
      exact absurd c2 (by decide)
    · rw [nI_eq (by omega) (by omega)] at e
      subst e
      exact ⟨rfl, _, t, ok.step (okZ_put ok.1 ok.2.2.1.1 hw (canW_fd c)), hX.step hf (fun i hi => hi.imp_right id) hh hs, hM.step hf2 (fun i hi => by unfold wrC eC at hi; unfold eC; omega) (fun k hk => hk) hh2 hs2⟩
theorem tie_pass : ok_pass Rel := by
  rintro SX SM ⟨g, t, ok, hX, hM⟩
  refine wX_pass (d := 96) ok.1 ok.2.2.1.1 hX.1.2.1 hX.1.1 hX.2.1.1 hX.2.2.1.1 hX.2.2.2.1 (fun c => ⟨-1, rfl, ?_⟩) (fun c S' hf hh hs => ⟨_, rfl, ?_⟩)
  · refine wM_pass (d := 97) ok.1 ok.2.2.1.1 hM.1.1 hM.2.1.1 hM.2.2.1 (fun _ => ⟨rfl, g, t, ok, hX, MM_0 ok hM⟩) (fun c2 => ?_)
    rw [c] at c2
    cases c2
  · refine wM_pass (d := 97) ok.1 ok.2.2.1.1 hM.1.1 hM.2.1.1 hM.2.2.1 (fun c2 => ?_) (fun _ S2 hf2 hh2 hs2 => ?_)
    · rw [c] at c2
      cases c2
    · have hwp : 0 < rWr g.1 := by
        unfold canP at c
        exact of_decide_eq_true ((Bool.and_eq_true _ _).mp c).2
      exact ⟨rfl, _, t, ok.step (okZ_seat ok.2.2.1.1 (Nat.mod_lt _ hwp)), hX.step hf.Y (fun i hi => hi.imp_right (fun q => Or.inl (Or.inl q))) hh hs, hM.step hf2 (fun i hi => by omega) (fun k hk => by omega) hh2 hs2⟩
theorem tie_burn : ok_burn Rel := by
  rintro a SX SM ⟨g, t, ok, hX, hM⟩
  refine wX_burn (d := 96) ok.1 ok.2.2.1.1 hX.1.2.1 hX.1.1 hX.2.1.1 hX.2.2.1.1 hX.2.2.2.1 (fun c => ⟨-1, rfl, ?_⟩) (fun k e hk S' hf hh hs => ⟨_, rfl, ?_⟩)
  · refine wM_burn (d := 97) ok.1 ok.2.2.1.1 hM.1.1 hM.2.1.1 hM.2.2.1 (fun _ => ⟨rfl, g, t, ok, hX, MM_0 ok hM⟩) (fun k e => ?_)
    rw [c] at e
    cases e
  · refine wM_burn (d := 97) ok.1 ok.2.2.1.1 hM.1.1 hM.2.1.1 hM.2.2.1 (fun c => ?_) (fun k' e' hk' S2 hf2 hh2 hs2 => ?_)
    · rw [e] at c
      cases c
    · rw [e] at e'
      cases e'
      exact ⟨rfl, _, t, ok.step (okZ_burn ok.2.2.1.1 hk), hX.step hf.Y (fun i hi => hi.imp_right Or.inl) hh hs, hM.step hf2 (fun i hi => by omega) (fun k hk => by omega) hh2 hs2⟩
theorem tie_undo : ok_undo Rel := by
  rintro SX SM ⟨g, t, ok, hX, hM⟩
  refine wX_undo (d := 97) ok.1 hX.2.2.2.1 (fun c => ⟨0, rfl, ?_⟩) (fun hs' z S' e hf hh hz hs => ⟨1, rfl, ?_⟩)
  · refine wM_undo (d := 98) ok.1 hM.2.2.1 (fun _ => ⟨rfl, g, t, ok, hX, MM_0 ok hM⟩) (fun hs' z S' e => ?_)
    rw [c] at e
    exact absurd (congrArg List.length e) (by simp)
  · refine wM_undo (d := 98) ok.1 hM.2.2.1 (fun c => ?_) (fun hs2 z2 S2 e2 hf2 hh2 hz2 hs3 => ?_)
    · rw [c] at e
      exact absurd (congrArg List.length e) (by simp)
    · rw [e] at e2
      obtain ⟨rfl, e3⟩ := List.append_inj' e2 rfl
      cases e3
      exact ⟨rfl, _, t, ok.step hz, hX.step hf.Y (fun i hi => hi.elim (fun q => Or.inl (by unfold hC; omega)) (fun q => Or.inr (Or.inl q))) hh hs, hM.step hf2 (fun i hi => by omega) (fun k hk => by omega) hh2 hs3⟩
def pWriter (r : zR) (x y : Int32) : Int32 := match idx (rWr r) x with
  | none => -2
  | some k => if y < 0 then -2 else if nI (rWd r) < y then -2 else if y = 0 then nI (rKi r k) else nI (rLi r k (y.toNatClampNeg - 1))
theorem tie_writer : ok_writer Rel := by
  intro x y
  refine tie_q (fun g t ok hT => ⟨pWriter g.1 x y, fun S Q h hx => ?_, fun S Q h hx => ?_⟩)
  · have hx := hx S frY.rf
    have hwr := ok.1.1
    have hwd := ok.1.2.1
    unfold pWriter at hx
    refine mX_FoldedRealm_writer (d := 99) ?_
    rw [h.1.2.1]
    refine wX_hasWriter (d := 98) ok.1 hT.re h.2.1.1 ?_
    rcases idx_cases (rWr g.1) (by omega) x with ⟨e, -⟩ | ⟨k, hk, rfl, e⟩
    · rw [e] at hx ⊢
      exact ⟨fun q => absurd rfl q, fun _ => hx⟩
    · rw [e] at hx ⊢
      dsimp only at hx
      show (¬ bI (some k) = 0 → ((¬ y = 0 → ((y < 1 → Q (.int (-2)) S) ∧ (¬ y < 1 → aG (gK (gr S 0 2) 6) _))) ∧ (y = 0 → aWX 99 61 [.ref (gr S 0 2), .int (nI k)] S _))) ∧ _
      rw [h.1.2.1]
      refine ⟨fun _ => ⟨fun c0 => ⟨fun c1 => ?_, fun c1 => gK_ok hT.re.1 ?_⟩, fun c0 => ?_⟩, fun q => absurd q bI_some⟩
      · have c2 : y < 0 := by
          rw [Int32.lt_iff_toInt_lt] at c1 ⊢
          have : y.toInt ≠ 0 := fun q => c0 (Int32.toInt_inj.mp (by rw [q]; rfl))
          have e1 : (1 : Int32).toInt = 1 := rfl
          have e0 : (0 : Int32).toInt = 0 := rfl
          omega
        rw [if_pos c2] at hx
        exact hx
      · have c2 : ¬ y < 0 := fun q => c1 (Int32.lt_trans q (by decide))
        obtain ⟨j, hj, rfl⟩ := nI_of c2
        rw [h.2.1.1.2.1, nI_leI hj (by omega)]
        rw [if_neg c2, if_neg c0, nI_clamp hj] at hx
        have j0 : ¬ j = 0 := fun q => c0 (by rw [q]; rfl)
        refine ⟨fun c3 => ?_, fun c3 => ?_⟩
        · rw [if_neg (nI_nlt (by omega) (by omega))] at hx
          refine wX_fondness (d := 97) ok.1 hT.re h.2.1.1 ?_
          have e1 : nI j - 1 = nI (j - 1) := by
            have := nI_pred (j - 1)
            rw [show j - 1 + 1 = j by omega] at this
            exact this
          have e2 : pFond g.1 (nI k) (nI j - 1) = nI (rLi g.1 k (j - 1)) := by
            unfold pFond
            rw [e1, idx_some (by omega) hk, idx_some (by omega) (show j - 1 < rWd g.1 by omega)]
          rw [e2]
          exact hx
        · rw [if_pos (nI_lt (by omega) hj)] at hx
          exact hx
      · subst c0
        rw [if_neg (by decide), if_neg (show ¬ nI (rWd g.1) < 0 from nI_pos (by omega)), if_pos rfl] at hx
        refine wX_kindOf (d := 97) ok.1 hT.re h.2.1.1 ?_
        have e2 : pAt (rWr g.1) (rKi g.1) 0 (nI k) = nI (rKi g.1 k) := by
          unfold pAt
          rw [idx_some (by omega) hk]
        rw [e2]
        exact hx
  · have hx := hx _ frM_0 (fun _ _ => rfl)
    have hwr := ok.1.1
    have hwd := ok.1.2.1
    have h' := MM_0 ok h
    unfold pWriter at hx
    refine mM_writer (d := 99) (wM_isWriter (d := 98) ok.1 h'.1.1 ?_)
    rcases idx_cases (rWr g.1) (by omega) x with ⟨e, -⟩ | ⟨k, hk, rfl, e⟩
    · rw [e] at hx ⊢
      exact ⟨fun _ => hx, fun q => absurd rfl q⟩
    · rw [e] at hx ⊢
      dsimp only at hx
      have e1 : ga (si S 1000 0 0) 1002 1 = nI (rWd g.1) := h'.1.1.2.1
      refine ⟨fun q => absurd q bI_some, fun _ => ⟨fun c0 => ?_, fun c0 => ⟨vin (by decide), ?_⟩⟩⟩
      · rw [if_pos c0] at hx
        exact hx
      · obtain ⟨j, hj, rfl⟩ := nI_of c0
        rw [c1, e1, nI_leI hj (by omega)]
        rw [if_neg c0, nI_clamp hj] at hx
        refine ⟨fun c3 => ⟨fun c4 => ?_, fun c4 => ?_⟩, fun c3 => ?_⟩
        · have j0 : ¬ j = 0 := fun q => c4 (by rw [q]; rfl)
          rw [if_neg (nI_nlt (by omega) (by omega)), if_neg c4] at hx
          have e2 : (12 : Int32) * nI k + nI j - 1 = nI (12 * k + (j - 1)) := by
            have := nI_pred (12 * k + (j - 1))
            rw [show 12 * k + (j - 1) + 1 = 12 * k + j by omega] at this
            rw [show (12 : Int32) = nI 12 from rfl, nI_mulN, nI_add]
            exact this
          rw [e2, nI_clamp (by omega), h'.1.1.2.2.2.2.2.2.2.2.2 k (j - 1) hk (by omega)]
          exact ⟨nI_in (by omega) (by decide), hx⟩
        · have j0 : j = 0 := (nI_eq0 hj).mp c4
          rw [if_neg (nI_nlt (by omega) (by omega)), if_pos c4] at hx
          rw [nI_clamp (by omega), h'.1.1.2.2.2.2.1 k hk]
          exact ⟨nI_in (by omega) (by decide), hx⟩
        · rw [if_pos (nI_lt (by omega) hj)] at hx
          exact hx
