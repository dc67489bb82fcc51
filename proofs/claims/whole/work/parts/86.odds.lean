/-! the tie of word; all folds weighed -/
def wdV (g : zG) (w j : Nat) : Int32 := match j with
  | 0 => nI (rFd g.1 w)
  | 1 => nI (rWe g.1 w)
  | 2 => nI (rGo g.1 w)
  | 3 => nI (zLe g.2.1.1 w)
  | _ => if rFd g.1 w = zWr g.2.1.1 then nI (lkV g.1 (wWho g.1 (zSe g.2.1.1) (zWr g.2.1.1)) (zLe g.2.1.1 w) w (ahV g.1 g.2.1.1)) else -1
def pWord (g : zG) (x y : Int32) : Int32 := match idx (rWd g.1) x with
  | none => -2
  | some w => (match idx 5 y with
    | none => -2
    | some j => wdV g w j)
theorem tie_word : ok_word Rel := by
  intro x y
  refine tie_q (fun g t ok hT => ⟨pWord g x y, fun S Q h hx => ?_, fun S Q h hx => ?_⟩)
  · have hwd := ok.1.2.1
    obtain ⟨okr, okn, ⟨okz, okl, okd⟩, okt⟩ := id ok
    have hwr := okz.2.1
    have hfo := okr.2.2.1.2
    have e2 := h.1.2.1
    have ht := hT.re
    obtain ⟨h1, h2, h3, h4, h5⟩ := h.2
    unfold pWord at hx
    refine mX_FoldedRealm_word (d := 99) ?_
    rw [e2]
    refine wX_hasWord (d := 98) okr ht h1.1 ?_
    rcases idx_cases (rWd g.1) (by omega) x with ⟨e, -⟩ | ⟨w, hw, rfl, e⟩
    · rw [e] at hx ⊢
      exact ⟨fun q => absurd rfl q, fun _ => hx S frY.rf⟩
    · rw [e] at hx ⊢
      dsimp only at hx
      refine ⟨fun _ => ?_, fun q => absurd q bI_some⟩
      rcases idx_cases 5 (by decide) y with ⟨e3, c⟩ | ⟨j, hj, rfl, e3⟩
      · rw [e3] at hx
        exact asw_mis _ (lkA_out (n := 5) (by decide) (by decide) (c.imp_right (fun q => q.2))) (bX_FoldedRealm_word_38 (hx S frY.rf))
      · rw [e3] at hx
        dsimp only at hx
        have hf3 := (okr.2.2.2.2.2.1 w hw).1
        match j, hj with
        | 0, _ => exact asw_hit (t := 9) _ (by decide) (bX_FoldedRealm_word_9 (by rw [e2, nI_clamp (by omega), h1.1.2.2.2.2.2.1 w hw]; exact gK_ok ht.1 (gK_ok ht.2.2.1.1 ⟨by rw [ht.2.2.1.2]; exact nI_in (by omega) (by decide), hx S frY.rf⟩)))
        | 1, _ => exact asw_hit (t := 15) _ (by decide) (bX_FoldedRealm_word_15 (by rw [e2, nI_clamp (by omega), h1.1.2.2.2.2.2.2.1 w hw]; exact gK_ok ht.1 (gK_ok ht.2.2.2.1.1 ⟨by rw [ht.2.2.2.1.2]; exact nI_in (by omega) (by decide), hx S frY.rf⟩)))
        | 2, _ => exact asw_hit (t := 21) _ (by decide) (bX_FoldedRealm_word_21 (by rw [e2, nI_clamp (by omega), h1.1.2.2.2.2.2.2.2.1 w hw]; exact gK_ok ht.1 (gK_ok ht.2.2.2.2.1.1 ⟨by rw [ht.2.2.2.2.1.2]; exact nI_in (by omega) (by decide), hx S frY.rf⟩)))
        | 3, _ => exact asw_hit (t := 27) _ (by decide) (bX_FoldedRealm_word_27 ⟨nI_in (by omega) (by decide), by rw [nI_clamp (by omega), show ga S 42 w = nI (zLe g.2.1.1 w) from h2.1.2.2.2.2.2.1 w hw]; exact hx S frY.rf⟩)
        | 4, _ =>
          refine asw_hit (t := 34) _ (by decide) (bX_FoldedRealm_word_34 (mX_FoldedRealm_likelyNow (d := 98) ?_))
          rw [e2]
          refine wX_foldOf (d := 96) okr ht h1.1 ?_
          have e1 : pAt (rWd g.1) (rFd g.1) (-1) (nI w) = nI (rFd g.1 w) := by unfold pAt; rw [e]
          rw [e1]
          show (nI (rFd g.1 w) = gi S 41 3 → aWX 98 24 [.ref 117, .ref (gr S 0 2), .ref 41] S _) ∧ _
          rw [e2, show gi S 41 3 = nI (zWr g.2.1.1) from h2.1.2.1, nI_eq (by omega) (by omega)]
          unfold wdV at hx
          refine ⟨fun c => wX_weighNext (d := 93) okr okz hT stG_41 h1 h2.1 (fun S1 hf hrow => ?_), fun c => ?_⟩
          · refine wX_likelyBehind (d := 97) (i := 0) (by decide) (by omega) ?_
            rw [hrow.1 w hw c]
            have := hx S1 (hf.le oC_sc)
            rw [if_pos c] at this
            exact this
          · have := hx S frY.rf
            rw [if_neg c] at this
            exact this
        | n + 5, q => exact absurd q (by omega)
  · have hwd := ok.1.2.1
    obtain ⟨okr, okn, ⟨okz, okl, okd⟩, okt⟩ := id ok
    have hwr := okz.2.1
    have hfo := okr.2.2.1.2
    have h' := MM_0 ok h
    have hx0 := hx _ frM_0 (fun _ _ => rfl)
    have hx2 : ∀ S', frM eC nF (si S 1000 0 0) S' → Q (.int (pWord g x y)) S' := fun S' hf => hx S' (frM_0.tr (hf.le (fun i hi => by unfold eC at hi; unfold scM; omega) (fun _ q => q.elim))) (fun k _ => hf.1 1032 k (by unfold eC; omega))
    generalize hS1 : si S 1000 0 0 = S1 at *
    refine mM_word (d := 99) ?_
    obtain ⟨h1, ⟨h2, h3, h4⟩, -⟩ := h'
    unfold pWord at hx0 hx2
    have fin : ∀ S0, S0 = S1 → aWM 99 43 [.ref 1000, .int x] S0 (fun v1 S2 => aI v1 (fun x3 => ((x3 = 0 → (Q (.int (-2)) S2)) ∧ (¬ x3 = 0 → (aWM 99 1 [.int y, .int 0, .int 4] S2 (fun v4 S5 => aI v4 (fun x6 => ((¬ x6 = 0 → (((3 : Int32) ≤ y → ((¬ y = 3 → (vp_in x 24 ∧ (vp_in 1 60 ∧ (((¬ (ga S5 1006 x.toNatClampNeg) = (ga S5 1032 (1 : Int32).toNatClampNeg) → (Q (.int (-1)) S5)) ∧ ((ga S5 1006 x.toNatClampNeg) = (ga S5 1032 (1 : Int32).toNatClampNeg) → (aWM 99 47 [.ref 1000, .int x] S5 (fun v7 S8 => aI v7 (fun x9 => Q (.int x9) S8))))))))) ∧ (y = 3 → (vp_in (8 + x) 60 ∧ (Q (.int (ga S5 1032 (8 + x).toNatClampNeg)) S5))))) ∧ (¬ (3 : Int32) ≤ y → ((¬ y = 0 → ((¬ y = 1 → (vp_in x 24 ∧ (Q (.int (ga S5 1008 x.toNatClampNeg)) S5))) ∧ (y = 1 → (vp_in x 24 ∧ (Q (.int (ga S5 1007 x.toNatClampNeg)) S5))))) ∧ (y = 0 → (vp_in x 24 ∧ (Q (.int (ga S5 1006 x.toNatClampNeg)) S5))))))) ∧ (x6 = 0 → (Q (.int (-2)) S5)))))))))) := by
      rintro S0 rfl
      refine wM_isTold (d := 98) okr h1.1 ?_
      rcases idx_cases (rWd g.1) (by omega) x with ⟨e, -⟩ | ⟨w, hw, rfl, e⟩
      · rw [e] at hx0 ⊢
        exact ⟨fun _ => hx0, fun q => absurd rfl q⟩
      · rw [e] at hx0 hx2 ⊢
        dsimp only at hx0 hx2
        refine ⟨fun q => absurd q bI_some, fun _ => wM_within (d := 98) ?_⟩
        rcases idx_cases 5 (by decide) y with ⟨e3, c⟩ | ⟨j, hj, rfl, e3⟩
        · rw [e3] at hx0
          rw [if_neg (fun q => c.elim (fun a => absurd a (Int32.not_lt.mpr q.1)) (fun a => absurd (Int32.le_trans a.2 q.2) (by decide)))]
          exact ⟨fun q => absurd rfl q, fun _ => hx0⟩
        · rw [e3] at hx0 hx2
          dsimp only at hx0 hx2
          have hf3 := (okr.2.2.2.2.2.1 w hw).1
          have i24 : vp_in (nI w) 24 := nI_in (by omega) (by decide)
          rw [if_pos ⟨nI_pos' (by omega), nI_le (a := j) (b := 4) (by omega) (by decide)⟩, nI_clamp (show w < 2 ^ 31 by omega)]
          refine ⟨fun _ => ?_, fun q => absurd q (by decide)⟩
          match j, hj with
          | 0, _ => exact ⟨fun q => absurd q (by decide), fun _ => ⟨fun q => absurd rfl q, fun _ => ⟨i24, by rw [h1.1.2.2.2.2.2.1 w hw]; exact hx0⟩⟩⟩
          | 1, _ => exact ⟨fun q => absurd q (by decide), fun _ => ⟨fun _ => ⟨fun q => absurd rfl q, fun _ => ⟨i24, by rw [h1.1.2.2.2.2.2.2.1 w hw]; exact hx0⟩⟩, fun q => absurd q (by decide)⟩⟩
          | 2, _ => exact ⟨fun q => absurd q (by decide), fun _ => ⟨fun _ => ⟨fun _ => ⟨i24, by rw [h1.1.2.2.2.2.2.2.2.1 w hw]; exact hx0⟩, fun q => absurd q (by decide)⟩, fun q => absurd q (by decide)⟩⟩
          | 3, _ =>
            have e8 : (8 : Int32) + nI w = nI (8 + w) := nI_add 8 w
            have eL : ga S0 1032 (8 + w) = nI (zLe g.2.1.1 w) := by
              have := h2.2.2.2.2.2.1 w hw
              rw [Nat.zero_add] at this
              exact this
            exact ⟨fun _ => ⟨fun q => absurd rfl q, fun _ => ⟨by rw [e8]; exact nI_in (by omega) (by decide), by rw [e8, nI_clamp (by omega), eL]; exact hx0⟩⟩, fun q => absurd (by decide) q⟩
          | 4, _ =>
            refine ⟨fun _ => ⟨fun _ => ⟨i24, vin (by decide), ?_⟩, fun q => absurd q (by decide)⟩, fun q => absurd (by decide) q⟩
            rw [h1.1.2.2.2.2.2.1 w hw, c1, show ga S0 1032 1 = nI (zWr g.2.1.1) from h2.2.1, nI_eq (by omega) (by omega)]
            unfold wdV at hx0 hx2
            refine ⟨fun c => ?_, fun c => wM_likelyNow (d := 94) okr okz h1 h2 hw (fun S2 hf => ?_)⟩
            · rw [if_neg c] at hx0
              exact hx0
            · have := hx2 S2 hf
              rw [if_pos c] at this
              exact this
          | n + 5, q => exact absurd q (by omega)
    exact fin _ hS1
def oAll (r : zR) (z : zS) (s f0 a0 : Nat) (S : aS) : Prop := oRow r z (wWho r s f0) f0 a0 S 0 ∧ ∀ v, v < rWd r → f0 ≤ rFd r v → rFd r v + 1 < rFo r → oRow r z (wWho r s (rFd r v + 1)) (rFd r v + 1) (rGo r v) S (v + 1)
theorem oRow.kept {r : zR} {z : zS} {o : Option Nat} {f a i j : Nat} {S S' : aS} (hr : okR r) (h : oRow r z o f a S j) (hne : j ≠ i) (h1 : ∀ k, k < 12 * i ∨ 12 * i + 12 ≤ k → ga S' 118 k = ga S 118 k) (h2 : ∀ k, k ≠ i → ga S' 119 k = ga S 119 k) : oRow r z o f a S' j := by
  have hwd := hr.2.1
  exact ⟨fun w hw hfd => (h1 _ (by omega)).trans (h.1 w hw hfd), (h2 j hne).trans h.2⟩
section
variable {d : Nat} {Q : Value → aS → Prop} {S : aS} {r : zR} {z : zS} {t p s f0 a0 : Nat}
theorem wX_weighAll (hr : okR r) (hz : okZ r z) (hT : isT t) (hG : stG p) (h : RX r S t) (hs : stX r z S p) (hs20 : s < 20) (hf0 : f0 < rFo r) (ha0 : (f0 = 0 ∧ a0 = 0) ∨ (f0 = zWr z ∧ a0 = ahV r z)) (hx : ∀ S', frY oC S S' → oAll r z s f0 a0 S' → Q .null S') : aWX (d + 5) 25 [.ref 117, .ref t, .ref p, .int (nI s), .int (nI f0)] S Q := by
  have hwd := hr.2.1
  have hfo := hr.2.2.1.2
  have ht := hT.re
  have k27 : ∀ m f S1, f + m = rFo r → f0 < f → frY oC S S1 → oRow r z (wWho r s f0) f0 a0 S1 0 → (∀ v, v < rWd r → f0 ≤ rFd r v → rFd r v + 1 < f → oRow r z (wWho r s (rFd r v + 1)) (rFd r v + 1) (rGo r v) S1 (v + 1)) → aBX (d + 4) 25 Q 27 [some (.ref 117), some (.ref t), some (.ref p), some (.int (nI s)), none, none, some (.int (nI f)), none, none] [] S1 := by
    intro m
    induction m with
    | zero =>
      intro f S1 hm hf hf1 h0 hrow
      have h1 := h.kept hT hf1 (oC_rc hT)
      refine bX_Odds_weighAll_27 (gK_ok ht.1 ?_)
      rw [h1.1.2.2.1]
      refine ⟨fun _ => hx S1 hf1 ⟨h0, fun v hv h2 h3 => hrow v hv h2 (by omega)⟩, fun q => absurd (nI_le (by omega) (by omega)) q⟩
    | succ m ih =>
      intro f S1 hm hf hf1 h0 hrow
      have h1 := h.kept hT hf1 (oC_rc hT)
      refine bX_Odds_weighAll_27 (gK_ok ht.1 ?_)
      rw [h1.1.2.2.1]
      refine ⟨fun q => absurd q (nI_ge (by omega) (by omega)), fun _ => wX_writerAt hr ht h1.1 ?_⟩
      rw [pWho_eq hr (by omega)]
      have k38 : ∀ m2 v S2, v + m2 = 12 → frY oC S S2 → oRow r z (wWho r s f0) f0 a0 S2 0 → (∀ u, u < rWd r → f0 ≤ rFd r u → (rFd r u + 1 < f ∨ (rFd r u + 1 = f ∧ u < v)) → oRow r z (wWho r s (rFd r u + 1)) (rFd r u + 1) (rGo r u) S2 (u + 1)) → aBX (d + 4) 25 Q 38 [some (.ref 117), some (.ref t), some (.ref p), some (.int (nI s)), none, none, some (.int (nI f)), some (.int (whoI (wWho r s f))), some (.int (nI v))] [] S2 := by
        intro m2
        induction m2 with
        | zero =>
          intro v S2 hv hf2 h02 hrow2
          refine bX_Odds_weighAll_38 ⟨fun _ => ?_, fun q => absurd (nI_le (a := 12) (b := v) (by omega) (by omega)) q⟩
          rw [nI_1]
          exact ih (f + 1) S2 (by omega) (by omega) hf2 h02 (fun u hu h2 h3 => hrow2 u hu h2 (by omega))
        | succ m2 ih2 =>
          intro v S2 hv hf2 h02 hrow2
          have h2 := h.kept hT hf2 (oC_rc hT)
          have hs2 := hs.keptY hf2 (oC_st hG)
          refine bX_Odds_weighAll_38 ⟨fun q => absurd q (nI_ge (a := v) (b := 12) (by omega) (by decide)), fun _ => wX_foldOf hr ht h2.1 ?_⟩
          have ef : nI f - 1 = nI (f - 1) := by
            have := nI_pred (f - 1)
            rw [show f - 1 + 1 = f by omega] at this
            exact this
          rw [nI_1, ef]
          by_cases c : v < rWd r
          · have hf3 := (hr.2.2.2.2.2.1 v c).1
            have e1 : pAt (rWd r) (rFd r) (-1) (nI v) = nI (rFd r v) := by unfold pAt; rw [idx_some (by omega) c]
            rw [e1]
            show (¬ nI (rFd r v) = nI (f - 1) → _) ∧ (nI (rFd r v) = nI (f - 1) → _)
            rw [nI_eq (by omega) (by omega)]
            refine ⟨fun c2 => ih2 (v + 1) S2 (by omega) hf2 h02 (fun u hu h3 h4 => hrow2 u hu h3 ?_), fun c2 => wX_goodOfWord hr ht h2.1 ?_⟩
            · rcases h4 with q | ⟨q1, q2⟩
              · exact Or.inl q
              · refine Or.inr ⟨q1, ?_⟩
                rcases Nat.lt_or_ge u v with q | q
                · exact q
                · exact absurd (by rw [show v = u by omega]; omega) c2
            · have e3 : pAt (rWd r) (rGo r) 0 (nI v) = nI (rGo r v) := by unfold pAt; rw [idx_some (by omega) c]
              rw [e3]
              refine wX_weighBehind (i := v + 1) hr hz hT hG h2 hs2 (okW_who s f) (by omega) (by omega) (fun S3 hf3 hr3 hoth hto => ?_)
              refine ih2 (v + 1) S3 (by omega) (hf2.tr hf3) (h02.kept hr (by omega) hoth hto) (fun u hu h3 h4 => ?_)
              by_cases q : u = v
              · subst q
                rw [show rFd r u + 1 = f by omega]
                exact hr3
              · exact (hrow2 u hu h3 (by omega)).kept hr (by omega) hoth hto
          · have e1 : pAt (rWd r) (rFd r) (-1) (nI v) = -1 := by unfold pAt; rw [idx_none (Or.inr (nI_le (by omega) (by omega)))]
            rw [e1]
            refine ⟨fun _ => ih2 (v + 1) S2 (by omega) hf2 h02 (fun u hu h3 h4 => hrow2 u hu h3 (by omega)), fun q => absurd q (m1_ne (by omega))⟩
      exact k38 12 0 S1 rfl hf1 h0 (fun u hu h2 h3 => hrow u hu h2 (by omega))
  have k11 : aBX (d + 4) 25 Q 11 [some (.ref 117), some (.ref t), some (.ref p), some (.int (nI s)), some (.int (nI f0)), none, none, none, none] [.int (nI a0)] S := by
    refine bX_Odds_weighAll_11 (wX_writerAt hr ht h.1 ?_)
    rw [pWho_eq hr (by omega)]
    refine wX_weighBehind (i := 0) hr hz hT hG h hs (okW_who s f0) (by decide) (by omega) (fun S1 hf hrow _ _ => ?_)
    rw [nI_1]
    exact k27 (rFo r - (f0 + 1)) (f0 + 1) S1 (by omega) (by omega) hf hrow (fun v hv h2 h3 => absurd h3 (by omega))
  refine mX_Odds_weighAll ?_
  rw [nI_le0 (by omega)]
  refine ⟨fun c => ?_, fun c => ?_⟩
  · have : a0 = 0 := by
      rcases ha0 with q | ⟨q1, q2⟩
      · exact q.2
      · rw [q2]; unfold ahV; rw [if_pos (by omega)]
    rw [this] at k11
    exact k11
  · obtain ⟨q1, q2⟩ : f0 = zWr z ∧ a0 = ahV r z := by
      rcases ha0 with q | q
      · exact absurd q.1 c
      · exact q
    subst q1
    subst q2
    exact wX_ahead hr hz hT hG h hs (Q2 := fun x6 S5 => aBX (d + 4) 25 Q 11 [some (.ref 117), some (.ref t), some (.ref p), some (.int (nI s)), some (.int (nI (zWr z))), none, none, none, none] [.int x6] S5) k11
end
