/-! ties: best, worst, mean -/
theorem frM_rw {S S' : aS} (hf : frM rwC rwF S S') : frM scM scF S S' ∧ ∀ k, k < 60 → ga S' 1032 k = ga S 1032 k := ⟨hf.le (fun i hi => by unfold rwC eC at hi; unfold scM; omega) (fun k hk => by unfold rwF at hk; unfold scF; omega), fun k _ => hf.1 1032 k (by unfold rwC eC; omega)⟩
theorem bsS_ok {r : zR} {z : zS} (hr : okR r) (hz : okZ r z) {y : zW} (h : bsS (rowsZ r z) = some y) : okRw r y := by
  have key : ∀ (L : List zW) b, (∀ x, x ∈ L → okRw r x) → (∀ x, b = some x → okRw r x) → ∀ x, L.foldl bsStep b = some x → okRw r x := by
    intro L
    induction L with
    | nil => intro b _ hb x hx; exact hb x hx
    | cons w L ih =>
      intro b hL hb x hx
      refine ih (bsStep b w) (fun v hv => hL v (List.mem_cons_of_mem _ hv)) (fun v hv => ?_) x hx
      have hw := hL w List.mem_cons_self
      cases b with
      | none => cases hv; exact hw
      | some u =>
        unfold bsStep at hv
        dsimp only at hv
        split at hv
        · cases hv; exact hb _ rfl
        · cases hv; exact hw
  exact key _ none (rowsZ_ok hr hz) (fun _ q => by cases q) y h
def bestV (r : zR) (z : zS) (x : Int32) : Int32 := match bsS (rowsZ r z) with
  | none => -2
  | some y => if x = -1 then nI (y.2.1 * 1000000 / y.2.2) else (match idx (rFo r) x with
    | none => -2
    | some f => if f < zWr z then -2 else nI (y.1 f))
theorem tie_best : ok_best Rel := by
  intro x
  refine tie_q (fun g t ok hT => ⟨bestV g.1 g.2.1.1 x, fun S Q h hx => ?_, fun S Q h hx => ?_⟩)
  · obtain ⟨okr, okn, ⟨okz, okl, okd⟩, okt⟩ := id ok
    have hfo := okr.2.2.1.2
    have hwr := okz.2.1
    have hlen := rowsZ_len okr okz
    refine mX_FoldedRealm_best (d := 99) ?_
    rw [h.1.2.1]
    refine wX_gatherRows (d := 89) okr okz hT stG_41 h.2.1 h.2.2.1.1 (fun S1 hf hR => ?_)
    have hx := hx S1 (hf.le gxC_sc)
    have h1 := h.2.1.kept hT hf (gxC_rc hT)
    have hs1 := h.2.2.1.1.keptY hf (gxC_st stG_41)
    unfold bestV at hx
    refine wX_greatestRow (d := 98) hlen hR (fun hb => ?_) (fun i y hi hy hb => ?_)
    · rw [hb] at hx
      exact ⟨fun q => absurd rfl q, fun _ => hx⟩
    · rw [hb] at hx
      dsimp only at hx
      have hoy := bsS_ok okr okz hb
      refine ⟨fun _ => ?_, fun q => absurd q.symm (m1_ne (by omega))⟩
      show (¬ x = -1 → ((x < gi S1 41 3 → _) ∧ (¬ x < gi S1 41 3 → aG (gK (gr S1 0 2) 6) ((x < gi S1 (gr S1 0 2) 12 → _) ∧ (¬ x < gi S1 (gr S1 0 2) 12 → _))))) ∧ (x = -1 → _)
      rw [hf.gr, h.1.2.1, show gi S1 41 3 = nI (zWr g.2.1.1) from hs1.2.1, h1.1.2.2.1]
      refine ⟨fun c => ?_, fun c => ?_⟩
      · rw [if_neg c] at hx
        rcases idx_cases (rFo g.1) (by omega) x with ⟨e, c1 | ⟨c1, c2⟩⟩ | ⟨f, hf2, rfl, e⟩
        · rw [e] at hx
          exact ⟨fun _ => hx, fun q => absurd (Int32.lt_of_lt_of_le c1 (nI_pos' (by omega))) q⟩
        · rw [e] at hx
          exact ⟨fun _ => hx, fun _ => gK_ok hT.re.1 ⟨fun q => absurd q (Int32.not_lt.mpr c2), fun _ => hx⟩⟩
        · rw [e] at hx
          dsimp only at hx
          rw [nI_ltI (by omega) (by omega), nI_ltI (by omega) (by omega)]
          refine ⟨fun c3 => ?_, fun c3 => gK_ok hT.re.1 ⟨fun _ => wX_wordOfRow (d := 97) okr hlen hR hy hf2 ?_, fun q => absurd hf2 q⟩⟩
          · rw [if_pos c3] at hx; exact hx
          · rw [if_neg c3] at hx; exact hx
      · rw [if_pos c] at hx
        exact wX_rowMil (d := 97) hlen hR hy hoy hx
  · obtain ⟨okr, okn, ⟨okz, okl, okd⟩, okt⟩ := id ok
    have hfo := okr.2.2.1.2
    have hwr := okz.2.1
    have h' := MM_0 ok h
    have hx0 := hx _ frM_0 (fun _ _ => rfl)
    have hx2 : ∀ S', frM rwC rwF (si S 1000 0 0) S' → Q (.int (bestV g.1 g.2.1.1 x)) S' := fun S' hf => hx S' (frM_0.tr (frM_rw hf).1) (fun k hk => (frM_rw hf).2 k hk)
    refine mM_best (d := 99) ?_
    generalize si S 1000 0 0 = S1 at *
    obtain ⟨h1, ⟨h2, h3, h4⟩, -⟩ := h'
    have k21 : (x = -1 ∨ ∃ f, x = nI f ∧ zWr g.2.1.1 ≤ f ∧ f < rFo g.1) → aBM 99 78 Q 21 [some (.ref 1000), some (.int x)] [] S1 := by
      intro hxx
      refine bM_best_21 (wM_laysRows (d := 85) okr okz h1 h2 (fun S2 hf he => ?_))
      have hx2 := hx2 S2 hf
      unfold bestV at hx2
      simp only [aV]
      rw [lg_cmp_eq]
      obtain ⟨hb, -, -⟩ := he
      cases e : bsS (rowsZ g.1 g.2.1.1) with
      | none =>
        rw [e] at hb hx2
        rw [hb.1]
        exact ⟨fun q => absurd rfl q, fun _ => hx2⟩
      | some y =>
        rw [e] at hb hx2
        dsimp only at hx2
        obtain ⟨⟨o1, o2, o3, o4, o5⟩, b1, b2, b3⟩ := hb
        rw [b1, b2]
        have n0 : ∀ n, 0 < n → n < 2 ^ 63 → ¬ lN n = 0 := fun n a b q => by
          rw [show (0 : Int64) = lN 0 from rfl, pk_lEQ b (by decide)] at q
          omega
        refine ⟨fun _ => ⟨fun c => ?_, fun c => ?_⟩, fun q => absurd q (n0 _ o2 (by omega))⟩
        · rcases hxx with q | ⟨f, rfl, f1, f2⟩
          · exact absurd q c
          · rw [if_neg c, idx_some (by omega) f2] at hx2
            dsimp only at hx2
            rw [if_neg (by omega)] at hx2
            rw [nI_clamp (by omega), b3 f f1 f2]
            exact ⟨nI_in (by omega) (by decide), hx2⟩
        · rw [if_pos c] at hx2
          rw [show (1000000 : Int64) = lN 1000000 from rfl, lN_mul, pk_lDiv (by omega) (by omega) (by omega), lN_i]
          exact ⟨n0 _ (by omega) (by omega), hx2⟩
    rw [c1, c2, show ga S1 1032 1 = nI (zWr g.2.1.1) from h2.2.1, h1.1.2.2.1]
    refine ⟨fun c => k21 (Or.inl c), fun c => ⟨vin (by decide), vin (by decide), wM_within (d := 98) ?_⟩⟩
    have em : nI (rFo g.1) - 1 = nI (rFo g.1 - 1) := by
      have := nI_pred (rFo g.1 - 1)
      rw [show rFo g.1 - 1 + 1 = rFo g.1 by have := okr.2.2.1.1; omega] at this
      exact this
    have bad : ∀ v, (idx (rFo g.1) x = none ∨ ∃ f, idx (rFo g.1) x = some f ∧ f < zWr g.2.1.1) → Q (.int v) S1 = Q (.int v) S1 ∧ bestV g.1 g.2.1.1 x = -2 := by
      intro v hv
      refine ⟨rfl, ?_⟩
      unfold bestV
      cases bsS (rowsZ g.1 g.2.1.1) with
      | none => rfl
      | some y =>
        dsimp only
        rw [if_neg c]
        rcases hv with q | ⟨f, q1, q2⟩
        · rw [q]
        · rw [q1]
          dsimp only
          rw [if_pos q2]
    rw [em]
    rcases idx_cases (rFo g.1) (by omega) x with ⟨e, c4⟩ | ⟨f, hf2, rfl, e⟩
    · rw [(bad 0 (Or.inl e)).2] at hx0
      rw [if_neg (fun q => c4.elim (fun a => absurd (Int32.lt_of_lt_of_le a (nI_pos' (by omega))) (Int32.not_lt.mpr q.1)) (fun a => absurd (Int32.le_trans a.2 q.2) (nI_ge (by omega) (by omega))))]
      exact ⟨fun q => absurd rfl q, fun _ => hx0⟩
    · by_cases q : f < zWr g.2.1.1
      · rw [(bad 0 (Or.inr ⟨f, e, q⟩)).2] at hx0
        rw [if_neg (fun a => absurd a.1 (nI_ge q (by omega)))]
        exact ⟨fun q => absurd rfl q, fun _ => hx0⟩
      · rw [if_pos ⟨nI_le (by omega) (by omega), nI_le (by omega) (by omega)⟩]
        exact ⟨fun _ => k21 (Or.inr ⟨f, rfl, by omega, hf2⟩), fun q => absurd q (by decide)⟩
/-- the class goes over the rows: what each does -/
theorem wX_rowDoes {d : Nat} {Q : Value → aS → Prop} {S : aS} {r : zR} {z : zS} {t k : Nat} {L : List zW} {x : zW} (hr : okR r) (hT : isT t) (h : RX r S t) (hL : L.length ≤ 81) (hR : rwX r L S) (hk : L[k]? = some x) (ho : okRw r x) (hx : ∀ S', frY scE S S' → Q (.int (nI (dsR r z x))) S') : aWX (d + 3) 74 [.ref t, .ref 121, .int (nI k * 4), .int (nI (zSp z))] S Q := by
  have hlt : k < L.length := (List.getElem?_eq_some_iff.mp hk).1
  have hfo := hr.2.2.1.2
  have e4 : nI k * 4 = nI (4 * k) := by rw [show (4 : Int32) = nI 4 from rfl, nI_mulN, Nat.mul_comm]
  rw [e4]
  exact wX_goodOf (wd := x.1) hr hT h rfl (by unfold scE; omega) (by show 4 * k + rFo r ≤ 324; omega) (by decide) (fun i hi => ⟨(hR.2 k x hk).1 i hi, (ho.1 i (Nat.zero_le _) hi).1⟩) hx
theorem rwX.kept {r : zR} {L : List zW} {S S' : aS} {C : Nat → Prop} (h : rwX r L S) (hf : frY C S S') (hc : ∀ i, gx2 i → ¬ C i) : rwX r L S' := by
  refine ⟨(hf.1 117 6 (hc 117 (Or.inl rfl))).1.trans h.1, fun k x hk => ?_⟩
  obtain ⟨b1, b2, b3⟩ := h.2 k x hk
  exact ⟨fun i hi => (hf.1 121 _ (hc 121 (Or.inr (by omega)))).2.1.trans (b1 i hi), (hf.1 122 k (hc 122 (Or.inr (by omega)))).2.2.2.trans b2, (hf.1 123 k (hc 123 (Or.inr (by omega)))).2.2.2.trans b3⟩
theorem gx2_sc : ∀ i, gx2 i → ¬ scE i := fun i h q => by
  unfold gx2 at h
  unfold scE at q
  omega
theorem tie_worst : ok_worst Rel := by
  refine tie_q (fun g t ok hT => ⟨wsI (wrS g.1 g.2.1.1 (rowsZ g.1 g.2.1.1)), fun S Q h hx => ?_, fun S Q h hx => ?_⟩)
  · obtain ⟨okr, okn, ⟨okz, okl, okd⟩, okt⟩ := id ok
    have hlen := rowsZ_len okr okz
    have hro := rowsZ_ok okr okz
    refine mX_FoldedRealm_worst (d := 99) ?_
    rw [h.1.2.1]
    refine wX_gatherRows (d := 89) okr okz hT stG_41 h.2.1 h.2.2.1.1 (fun S1 hf hR => ?_)
    generalize hL : rowsZ g.1 g.2.1.1 = L at *
    have loop : ∀ m k S2, k + m = L.length → frY gxC S S2 → rwX g.1 L S2 → aBX 99 131 Q 14 [some (.ref 0), some (.ref 41), some (.int (wsI (wrS g.1 g.2.1.1 (L.take k)))), some (.int (nI k)), none] [] S2 := by
      intro m
      induction m with
      | zero =>
        intro k S2 hk hf2 hR2
        refine bX_FoldedRealm_worst_14 ?_
        rw [hR2.1]
        refine ⟨fun _ => ?_, fun q => absurd (nI_le (by omega) (by omega)) q⟩
        rw [List.take_of_length_le (by omega)]
        exact hx S2 (hf2.le gxC_sc)
      | succ m ih =>
        intro k S2 hk hf2 hR2
        obtain ⟨y, hy⟩ : ∃ y, L[k]? = some y := ⟨L[k]'(by omega), List.getElem?_eq_getElem (by omega)⟩
        have ht : L.take (k + 1) = L.take k ++ [y] := by rw [List.take_add_one, hy]; rfl
        have hoy := hro y (List.mem_of_getElem? hy)
        have hs2 := h.2.2.1.1.keptY hf2 (gxC_st stG_41)
        refine bX_FoldedRealm_worst_14 ?_
        rw [hR2.1, hf2.gr, h.1.2.1, show gi S2 41 5 = nI (zSp g.2.1.1) from hs2.2.2.2.1]
        refine ⟨fun q => absurd q (nI_ge (by omega) (by omega)), fun _ => gK_ok rfl (wX_rowDoes (d := 96) okr hT (h.2.1.kept hT hf2 (gxC_rc hT)) hlen hR2 hy hoy (fun S3 hf3 => ?_))⟩
        have hf3' : frY gxC S S3 := hf2.tr (hf3.le (fun _ q => Or.inl (Or.inl q)))
        have hR3 := hR2.kept hf3 gx2_sc
        have ih := ih (k + 1) S3 (by omega) hf3' hR3
        rw [ht, wrS_snoc] at ih
        simp only [aI]
        rw [nI_1]
        cases hw : wrS g.1 g.2.1.1 (L.take k) with
        | none =>
          rw [hw] at ih
          exact ⟨fun _ => ih, fun q => absurd rfl q⟩
        | some m0 =>
          have hm := wrS_le _ _ _ m0 hw
          have hd := dsV_le g.1 (zSp g.2.1.1) (nSum (fun i => rGo g.1 (y.1 i)) (rFo g.1)) (nMax (fun i => rGo g.1 (y.1 i)) (rFo g.1))
          have hdd : dsR g.1 g.2.1.1 y ≤ 99 := hd
          rw [hw] at ih
          unfold wrStep at ih
          dsimp only at ih
          show (nI m0 = -1 → _) ∧ (¬ nI m0 = -1 → ((nI m0 ≤ nI (dsR g.1 g.2.1.1 y) → _) ∧ (¬ nI m0 ≤ nI (dsR g.1 g.2.1.1 y) → _)))
          rw [nI_leI (by omega) (by omega)]
          refine ⟨fun q => absurd q.symm (m1_ne (by omega)), fun _ => ⟨fun c => ?_, fun c => ?_⟩⟩
          · rw [if_pos c] at ih; exact ih
          · rw [if_neg c] at ih; exact ih
    exact loop L.length 0 S1 (by omega) hf hR
  · obtain ⟨okr, okn, ⟨okz, okl, okd⟩, okt⟩ := id ok
    have h' := MM_0 ok h
    have hx2 : ∀ S', frM rwC rwF (si S 1000 0 0) S' → Q (.int (wsI (wrS g.1 g.2.1.1 (rowsZ g.1 g.2.1.1)))) S' := fun S' hf => hx S' (frM_0.tr (frM_rw hf).1) (fun k hk => (frM_rw hf).2 k hk)
    refine mM_worst (d := 99) (wM_laysRows (d := 85) okr okz h'.1 h'.2.1.1 (fun S2 hf he => ?_))
    simp only [aV]
    rw [he.2.1]
    exact hx2 S2 hf
theorem tie_mean : ok_mean Rel := by
  refine tie_q (fun g t ok hT => ⟨((lN (mnS g.1 g.2.1.1 (rowsZ g.1 g.2.1.1))) / 1000).toInt32, fun S Q h hx => ?_, fun S Q h hx => ?_⟩)
  · obtain ⟨okr, okn, ⟨okz, okl, okd⟩, okt⟩ := id ok
    have hlen := rowsZ_len okr okz
    have hro := rowsZ_ok okr okz
    refine mX_FoldedRealm_mean (d := 99) ?_
    rw [h.1.2.1]
    refine wX_gatherRows (d := 89) okr okz hT stG_41 h.2.1 h.2.2.1.1 (fun S1 hf hR => ?_)
    generalize hL : rowsZ g.1 g.2.1.1 = L at *
    have loop : ∀ m k S2, k + m = L.length → frY gxC S S2 → rwX g.1 L S2 → aBX 99 132 Q 14 [some (.ref 0), some (.ref 41), some (.long (lN (mnS g.1 g.2.1.1 (L.take k)))), none, some (.int (nI k)), none, none] [] S2 := by
      intro m
      induction m with
      | zero =>
        intro k S2 hk hf2 hR2
        refine bX_FoldedRealm_mean_14 ?_
        rw [hR2.1]
        refine ⟨fun _ => ⟨by decide, ?_⟩, fun q => absurd (nI_le (by omega) (by omega)) q⟩
        rw [List.take_of_length_le (by omega)]
        exact hx S2 (hf2.le gxC_sc)
      | succ m ih =>
        intro k S2 hk hf2 hR2
        obtain ⟨y, hy⟩ : ∃ y, L[k]? = some y := ⟨L[k]'(by omega), List.getElem?_eq_getElem (by omega)⟩
        have ht : L.take (k + 1) = L.take k ++ [y] := by rw [List.take_add_one, hy]; rfl
        have hoy := hro y (List.mem_of_getElem? hy)
        have hs2 := h.2.2.1.1.keptY hf2 (gxC_st stG_41)
        refine bX_FoldedRealm_mean_14 ?_
        rw [hR2.1, hf2.gr, h.1.2.1, show gi S2 41 5 = nI (zSp g.2.1.1) from hs2.2.2.2.1]
        refine ⟨fun q => absurd q (nI_ge (by omega) (by omega)), fun _ => gK_ok rfl (wX_rowDoes (d := 96) okr hT (h.2.1.kept hT hf2 (gxC_rc hT)) hlen hR2 hy hoy (fun S3 hf3 => ?_))⟩
        have hf3' : frY gxC S S3 := hf2.tr (hf3.le (fun _ q => Or.inl (Or.inl q)))
        have hR3 := hR2.kept hf3 gx2_sc
        refine wX_rowMil (d := 97) hlen hR3 hy hoy ?_
        have ih := ih (k + 1) S3 (by omega) hf3' hR3
        rw [ht, mnS_snoc] at ih
        have hd := dsV_le g.1 (zSp g.2.1.1) (nSum (fun i => rGo g.1 (y.1 i)) (rFo g.1)) (nMax (fun i => rGo g.1 (y.1 i)) (rFo g.1))
        have hdd : dsR g.1 g.2.1.1 y ≤ 99 := hd
        have hmil : y.2.1 * 1000000 / y.2.2 ≤ 1000000 := by
          obtain ⟨o1, o2, o3, o4, o5⟩ := hoy
          refine Nat.div_le_of_le_mul ?_
          exact Nat.mul_le_mul_right _ o3
        simp only [aI]
        rw [nI_1, nI_l (by omega), nI_l (by omega), lN_mul, lN_add]
        exact ih
    exact loop L.length 0 S1 (by omega) hf hR
  · obtain ⟨okr, okn, ⟨okz, okl, okd⟩, okt⟩ := id ok
    have h' := MM_0 ok h
    have hx2 : ∀ S', frM rwC rwF (si S 1000 0 0) S' → Q (.int ((lN (mnS g.1 g.2.1.1 (rowsZ g.1 g.2.1.1))) / 1000).toInt32) S' := fun S' hf => hx S' (frM_0.tr (frM_rw hf).1) (fun k hk => (frM_rw hf).2 k hk)
    refine mM_mean (d := 99) (wM_laysRows (d := 85) okr okz h'.1 h'.2.1.1 (fun S2 hf he => ⟨by decide, ?_⟩))
    rw [he.2.2]
    exact hx2 S2 hf
