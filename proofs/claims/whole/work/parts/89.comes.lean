/-! the tie of comes -/
section
variable {d : Nat} {Q : Value → aS → Prop} {S : aS} {r : zR} {z : zS} {t f s : Nat} {wd : Nat → Nat}
/-- a row, a word of each fold from f0 on -/
def rowW (r : zR) (wd : Nat → Nat) (f0 : Nat) : Prop := ∀ f, f0 ≤ f → f < rFo r → wd f < rWd r ∧ rFd r (wd f) = f
theorem rowB_w {P : Nat → Bool} {f0 : Nat} (h : rowB r P f0) : ∃ wd : Nat → Nat, rowW r wd f0 ∧ ∀ f, f0 ≤ f → f < rFo r → P (wd f) = true ∧ ∀ v, v < rWd r → rFd r v = f → P v = true → v = wd f := by
  have key : ∀ f, ∃ w, f0 ≤ f → f < rFo r → (w < rWd r ∧ rFd r w = f ∧ P w = true) ∧ ∀ v, v < rWd r → rFd r v = f → P v = true → v = w := by
    intro f
    by_cases c : f0 ≤ f ∧ f < rFo r
    · obtain ⟨w, a, b⟩ := cnt_ex (h.1 f c.1 c.2)
      exact ⟨w, fun _ _ => ⟨a, b⟩⟩
    · exact ⟨0, fun a b => absurd ⟨a, b⟩ c⟩
  refine ⟨fun f => Classical.choose (key f), fun f h1 h2 => ?_, fun f h1 h2 => ?_⟩
  · have := Classical.choose_spec (key f) h1 h2
    exact ⟨this.1.1, this.1.2.1⟩
  · have := Classical.choose_spec (key f) h1 h2
    exact ⟨this.1.2.2, this.2⟩
theorem wX_millionths {A B : Nat} (hA : A ≤ 10 ^ 8) (hB : B < 2 ^ 63) (hx : Q (.int (nI (A * 1000000 / B))) S) : aWX (d + 1) 29 [.long (lN A), .long (lN B)] S Q := by
  refine mX_Odds_inMillionths ?_
  rw [lg_cmp_le, lNz hB]
  refine ⟨fun c => ?_, fun c => ⟨fun q => ?_, ?_⟩⟩
  · rw [c, Nat.div_zero] at hx
    exact hx
  · rw [show (0 : Int64) = lN 0 from rfl, pk_lEQ hB (by decide)] at q
    exact c q
  · rw [show (1000000 : Int64) = lN 1000000 from rfl, lN_mul, pk_lDiv (by omega) (by omega) hB, lN_i]
    exact hx
theorem wX_chance {n : Nat} (hr : okR r) (hT : isT t) (h : RX r S t) (hn : n < 2 ^ 31) (hrow : rowW r wd f) (hfl : f < rFo r) (hu : ∀ g, f ≤ g → g < rFo r → n.testBit (wd g) = true ∧ ∀ v, v < rWd r → rFd r v = g → n.testBit v = true → v = wd g) {a : Nat} (hO : oAll r z s f a S) (hx : Q (.int (nI (chV r z s wd (rFo r - f) f a 1 1))) S) : aWX (d + 2) 28 [.ref 117, .ref t, .int (nI n), .int (nI f)] S Q := by
  have hfo := hr.2.2.1.2
  have hwd := hr.2.1
  have ht := hT.re
  refine mX_Odds_chanceOf ?_
  have loop : ∀ m k i a A B, k + m = rFo r → f ≤ k → i < 13 → A ≤ 99 ^ (4 - m) → B ≤ 1188 ^ (4 - m) → (0 < m → oRow r z (wWho r s k) k a S i) → Q (.int (nI (if A = 0 then 0 else chV r z s wd m k a A B))) S → aBX (d + 1) 28 Q 8 [some (.ref 117), some (.ref t), some (.int (nI n)), none, some (.long (lN A)), none, some (.long (lN B)), none, some (.int (ahI i)), some (.int (nI k)), none] [] S := by
    intro m
    induction m with
    | zero =>
      intro k i a A B hk hfk hi hA hB _ hq
      refine bX_Odds_chanceOf_8 (gK_ok ht.1 ?_)
      rw [h.1.2.2.1]
      refine ⟨fun _ => wX_millionths (by simp only [Nat.sub_zero] at hA; omega) (by simp only [Nat.sub_zero] at hB; omega) ?_, fun q => absurd (nI_le (by omega) (by omega)) q⟩
      by_cases c : A = 0
      · rw [if_pos c] at hq
        rw [c, Nat.zero_mul, Nat.zero_div]
        exact hq
      · rw [if_neg c] at hq
        exact hq
    | succ m ih =>
      intro k i a A B hk hfk hi hA hB hro hq
      have hro := hro (by omega)
      obtain ⟨w1, w2⟩ := hrow k hfk (by omega)
      obtain ⟨u1, u2⟩ := hu k hfk (by omega)
      have hlk := lkV_le hr (okW_who (r := r) s k) w1 (zLe z (wd k)) a
      have hal := alV_le hr z (okW_who (r := r) s k) k a
      refine bX_Odds_chanceOf_8 (gK_ok ht.1 ?_)
      rw [h.1.2.2.1]
      refine ⟨fun q => absurd q (nI_ge (by omega) (by omega)), fun _ => wX_wordOfFold hr hT h (by omega) hn w1 w2 u1 u2 (wX_likelyBehind hi (by omega) ?_)⟩
      rw [hro.1 _ w1 w2]
      refine wX_totalBehind hi ?_
      rw [hro.2]
      simp only [aI]
      rw [nI_l (by omega), nI_l (by omega), lN_mul, lN_mul, nI_1]
      have e4 : 4 - m = (4 - (m + 1)) + 1 := by omega
      refine ih (k + 1) (wd k + 1) (rGo r (wd k)) _ _ (by omega) (by omega) (by omega) ?_ ?_ (fun hm => ?_) ?_
      · rw [e4, Nat.pow_succ]
        exact Nat.mul_le_mul hA hlk
      · rw [e4, Nat.pow_succ]
        exact Nat.mul_le_mul hB hal
      · have := hO.2 (wd k) w1 (by omega) (by omega)
        rw [w2] at this
        exact this
      · unfold chV at hq
        by_cases c : A = 0
        · rw [if_pos c] at hq
          rw [c, Nat.zero_mul, if_pos rfl]
          exact hq
        · rw [if_neg c] at hq
          by_cases c2 : lkV r (wWho r s k) (zLe z (wd k)) (wd k) a = 0
          · rw [if_pos c2] at hq
            rw [c2, Nat.mul_zero, if_pos rfl]
            exact hq
          · rw [if_neg c2] at hq
            rw [if_neg (fun q => (Nat.mul_eq_zero.mp q).elim c c2)]
            exact hq
  exact loop (rFo r - f) f 0 a 1 1 (by omega) (Nat.le_refl _) (by decide) (Nat.one_le_pow _ _ (by decide)) (Nat.one_le_pow _ _ (by decide)) (fun _ => hO.1) (by rw [if_neg (by decide)]; exact hx)
theorem bM_comes65 {n : Nat} (hr : okR r) (hz : okZ r z) (hn : n < 2 ^ 31) : ∀ m k a A B S, k + m = rFo r → (∀ g, k ≤ g → g < rFo r → (wd g < rWd r ∧ rFd r (wd g) = g) ∧ cntB r n.testBit g = 1 ∧ ∀ v, v < rWd r → rFd r v = g → n.testBit v = true → v = wd g) → A ≤ 99 ^ (4 - m) → 0 < B → B ≤ 1188 ^ (4 - m) → RM r S → stM r z (ga S 1032) 0 → gl S 1000 52 = lN A → gl S 1000 53 = lN B → (∀ S', frM eC abF S S' → Q (.int (nI (chV r z (zSe z) wd m k a A B))) S') → aBM (d + 6) 74 Q 65 [some (.ref 1000), some (.int (nI n)), some (.int (nI a)), some (.int (nI k)), none] [] S := by
  have hfo := hr.2.2.1.2
  have hwd := hr.2.1
  intro m
  induction m with
  | zero =>
    intro k a A B S hk hu hA hB0 hB h hs hgA hgB hx
    simp only [Nat.sub_zero] at hA hB
    refine bM_comes_65 ?_
    rw [c2, h.1.2.2.1, hgA, hgB]
    refine ⟨vin (by decide), fun _ => ⟨fun q => ?_, ?_⟩, fun q => absurd (nI_le (by omega) (by omega)) q⟩
    · rw [show (0 : Int64) = lN 0 from rfl, pk_lEQ (by omega) (by decide)] at q
      omega
    · rw [show (1000000 : Int64) = lN 1000000 from rfl, lN_mul, pk_lDiv (by omega) (by omega) (by omega), lN_i]
      exact hx S frM.rf
  | succ m ih =>
    intro k a A B S hk hu hA hB0 hB h hs hgA hgB hx
    obtain ⟨⟨w1, w2⟩, u1, u2⟩ := hu k (Nat.le_refl _) (by omega)
    have hlk := lkV_le hr (okW_who (r := r) (zSe z) k) w1 (zLe z (wd k)) a
    have hal := alV_le hr z (okW_who (r := r) (zSe z) k) k a
    have hA8 : A ≤ 10 ^ 8 := Nat.le_trans hA (Nat.le_trans (Nat.pow_le_pow_right (by decide) (show 4 - (m + 1) ≤ 4 by omega)) (by decide))
    refine bM_comes_65 ?_
    rw [c2, h.1.2.2.1]
    refine ⟨vin (by decide), fun q => absurd q (nI_ge (by omega) (by omega)), fun _ => wM_wordIn hr h hn (by omega) (fun w hw hfw hb _ => ?_) (fun q => absurd u1 q)⟩
    obtain rfl := u2 w hw hfw hb
    refine wM_goesOn hr hz h hs hw (by omega) hA8 hgA hgB (fun S1 hf e52 e53 => ?_)
    unfold chV at hx
    by_cases c : lkV r (wWho r (zSe z) k) (zLe z (wd k)) (wd k) a = 0
    · rw [if_pos c] at hx
      rw [c, Nat.mul_zero, if_pos rfl]
      exact ⟨fun q => absurd rfl q, fun _ => hx S1 hf⟩
    · rw [if_neg c] at hx
      have hAn : ¬ A * lkV r (wWho r (zSe z) k) (zLe z (wd k)) (wd k) a = 0 ∨ A = 0 := by
        by_cases q : A = 0
        · exact Or.inr q
        · exact Or.inl (fun e => (Nat.mul_eq_zero.mp e).elim q c)
      have hp := lk_le_al (r := r) z (o := wWho r (zSe z) k) (a := a) hw hfw
      rw [Nat.max_eq_right (by omega)] at e53
      have h1 := h.kept hf (fun i hi => by unfold eC at hi; omega)
      have hs1 : stM r z (ga S1 1032) 0 := by
        rw [show ga S1 1032 = ga S 1032 from funext fun j => hf.1 1032 j (by unfold eC; omega)]
        exact hs
      have e4 : 4 - m = (4 - (m + 1)) + 1 := by omega
      by_cases q : A * lkV r (wWho r (zSe z) k) (zLe z (wd k)) (wd k) a = 0
      · rw [if_pos q]
        refine ⟨fun e => absurd rfl e, fun _ => ?_⟩
        have := hx S1 hf
        have chz : ∀ m k a B, chV r z (zSe z) wd m k a 0 B = 0 := by
          intro m
          induction m with
          | zero => intro k a B; unfold chV; rw [Nat.zero_mul, Nat.zero_div]
          | succ m ih => intro k a B; unfold chV; rw [Nat.zero_mul, ih]; split <;> rfl
        rw [q, chz] at this
        exact this
      · rw [if_neg q, nI_clamp (by omega), h1.1.2.2.2.2.2.2.2.1 _ hw]
        refine ⟨fun _ => ⟨nI_in (by omega) (by decide), ?_⟩, fun e => absurd e (by decide)⟩
        rw [nI_1]
        exact ih (k + 1) _ _ _ S1 (by omega) (fun g h2 h3 => hu g (by omega) h3) (by rw [e4, Nat.pow_succ]; exact Nat.mul_le_mul hA hlk) (Nat.mul_pos hB0 (by omega)) (by rw [e4, Nat.pow_succ]; exact Nat.mul_le_mul hB hal) h1 hs1 e52 e53 (fun S2 hf2 => hx S2 (hf.tr hf2))
end
theorem one_lt_pow99 : (1 : Nat) ≤ 99 ^ 0 := by decide
/-- the value of comes -/
theorem tie_comes : ok_comes Rel := by
  intro x
  refine tie_q (fun g t ok hT => ?_)
  obtain ⟨okr, okn, ⟨okz, okl, okd⟩, okt⟩ := id ok
  have hwd := okr.2.1
  have hwr := okz.2.1
  have hfo := okr.2.2.1.2
  have hse : zSe g.2.1.1 < 6 := by have := okr.1; rcases okz.1 with q | q <;> omega
  by_cases hrow : rowB g.1 (bq x) (zWr g.2.1.1)
  · obtain ⟨wd, hw1, hw2⟩ := rowB_w hrow
    obtain ⟨n, hn, rfl, bn⟩ := bq_lt (x := x) (m := rWd g.1) (by omega) (fun i h1 h2 => by
      cases hb : bq x i with
      | false => rfl
      | true => exact absurd (hrow.2 i h2 hb).1 (by omega))
    have bn' : n.testBit = bq (nI n) := funext bn
    have hn31 : n < 2 ^ 12 := Nat.lt_of_lt_of_le hn (Nat.pow_le_pow_right (by decide) hwd)
    refine ⟨nI (chV g.1 g.2.1.1 (zSe g.2.1.1) wd (rFo g.1 - zWr g.2.1.1) (zWr g.2.1.1) (ahV g.1 g.2.1.1) 1 1), fun S Q h hx => ?_, fun S Q h hx => ?_⟩
    · refine mX_FoldedRealm_comes (d := 99) ?_
      rw [h.1.2.1, show gi S 41 3 = nI (zWr g.2.1.1) from h.2.2.1.1.2.1]
      refine wX_isRow (d := 97) okr hT h.2.1 hwr (fun _ => ⟨fun _ => ?_, fun q => absurd q (by decide)⟩) (fun q => absurd hrow q)
      rw [h.1.2.1, show gi S 41 4 = nI (zSe g.2.1.1) from h.2.2.1.1.1, show gi S 41 3 = nI (zWr g.2.1.1) from h.2.2.1.1.2.1]
      refine wX_weighAll (d := 94) okr okz hT stG_41 h.2.1 h.2.2.1.1 (by omega) hwr (Or.inr ⟨rfl, rfl⟩) (fun S1 hf hO => ?_)
      have h1 := h.2.1.kept hT hf (oC_rc hT)
      have hs1 := h.2.2.1.1.keptY hf (oC_st stG_41)
      show aWX 99 28 [.ref 117, .ref (gr S1 0 2), .int (nI n), .int (gi S1 41 3)] S1 _
      rw [hf.gr, h.1.2.1, show gi S1 41 3 = nI (zWr g.2.1.1) from hs1.2.1]
      exact wX_chance (d := 97) okr hT h1 (by omega) hw1 hwr (fun f h2 h3 => by rw [bn']; exact hw2 f h2 h3) hO (hx S1 (hf.le oC_sc))
    · have h' := MM_0 ok h
      have hx2 : ∀ S', frM eC abF (si S 1000 0 0) S' → Q (.int (nI (chV g.1 g.2.1.1 (zSe g.2.1.1) wd (rFo g.1 - zWr g.2.1.1) (zWr g.2.1.1) (ahV g.1 g.2.1.1) 1 1))) S' := fun S' hf => hx S' (frM_0.tr (hf.le (fun i hi => by unfold eC at hi; unfold scM; omega) (fun k q => by unfold abF at q; unfold scF; omega))) (fun k _ => hf.1 1032 k (by unfold eC; omega))
      refine mM_comes (d := 99) ?_
      generalize si S 1000 0 0 = S1 at *
      obtain ⟨h1, ⟨h2, h3, h4⟩, -⟩ := h'
      rw [c1, h1.1.2.1, (smod12 (rWd g.1) (by omega)).2]
      refine ⟨fun q => absurd q (nI_pos (by omega)), fun _ => ⟨vin (by decide), fun q => absurd q (nI_ge hn (by have := Nat.pow_le_pow_right (show 0 < 2 by decide) hwd; omega)), fun _ => wM_bits (d := 98) ⟨vin (by decide), vin (by decide), ?_⟩⟩⟩
      have hcr : rowB g.1 n.testBit (zWr g.2.1.1) := by rw [bn']; exact hrow
      have hpc := (rowB_pc okr hn hwr hcr.1).mp hcr
      rw [bitN_pc (by omega) 12 (Nat.le_refl _), show nSum (fun w => if n.testBit w = true then 1 else 0) 12 = pcN n from rfl, hpc, c2, h1.1.2.2.1, show ga S1 1032 1 = nI (zWr g.2.1.1) from h2.2.1, nI_subN (by omega)]
      refine ⟨fun _ => ⟨vin (by decide), ?_⟩, fun q => absurd rfl q⟩
      have hf2 : frM eC abF S1 (sl (sl S1 1000 52 1) 1000 53 1) := (frM_sl (Or.inl rfl)).tr (frM_sl (Or.inr rfl))
      have h12 := h1.kept hf2 (fun i hi => by unfold eC at hi; omega)
      show aWM 99 46 [.ref 1000, .int (ga S1 1032 1)] (sl (sl S1 1000 52 1) 1000 53 1) _
      rw [show ga S1 1032 1 = nI (zWr g.2.1.1) from h2.2.1]
      refine wM_aheadOf (d := 98) okr okz h12 h2 ⟨vin (by decide), ?_⟩
      rw [show ga (sl (sl S1 1000 52 1) 1000 53 1) 1032 1 = nI (zWr g.2.1.1) from h2.2.1]
      have k45 : ∀ m k, k + m = rFo g.1 → zWr g.2.1.1 ≤ k → aBM 99 74 Q 45 [some (.ref 1000), some (.int (nI n)), some (.int (nI (ahV g.1 g.2.1.1))), some (.int (nI k)), none] [] (sl (sl S1 1000 52 1) 1000 53 1) := by
        intro m
        induction m with
        | zero =>
          intro k hk hk0
          refine bM_comes_45 ?_
          rw [c2, h12.1.2.2.1, c1, show ga (sl (sl S1 1000 52 1) 1000 53 1) 1032 1 = nI (zWr g.2.1.1) from h2.2.1]
          refine ⟨vin (by decide), fun _ => ⟨vin (by decide), ?_⟩, fun q => absurd (nI_le (by omega) (by omega)) q⟩
          exact bM_comes65 (d := 93) okr okz (by omega) (rFo g.1 - zWr g.2.1.1) _ _ 1 1 _ (by omega) (fun f h2 h3 => ⟨hw1 f h2 h3, hcr.1 f h2 h3, by rw [bn']; exact (hw2 f h2 h3).2⟩) (Nat.one_le_pow _ _ (by decide)) (by decide) (Nat.one_le_pow _ _ (by decide)) h12 h2 (by rw [gl_sl, if_neg (by decide), gl_sl, if_pos ⟨rfl, rfl⟩]; rfl) (by rw [gl_sl, if_pos ⟨rfl, rfl⟩]; rfl) (fun S2 hf3 => hx2 S2 (hf2.tr hf3))
        | succ m ih =>
          intro k hk hk0
          refine bM_comes_45 ?_
          rw [c2, h12.1.2.2.1]
          refine ⟨vin (by decide), fun q => absurd q (nI_ge (by omega) (by omega)), fun _ => wM_wordIn (d := 98) okr h12 (by omega) (by omega) (fun w hw _ _ _ => ⟨fun _ => ?_, fun q => absurd (nI_pos' (by omega)) q⟩) (fun q => absurd (hcr.1 k hk0 (by omega)) q)⟩
          rw [nI_1]
          exact ih (k + 1) (by omega) (by omega)
      exact k45 (rFo g.1 - zWr g.2.1.1) _ (by omega) (Nat.le_refl _)
  · refine ⟨-1, fun S Q h hx => ?_, fun S Q h hx => ?_⟩
    · refine mX_FoldedRealm_comes (d := 99) ?_
      rw [h.1.2.1, show gi S 41 3 = nI (zWr g.2.1.1) from h.2.2.1.1.2.1]
      exact wX_isRow (d := 97) okr hT h.2.1 hwr (fun q => absurd q hrow) (fun _ => ⟨fun q => absurd rfl q, fun _ => hx S frY.rf⟩)
    · have h' := MM_0 ok h
      have hx0 := hx _ frM_0 (fun _ _ => rfl)
      have hx2 : ∀ S', frM eC abF (si S 1000 0 0) S' → Q (.int (-1)) S' := fun S' hf => hx S' (frM_0.tr (hf.le (fun i hi => by unfold eC at hi; unfold scM; omega) (fun k q => by unfold abF at q; unfold scF; omega))) (fun k _ => hf.1 1032 k (by unfold eC; omega))
      refine mM_comes (d := 99) ?_
      generalize si S 1000 0 0 = S1 at *
      obtain ⟨h1, ⟨h2, h3, h4⟩, -⟩ := h'
      rw [c1, h1.1.2.1, (smod12 (rWd g.1) (by omega)).2]
      refine ⟨fun _ => hx0, fun c => ⟨vin (by decide), fun _ => hx0, fun q => ?_⟩⟩
      obtain ⟨n, hn, rfl⟩ := nI_of c
      have hp := Nat.pow_le_pow_right (show 0 < 2 by decide) hwd
      rw [nI_leI (by omega) hn] at q
      have hn2 : n < 2 ^ rWd g.1 := by omega
      have bn' : n.testBit = bq (nI n) := funext fun i => by
        rw [bq_nI]
        by_cases e : i < 32
        · rw [decide_eq_true e, Bool.true_and]
        · rw [decide_eq_false e, Bool.false_and]
          exact Nat.testBit_lt_two_pow (Nat.lt_of_lt_of_le hn (Nat.pow_le_pow_right (by decide) (by omega)))
      rw [← bn'] at hrow
      refine wM_bits (d := 98) ⟨vin (by decide), vin (by decide), ?_⟩
      have hpl := pcN_le n
      rw [bitN_pc (by omega) 12 (Nat.le_refl _), show nSum (fun w => if n.testBit w = true then 1 else 0) 12 = pcN n from rfl, c2, h1.1.2.2.1, show ga S1 1032 1 = nI (zWr g.2.1.1) from h2.2.1, nI_subN (by omega), nI_eq (by omega) (by omega)]
      refine ⟨fun hpc => ⟨vin (by decide), ?_⟩, fun _ => hx0⟩
      have hf2 : frM eC abF S1 (sl (sl S1 1000 52 1) 1000 53 1) := (frM_sl (Or.inl rfl)).tr (frM_sl (Or.inr rfl))
      have h12 := h1.kept hf2 (fun i hi => by unfold eC at hi; omega)
      show aWM 99 46 [.ref 1000, .int (ga S1 1032 1)] (sl (sl S1 1000 52 1) 1000 53 1) _
      rw [show ga S1 1032 1 = nI (zWr g.2.1.1) from h2.2.1]
      refine wM_aheadOf (d := 98) okr okz h12 h2 ⟨vin (by decide), ?_⟩
      rw [show ga (sl (sl S1 1000 52 1) 1000 53 1) 1032 1 = nI (zWr g.2.1.1) from h2.2.1]
      have k45 : ∀ m k, k + m = rFo g.1 → zWr g.2.1.1 ≤ k → (∀ f, zWr g.2.1.1 ≤ f → f < k → cntB g.1 n.testBit f = 1) → aBM 99 74 Q 45 [some (.ref 1000), some (.int (nI n)), some (.int (nI (ahV g.1 g.2.1.1))), some (.int (nI k)), none] [] (sl (sl S1 1000 52 1) 1000 53 1) := by
        intro m
        induction m with
        | zero =>
          intro k hk hk0 hc
          obtain rfl : k = rFo g.1 := by omega
          exact absurd ((rowB_pc okr hn2 hwr hc).mpr hpc) hrow
        | succ m ih =>
          intro k hk hk0 hc
          refine bM_comes_45 ?_
          rw [c2, h12.1.2.2.1]
          refine ⟨vin (by decide), fun q => absurd q (nI_ge (by omega) (by omega)), fun _ => wM_wordIn (d := 98) okr h12 hn (by omega) (fun w hw _ _ hc1 => ⟨fun _ => ?_, fun q => absurd (nI_pos' (by omega)) q⟩) (fun q => ⟨fun e => absurd e (by decide), fun _ => hx2 _ hf2⟩)⟩
          rw [nI_1]
          refine ih (k + 1) (by omega) (by omega) (fun f a1 a2 => ?_)
          rcases Nat.lt_or_ge f k with e | e
          · exact hc f a1 e
          · rw [show f = k by omega]; exact hc1
      exact k45 (rFo g.1 - zWr g.2.1.1) _ (by omega) (Nat.le_refl _) (fun f a1 a2 => absurd a1 (by omega))
