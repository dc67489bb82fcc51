/-! how likely words are behind one another: the class's rows -/
def wWho (r : zR) (s f : Nat) : Option Nat := if rWr r = 0 then none else some ((s + f) % rWr r)
theorem okW_who {r : zR} (s f : Nat) : okW r (wWho r s f) := by
  intro k hk
  unfold wWho at hk
  by_cases c : rWr r = 0
  · rw [if_pos c] at hk; cases hk
  · rw [if_neg c] at hk; cases hk; exact Nat.mod_lt _ (by omega)
theorem pWho_eq {r : zR} (hr : okR r) {s f : Nat} (h : s + f < 2 ^ 31) : pWho r (nI s) (nI f) = whoI (wWho r s f) := by
  have hw := hr.1
  unfold pWho wWho whoI
  by_cases c : rWr r = 0
  · rw [if_pos c, if_pos c]
  · rw [if_neg c, if_neg c, nI_add]
    exact pk_rem h (by omega) (by omega)
def ahV (r : zR) (z : zS) : Nat := if zWr z = 0 then 0 else rGo r (zSt z (zWr z - 1))
def alV (r : zR) (z : zS) (o : Option Nat) (f a : Nat) : Nat := nSum (fun w => if rFd r w = f then lkV r o (zLe z w) w a else 0) (rWd r)
def oRow (r : zR) (z : zS) (o : Option Nat) (f a : Nat) (S : aS) (i : Nat) : Prop := (∀ w, w < rWd r → rFd r w = f → ga S 118 (12 * i + w) = nI (lkV r o (zLe z w) w a)) ∧ ga S 119 i = nI (alV r z o f a)
theorem alV_le {r : zR} (hr : okR r) (z : zS) {o : Option Nat} (ho : okW r o) (f a : Nat) : alV r z o f a ≤ 1188 := by
  have h1 := nSum_le (f := fun w => if rFd r w = f then lkV r o (zLe z w) w a else 0) (m := 99) (rWd r) (fun w hw => by
    split
    · exact lkV_le hr ho hw _ _
    · omega)
  have h2 := hr.2.1
  unfold alV
  omega
theorem nSum_pad {f : Nat → Nat} {n : Nat} : ∀ m, n ≤ m → (∀ k, n ≤ k → k < m → f k = 0) → nSum f m = nSum f n := by
  intro m
  induction m with
  | zero => intro h _; rw [show n = 0 by omega]
  | succ m ih =>
    intro h hz
    rcases Nat.lt_or_ge m n with q | q
    · rw [show m + 1 = n by omega]
    · show nSum f m + f m = nSum f n
      rw [ih q (fun k h1 h2 => hz k h1 (by omega)), hz m q (by omega), Nat.add_zero]
theorem al12 {r : zR} (hr : okR r) (z : zS) (o : Option Nat) (f a : Nat) : nSum (fun w => if w < rWd r ∧ rFd r w = f then lkV r o (zLe z w) w a else 0) 12 = alV r z o f a := by
  rw [nSum_pad (n := rWd r) 12 hr.2.1 (fun k h1 _ => if_neg (fun q => by omega))]
  unfold alV
  refine nSum_ext _ (fun k hk => ?_)
  by_cases c : rFd r k = f
  · rw [if_pos ⟨hk, c⟩, if_pos c]
  · rw [if_neg (fun q => c q.2), if_neg c]
def ahI (i : Nat) : Int32 := match i with
  | 0 => -1
  | v + 1 => nI v
theorem ahI_1 : ∀ i, ahI i + 1 = nI i
  | 0 => by decide
  | v + 1 => nI_1 v
theorem m1_lt {n : Nat} (h : n < 2 ^ 31) : (-1 : Int32) < nI n := by
  have h1 := nI_pos' h
  exact Int32.lt_of_lt_of_le (by decide) h1
theorem m1_ne {n : Nat} (h : n < 2 ^ 31) : ¬ (-1 : Int32) = nI n := fun q => by
  have := m1_lt h
  rw [← q] at this
  exact absurd this (by decide)
theorem ahI_ok {i : Nat} (h : i < 13) : ¬ ahI i < -1 ∧ ¬ (12 : Int32) ≤ ahI i ∧ ahI i < 12 := by
  revert h i
  decide
theorem ahI_ok2 {i : Nat} (h : i < 13) : ¬ ahI i < -1 ∧ ¬ (12 : Int32) ≤ ahI i := ⟨(ahI_ok h).1, (ahI_ok h).2.1⟩
def oC (i : Nat) : Prop := scE i ∨ i = 118 ∨ i = 119
theorem oC_rc {t : Nat} (hT : isT t) : ∀ i, rcX t i → ¬ oC i := fun i hi q => by
  rcases q with q | q
  · exact rc_sc hT i hi q
  · unfold rcX at hi
    rcases hT with rfl | rfl <;> omega
theorem oC_st {p : Nat} (h : stG p) : ∀ i, stC p i → ¬ oC i := fun i hi q => by
  rcases q with q | q
  · exact h.sc i hi q
  · have := h.2.2.1 i hi
    omega
theorem oC_sc : ∀ i, oC i → scX i := fun i q => by
  rcases q with q | q
  · exact Or.inl q
  · exact Or.inr (by omega)
section
variable {d : Nat} {Q : Value → aS → Prop} {S : aS} {r : zR} {z : zS} {t p i f a : Nat} {o : Option Nat}
theorem wX_likelyBehind {w : Nat} (hi : i < 13) (hw : w < 12) (hx : Q (.int (ga S 118 (12 * i + w))) S) : aWX (d + 1) 21 [.ref 117, .int (ahI i), .int (nI w)] S Q := by
  obtain ⟨a1, a2⟩ := ahI_ok2 hi
  have e : (ahI i + 1) * 12 + nI w = nI (12 * i + w) := by rw [ahI_1, show (12 : Int32) = nI 12 from rfl, nI_mulN, nI_add, Nat.mul_comm]
  refine mX_Odds_likelyBehind ⟨fun q => absurd q a1, fun _ => ⟨fun q => absurd q a2, fun _ => ⟨fun q => absurd q (nI_pos (by omega)), fun _ => ⟨fun q => absurd q (nI_ge (a := w) (b := 12) hw (by decide)), fun _ => bX_Odds_likelyBehind_14 ⟨fun q => absurd q (by decide), fun _ => ?_⟩⟩⟩⟩⟩
  rw [e, nI_clamp (by omega)]
  exact ⟨nI_in (by omega) (by decide), hx⟩
theorem wX_totalBehind (hi : i < 13) (hx : Q (.int (ga S 119 i)) S) : aWX (d + 1) 22 [.ref 117, .int (ahI i)] S Q := by
  obtain ⟨a1, a2⟩ := ahI_ok2 hi
  refine mX_Odds_totalBehind ⟨fun q => absurd q a1, fun _ => ⟨fun q => absurd q a2, fun _ => ?_⟩⟩
  rw [ahI_1, nI_clamp (by omega)]
  exact ⟨nI_in (by omega) (by decide), hx⟩
theorem wX_weighBehind (hr : okR r) (hz : okZ r z) (hT : isT t) (hG : stG p) (h : RX r S t) (hs : stX r z S p) (ho : okW r o) (hi : i < 13) (hf : f < 100) (hx : ∀ S', frY oC S S' → oRow r z o f a S' i → (∀ j, j < 12 * i ∨ 12 * i + 12 ≤ j → ga S' 118 j = ga S 118 j) → (∀ j, j ≠ i → ga S' 119 j = ga S 119 j) → Q .null S') : aWX (d + 4) 23 [.ref 117, .ref t, .ref p, .int (whoI o), .int (nI f), .int (ahI i), .int (nI a)] S Q := by
  have hwd := hr.2.1
  obtain ⟨a1, a2, a3⟩ := ahI_ok hi
  refine mX_Odds_weighBehind ⟨fun q => absurd q a1, fun _ => ⟨fun _ => ?_, fun q => absurd a3 q⟩⟩
  have loop : ∀ m k S1, k + m = 12 → frY oC S S1 → (∀ w, w < k → w < rWd r → rFd r w = f → ga S1 118 (12 * i + w) = nI (lkV r o (zLe z w) w a)) → (∀ j, j < 12 * i ∨ 12 * i + 12 ≤ j → ga S1 118 j = ga S 118 j) → (∀ j, ga S1 119 j = ga S 119 j) → aBX (d + 3) 23 Q 11 [some (.ref 117), some (.ref t), some (.ref p), some (.int (whoI o)), some (.int (nI f)), some (.int (ahI i)), some (.int (nI a)), some (.int (nI (nSum (fun w => if w < rWd r ∧ rFd r w = f then lkV r o (zLe z w) w a else 0) k))), some (.int (nI k)), none] [] S1 := by
    intro m
    induction m with
    | zero =>
      intro k S1 hk hf1 hrow hoth hto
      obtain rfl : k = 12 := by omega
      refine bX_Odds_weighBehind_11 ⟨fun _ => ?_, fun q => absurd (show (12 : Int32) ≤ nI 12 by decide) q⟩
      rw [ahI_1, nI_clamp (by omega), al12 hr]
      refine ⟨nI_in (by omega) (by decide), hx _ (hf1.tr (frY_sa (Or.inr (Or.inr rfl)))) ⟨fun w hw hfd => ?_, ?_⟩ (fun j hj => ?_) (fun j hj => ?_)⟩
      · rw [ga_sa, if_neg (fun q => absurd q.1 (by decide))]
        exact hrow w (by omega) hw hfd
      · rw [ga_sa, if_pos ⟨rfl, rfl⟩]
      · rw [ga_sa, if_neg (fun q => absurd q.1 (by decide))]
        exact hoth j hj
      · rw [ga_sa, if_neg (fun q => hj q.2)]
        exact hto j
    | succ m ih =>
      intro k S1 hk hf1 hrow hoth hto
      have h1 := h.kept hT hf1 (oC_rc hT)
      have hs1 := hs.keptY hf1 (oC_st hG)
      refine bX_Odds_weighBehind_11 ⟨fun q => absurd q (nI_ge (a := k) (b := 12) (by omega) (by decide)), fun _ => wX_foldOf hr hT.re h1.1 ?_⟩
      have hn : nSum (fun w => if w < rWd r ∧ rFd r w = f then lkV r o (zLe z w) w a else 0) (k + 1) = nSum (fun w => if w < rWd r ∧ rFd r w = f then lkV r o (zLe z w) w a else 0) k + (if k < rWd r ∧ rFd r k = f then lkV r o (zLe z k) k a else 0) := rfl
      by_cases c : k < rWd r
      · have hf3 := (hr.2.2.2.2.2.1 k c).1
        have hl9 := hz.2.2.2.2.1 k c
        have e1 : pAt (rWd r) (rFd r) (-1) (nI k) = nI (rFd r k) := by unfold pAt; rw [idx_some (by omega) c]
        rw [e1]
        show (¬ nI (rFd r k) = nI f → _) ∧ (nI (rFd r k) = nI f → _)
        rw [nI_eq (by omega) (by omega), nI_1]
        refine ⟨fun c2 => ?_, fun c2 => wX_leftOf hr c hG.1 hs1 (wX_likely hr hT h1 c ho hl9 (fun S2 hf2 => ?_))⟩
        · have := ih (k + 1) S1 (by omega) hf1 (fun w hw hwd2 hfd => hrow w (by rcases Nat.lt_or_ge w k with q | q; exact q; exact absurd (by rw [show k = w by omega]; exact hfd) c2) hwd2 hfd) hoth hto
          rw [hn, if_neg (fun q => c2 q.2), Nat.add_zero] at this
          exact this
        · have e2 : (ahI i + 1) * 12 + nI k = nI (12 * i + k) := by rw [ahI_1, show (12 : Int32) = nI 12 from rfl, nI_mulN, nI_add, Nat.mul_comm]
          rw [e2, nI_clamp (by omega)]
          simp only [aI]
          rw [nI_add]
          refine ⟨nI_in (by omega) (by decide), ?_⟩
          have g118 : ∀ j, ga S2 118 j = ga S1 118 j := fun j => (hf2.1 118 j (by unfold scE; omega)).2.1
          have g119 : ∀ j, ga S2 119 j = ga S1 119 j := fun j => (hf2.1 119 j (by unfold scE; omega)).2.1
          have := ih (k + 1) (sa S2 118 (12 * i + k) (nI (lkV r o (zLe z k) k a))) (by omega) ((hf1.tr (hf2.le (fun _ q => Or.inl q))).tr (frY_sa (Or.inr (Or.inl rfl)))) (fun w hw hwd2 hfd => ?_) (fun j hj => ?_) (fun j => ?_)
          · rw [hn, if_pos ⟨c, c2⟩] at this
            exact this
          · rw [ga_sa]
            by_cases q : w = k
            · rw [if_pos ⟨rfl, by omega⟩, q]
            · rw [if_neg (by omega), g118]
              exact hrow w (by omega) hwd2 hfd
          · rw [ga_sa, if_neg (by omega), g118]
            exact hoth j hj
          · rw [ga_sa, if_neg (fun q => absurd q.1 (by decide)), g119]
            exact hto j
      · have e1 : pAt (rWd r) (rFd r) (-1) (nI k) = -1 := by unfold pAt; rw [idx_none (Or.inr (nI_le (by omega) (by omega)))]
        rw [e1]
        refine ⟨fun _ => ?_, fun q => absurd q (m1_ne (by omega))⟩
        have := ih (k + 1) S1 (by omega) hf1 (fun w hw hwd2 hfd => hrow w (by omega) hwd2 hfd) hoth hto
        rw [hn, if_neg (fun q => c q.1), Nat.add_zero] at this
        rw [nI_1]
        exact this
  exact loop 12 0 S rfl frY.rf (fun w hw => absurd hw (Nat.not_lt_zero _)) (fun _ _ => rfl) (fun _ => rfl)
/-- the good of the word ahead of the next fold -/
theorem wX_ahead (hr : okR r) (hz : okZ r z) (hT : isT t) (hG : stG p) (h : RX r S t) (hs : stX r z S p) {Q2 : Int32 → aS → Prop} (hx : Q2 (nI (ahV r z)) S) : aWX (d + 2) 85 [.ref p, .int (nI (zWr z) - 1)] S (fun v1 S2 => aI v1 (fun x3 => aWX (d + 2) 60 [.ref t, .int x3] S2 (fun v4 S5 => aI v4 (fun x6 => Q2 x6 S5)))) := by
  have hwr := hz.2.1
  have hfo := hr.2.2.1.2
  have hwd := hr.2.1
  refine wX_stripAt hr hz hG.1 hs ?_
  refine wX_goodOfWord hr hT.re h.1 ?_
  have e : pAt (rWd r) (rGo r) 0 (pStrip z (nI (zWr z) - 1)) = nI (ahV r z) := by
    unfold ahV
    by_cases c : zWr z = 0
    · have e1 : pStrip z (nI (zWr z) - 1) = -1 := by
        unfold pStrip
        rw [c, if_pos (by decide)]
      rw [e1, if_pos c]
      unfold pAt
      rw [idx_neg]
      rfl
    · have e1 : nI (zWr z) - 1 = nI (zWr z - 1) := by
        have := nI_pred (zWr z - 1)
        rw [show zWr z - 1 + 1 = zWr z by omega] at this
        exact this
      have e2 : pStrip z (nI (zWr z) - 1) = nI (zSt z (zWr z - 1)) := by
        unfold pStrip
        rw [e1, if_neg (nI_pos (by omega)), if_neg (nI_ge (by omega) (by omega)), nI_clamp (by omega)]
      rw [e2, if_neg c]
      unfold pAt
      rw [idx_some (by omega) (hz.2.2.2.1 _ (by omega)).1]
  rw [e]
  exact hx
theorem wX_weighNext (hr : okR r) (hz : okZ r z) (hT : isT t) (hG : stG p) (h : RX r S t) (hs : stX r z S p) (hx : ∀ S', frY oC S S' → oRow r z (wWho r (zSe z) (zWr z)) (zWr z) (ahV r z) S' 0 → Q (.int (nI (alV r z (wWho r (zSe z) (zWr z)) (zWr z) (ahV r z)))) S') : aWX (d + 5) 24 [.ref 117, .ref t, .ref p] S Q := by
  have hwr := hz.2.1
  have hfo := hr.2.2.1.2
  have hse : zSe z < 6 := by have := hr.1; rcases hz.1 with q | q <;> omega
  refine mX_Odds_weighNext (gK_ok hG.1.1 ?_)
  rw [hs.2.1]
  refine wX_ahead hr hz hT hG h hs (Q2 := fun x6 S5 => aG (gK p 8) (aWX (d + 4) 71 [.ref t, .int (gi S5 p 4), .int (nI (zWr z))] S5 (fun v7 S8 => aI v7 (fun x9 => aWX (d + 4) 23 [.ref 117, .ref t, .ref p, .int x9, .int (nI (zWr z)), .int (-1), .int x6] S8 (fun v10 S11 => aV v10 (aWX (d + 4) 22 [.ref 117, .int (-1)] S11 (fun v12 S13 => aI v12 (fun x14 => Q (.int x14) S13)))))))) ?_
  refine gK_ok hG.1.1 (wX_writerAt hr hT.re h.1 ?_)
  rw [hs.1, pWho_eq hr (by omega)]
  refine wX_weighBehind (i := 0) hr hz hT hG h hs (okW_who _ _) (by decide) (by omega) (fun S1 hf hrow _ _ => ?_)
  refine wX_totalBehind (i := 0) (by decide) ?_
  rw [hrow.2]
  exact hx S1 hf hrow
end
section
variable {d : Nat} {Q : Value → aS → Prop} {S : aS} {r : zR} {z : zS} {w : Nat}
theorem wM_aheadOf (hr : okR r) (hz : okZ r z) (h : RM r S) (hs : stM r z (ga S 1032) 0) (hx : Q (.int (nI (ahV r z))) S) : aWM (d + 1) 46 [.ref 1000, .int (nI (zWr z))] S Q := by
  have hwr := hz.2.1
  have hfo := hr.2.2.1.2
  have hwd := hr.2.1
  unfold ahV at hx
  refine mM_aheadOf ?_
  rw [nI_eq0 (by omega)]
  refine ⟨fun c => ?_, fun c => ?_⟩
  · rw [if_neg c] at hx
    obtain ⟨hw, -⟩ := hz.2.2.2.1 (zWr z - 1) (by omega)
    have e1 : (4 : Int32) + nI (zWr z) - 1 = nI (4 + (zWr z - 1)) := by
      have := nI_pred (4 + (zWr z - 1))
      rw [show 4 + (zWr z - 1) + 1 = 4 + zWr z by omega] at this
      rw [show (4 : Int32) = nI 4 from rfl, nI_add]
      exact this
    have e2 : ga S 1032 (4 + (zWr z - 1)) = nI (zSt z (zWr z - 1)) := by
      have := hs.2.2.2.2.1 (zWr z - 1) (by omega)
      rw [Nat.zero_add] at this
      exact this
    rw [e1, nI_clamp (show 4 + (zWr z - 1) < 2 ^ 31 by omega), e2, nI_clamp (by omega), h.1.2.2.2.2.2.2.2.1 _ hw]
    exact ⟨nI_in (by omega) (by decide), nI_in (by omega) (by decide), hx⟩
  · rw [if_pos c] at hx
    exact hx
theorem wM_likelyNow (hr : okR r) (hz : okZ r z) (h : RM r S) (hs : stM r z (ga S 1032) 0) (hw : w < rWd r) (hx : ∀ S', frM eC nF S S' → Q (.int (nI (lkV r (wWho r (zSe z) (zWr z)) (zLe z w) w (ahV r z)))) S') : aWM (d + 5) 47 [.ref 1000, .int (nI w)] S Q := by
  have hwr := hz.2.1
  have hfo := hr.2.2.1.2
  have hse : zSe z < 6 := by have := hr.1; rcases hz.1 with q | q <;> omega
  refine mM_likelyNow ⟨vin (by decide), vin (by decide), ?_⟩
  rw [c0, c1, show ga S 1032 0 = nI (zSe z) from hs.1, show ga S 1032 1 = nI (zWr z) from hs.2.1]
  refine wM_writerOf hr h.1 ⟨vin (by decide), ?_⟩
  rw [show ga S 1032 1 = nI (zWr z) from hs.2.1, pWho_eq hr (by omega)]
  exact wM_aheadOf hr hz h hs (wM_likelyBy hr hz h hs hw (okW_who _ _) hx)
theorem wM_allLikely {o : Option Nat} {f a : Nat} (hr : okR r) (hz : okZ r z) (h : RM r S) (hs : stM r z (ga S 1032) 0) (ho : okW r o) (hf : f < 100) (hx : ∀ S', frM eC nF S S' → Q (.int (nI (alV r z o f a))) S') : aWM (d + 5) 48 [.ref 1000, .int (nI f), .int (whoI o), .int (nI a)] S Q := by
  have hwd := hr.2.1
  refine mM_allLikely ?_
  have loop : ∀ m k S1, k + m = rWd r → frM eC nF S S1 → aBM (d + 4) 48 Q 4 [some (.ref 1000), some (.int (nI f)), some (.int (whoI o)), some (.int (nI a)), some (.int (nI (nSum (fun w => if rFd r w = f then lkV r o (zLe z w) w a else 0) k))), some (.int (nI k))] [] S1 := by
    intro m
    induction m with
    | zero =>
      intro k S1 hk hf1
      have h1 := h.kept hf1 (fun i hi => by unfold eC at hi; omega)
      obtain rfl : k = rWd r := by omega
      refine bM_allLikely_4 ?_
      rw [c1, h1.1.2.1]
      exact ⟨vin (by decide), fun _ => hx S1 hf1, fun q => absurd (nI_le (Nat.le_refl _) (by omega)) q⟩
    | succ m ih =>
      intro k S1 hk hf1
      have h1 := h.kept hf1 (fun i hi => by unfold eC at hi; omega)
      have hf3 := (hr.2.2.2.2.2.1 k (by omega)).1
      have hs1 : stM r z (ga S1 1032) 0 := by
        rw [show ga S1 1032 = ga S 1032 from funext fun j => hf1.1 1032 j (by unfold eC; omega)]
        exact hs
      have hn : nSum (fun w => if rFd r w = f then lkV r o (zLe z w) w a else 0) (k + 1) = nSum (fun w => if rFd r w = f then lkV r o (zLe z w) w a else 0) k + (if rFd r k = f then lkV r o (zLe z k) k a else 0) := rfl
      refine bM_allLikely_4 ?_
      rw [c1, h1.1.2.1, nI_clamp (by omega), h1.1.2.2.2.2.2.1 k (by omega), nI_eq (by omega) (by omega), nI_1, Int32.add_zero]
      refine ⟨vin (by decide), fun q => absurd q (nI_ge (by omega) (by omega)), fun _ => ⟨nI_in (by omega) (by decide), fun c => ?_, fun c => wM_likelyBy hr hz h1 hs1 (by omega) ho (fun S2 hf2 => ?_)⟩⟩
      · have := ih (k + 1) S1 (by omega) hf1
        rw [hn, if_neg c, Nat.add_zero] at this
        exact this
      · have := ih (k + 1) S2 (by omega) (hf1.tr hf2)
        rw [hn, if_pos c, ← nI_add] at this
        exact this
  exact loop (rWd r) 0 S (by omega) frM.rf
end
