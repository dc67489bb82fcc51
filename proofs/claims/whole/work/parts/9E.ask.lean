/-! the tie of ask -/
def lkW (r : zR) (z : zS) (o : Option Nat) (f : Nat) : Nat → Option Nat × Nat
  | 0 => (none, 0)
  | k + 1 => if rFd r k = f ∧ (lkW r z o f k).2 < lkV r o (zLe z k) k 0 then (some k, lkV r o (zLe z k) k 0) else lkW r z o f k
theorem lkW_ok (r : zR) (z : zS) (o : Option Nat) (f : Nat) : ∀ k, ((lkW r z o f k).1 = none ∧ (lkW r z o f k).2 = 0) ∨ ∃ b, b < k ∧ (lkW r z o f k).1 = some b ∧ rFd r b = f ∧ (lkW r z o f k).2 = lkV r o (zLe z b) b 0
  | 0 => Or.inl ⟨rfl, rfl⟩
  | k + 1 => by
    unfold lkW
    by_cases c : rFd r k = f ∧ (lkW r z o f k).2 < lkV r o (zLe z k) k 0
    · rw [if_pos c]
      exact Or.inr ⟨k, by omega, rfl, c.1, rfl⟩
    · rw [if_neg c]
      rcases lkW_ok r z o f k with q | ⟨b, b1, b2⟩
      · exact Or.inl q
      · exact Or.inr ⟨b, by omega, b2⟩
section
variable {d : Nat} {Q : Value → aS → Prop} {S : aS} {r : zR} {z : zS} {t f : Nat} {o : Option Nat}
theorem lkW_le (hr : okR r) (ho : okW r o) (k : Nat) (hk : k ≤ rWd r) : (lkW r z o f k).2 ≤ 99 := by
  rcases lkW_ok r z o f k with ⟨-, q⟩ | ⟨b, b1, -, -, b2⟩
  · omega
  · rw [b2]
    exact lkV_le hr ho (by omega) _ _
theorem wX_likeliest (hr : okR r) (hT : isT t) (hR : RX r S t) (ho : okW r o) (hO : oRow r z o f 0 S 0) (hf : f < 100) (hx : Q (.int (wsI (lkW r z o f (rWd r)).1)) S) : aWX (d + 3) 26 [.ref 117, .ref t, .int (nI f)] S Q := by
  have hwd := hr.2.1
  refine mX_Odds_likeliestAtBeginning ?_
  have best : ∀ k (Q2 : Value → aS → Prop), k ≤ rWd r → Q2 (.int (nI (lkW r z o f k).2)) S → aWX (d + 2) 21 [.ref 117, .int (-1), .int (wsI (lkW r z o f k).1)] S Q2 := by
    intro k Q2 hk hq
    rcases lkW_ok r z o f k with ⟨e1, e2⟩ | ⟨b, b1, e1, b3, e2⟩
    · rw [e2] at hq
      rw [e1]
      exact mX_Odds_likelyBehind ⟨fun q => absurd q (by decide), fun _ => ⟨fun q => absurd q (by decide), fun _ => ⟨fun _ => bX_Odds_likelyBehind_14 ⟨fun _ => hq, fun q => absurd rfl q⟩, fun q => absurd (by decide) q⟩⟩⟩
    · rw [e2] at hq
      rw [e1]
      refine wX_likelyBehind (i := 0) (by decide) (by omega) ?_
      rw [hO.1 b (by omega) b3]
      exact hq
  have loop : ∀ m k, k + m = 12 → aBX (d + 2) 26 Q 4 [some (.ref 117), some (.ref t), some (.int (nI f)), some (.int (wsI (lkW r z o f (min k (rWd r))).1)), some (.int (nI k)), none] [] S := by
    intro m
    induction m with
    | zero =>
      intro k hk
      obtain rfl : k = 12 := by omega
      rw [Nat.min_eq_right hwd]
      exact bX_Odds_likeliestAtBeginning_4 ⟨fun _ => hx, fun q => absurd (show (12 : Int32) ≤ nI 12 by decide) q⟩
    | succ m ih =>
      intro k hk
      have ih := ih (k + 1) (by omega)
      refine bX_Odds_likeliestAtBeginning_4 ⟨fun q => absurd q (nI_ge (a := k) (b := 12) (by omega) (by decide)), fun _ => wX_foldOf hr hT.re hR.1 ?_⟩
      by_cases c : k < rWd r
      · have hf3 := (hr.2.2.2.2.2.1 k c).1
        have hle := lkW_le (z := z) (f := f) hr ho k (by omega)
        have hlk := lkV_le hr ho c (zLe z k) 0
        have e1 : pAt (rWd r) (rFd r) (-1) (nI k) = nI (rFd r k) := by unfold pAt; rw [idx_some (by omega) c]
        rw [Nat.min_eq_left (by omega)] at ih ⊢
        unfold lkW at ih
        rw [e1]
        show (¬ nI (rFd r k) = nI f → _) ∧ (nI (rFd r k) = nI f → _)
        rw [nI_eq (by omega) (by omega), nI_1]
        refine ⟨fun e => best k _ (by omega) ⟨fun _ => ?_, fun q => absurd (nI_pos' (by omega)) q⟩, fun e => wX_likelyBehind (i := 0) (by decide) (by omega) ?_⟩
        · rw [if_neg (fun q => e q.1)] at ih
          exact ih
        · rw [hO.1 k c e]
          refine best k _ (by omega) ?_
          show (nI (lkV r o (zLe z k) k 0) ≤ nI (lkW r z o f k).2 → _) ∧ (¬ nI (lkV r o (zLe z k) k 0) ≤ nI (lkW r z o f k).2 → _)
          rw [nI_leI (by omega) (by omega)]
          refine ⟨fun q => ?_, fun q => ?_⟩
          · rw [if_neg (fun q2 => by omega)] at ih; exact ih
          · rw [if_pos ⟨e, by omega⟩] at ih; exact ih
      · have e1 : pAt (rWd r) (rFd r) (-1) (nI k) = -1 := by unfold pAt; rw [idx_none (Or.inr (nI_le (by omega) (by omega)))]
        have hle := lkW_le (z := z) (f := f) hr ho (rWd r) (Nat.le_refl _)
        rw [Nat.min_eq_right (by omega)] at ih ⊢
        rw [e1, nI_1]
        exact ⟨fun _ => best (rWd r) _ (Nat.le_refl _) ⟨fun _ => ih, fun q => absurd (nI_pos' (by omega)) q⟩, fun q => absurd q (m1_ne (by omega))⟩
  have := loop 12 0 rfl
  rw [Nat.zero_min] at this
  exact this
theorem wM_likeliest (hr : okR r) (hz : okZ r z) (hR : RM r S) (hs : stM r z (ga S 1032) 0) (ho : okW r o) (hf : f < 100) (hx : ∀ S', frM eC nF S S' → Q (.int (wsI (lkW r z o f (rWd r)).1)) S') : aWM (d + 5) 94 [.ref 1000, .int (nI f), .int (whoI o)] S Q := by
  have hwd := hr.2.1
  refine mM_likeliest ?_
  have loop : ∀ m k S1, k + m = rWd r → frM eC nF S S1 → aBM (d + 4) 94 Q 6 [some (.ref 1000), some (.int (nI f)), some (.int (whoI o)), some (.int (wsI (lkW r z o f k).1)), some (.int (nI (lkW r z o f k).2)), some (.int (nI k)), none] [] S1 := by
    intro m
    induction m with
    | zero =>
      intro k S1 hk hf1
      have hR1 := hR.kept hf1 (fun i hi => by unfold eC at hi; omega)
      obtain rfl : k = rWd r := by omega
      refine bM_likeliest_6 ?_
      rw [c1, hR1.1.2.1]
      exact ⟨vin (by decide), fun _ => hx S1 hf1, fun q => absurd (nI_le (Nat.le_refl _) (by omega)) q⟩
    | succ m ih =>
      intro k S1 hk hf1
      have hR1 := hR.kept hf1 (fun i hi => by unfold eC at hi; omega)
      have hf3 := (hr.2.2.2.2.2.1 k (by omega)).1
      have hle := lkW_le (z := z) (f := f) hr ho k (by omega)
      have hlk := lkV_le hr ho (show k < rWd r by omega) (zLe z k) 0
      have ih := ih (k + 1)
      unfold lkW at ih
      refine bM_likeliest_6 ?_
      rw [c1, hR1.1.2.1, nI_clamp (by omega), hR1.1.2.2.2.2.2.1 k (by omega), nI_eq (by omega) (by omega), nI_1]
      refine ⟨vin (by decide), fun q => absurd q (nI_ge (by omega) (by omega)), fun _ => ⟨nI_in (by omega) (by decide), fun e => ⟨fun q => absurd q (nI_pos (by omega)), fun _ => ?_⟩, fun e => wM_likelyBy (a := 0) hr hz hR1 (st_e hs hf1) (by omega) ho (fun S2 hf2 => ?_)⟩⟩
      · have ih := ih S1 (by omega) hf1
        rw [if_neg (fun q => e q.1)] at ih
        exact ih
      · have ih := ih S2 (by omega) (hf1.tr hf2)
        show (nI (lkW r z o f k).2 < nI (lkV r o (zLe z k) k 0) → _) ∧ (¬ nI (lkW r z o f k).2 < nI (lkV r o (zLe z k) k 0) → _)
        rw [nI_ltI (by omega) (by omega)]
        refine ⟨fun q => ?_, fun q => ?_⟩
        · rw [if_pos ⟨e, q⟩] at ih; exact ih
        · rw [if_neg (fun q2 => q q2.2)] at ih; exact ih
  exact loop (rWd r) 0 S (by omega) frM.rf
end
def liS (r : zR) (z : zS) (bg f : Nat) : Nat → Nat
  | 0 => 0
  | k + 1 => if bg.testBit k = true then (match (lkW r z (wWho r k f) f (rWd r)).1 with
    | none => liS r z bg f k
    | some w => liS r z bg f k ||| 2 ^ w) else liS r z bg f k
theorem liS_lt {r : zR} (hr : okR r) (z : zS) (bg f : Nat) : ∀ k, liS r z bg f k < 4096
  | 0 => show 0 < 4096 by decide
  | k + 1 => by
    have ih := liS_lt hr z bg f k
    have hwd := hr.2.1
    unfold liS
    split
    · rcases lkW_ok r z (wWho r k f) f (rWd r) with ⟨e, -⟩ | ⟨b, b1, e, -⟩
      · rw [e]; exact ih
      · rw [e]
        exact Nat.or_lt_two_pow (n := 12) ih (Nat.pow_lt_pow_right (by decide) (by omega))
    · exact ih
theorem liS_0 {r : zR} {z : zS} {f : Nat} : ∀ k, liS r z 0 f k = 0
  | 0 => rfl
  | k + 1 => by
    unfold liS
    rw [Nat.zero_testBit, if_neg (by decide)]
    exact liS_0 k
def asS (r : zR) (z : zS) (bg b : Nat) : Nat → Option Nat × Nat
  | 0 => (none, 1)
  | f + 1 => if b &&& bFo r f (rWd r) = 0 ∧ (asS r z bg b f).2 < pcN (liS r z bg f (rWr r)) then (some f, pcN (liS r z bg f (rWr r))) else asS r z bg b f
theorem asS_le (r : zR) (z : zS) (bg b : Nat) : ∀ f, (asS r z bg b f).2 ≤ 12
  | 0 => show 1 ≤ 12 by decide
  | f + 1 => by
    unfold asS
    split
    · exact pcN_le _
    · exact asS_le r z bg b f
theorem unread {r : zR} {rd : List Nat} {b f : Nat} (hd : okD r rd) (hb : rdB rd b) : b &&& bFo r f (rWd r) = 0 ↔ onR r rd f = none := by
  constructor
  · intro h
    cases e : onR r rd f with
    | none => rfl
    | some v =>
      obtain ⟨v1, v2⟩ := onR_some e
      have : (b &&& bFo r f (rWd r)).testBit v = true := by rw [Nat.testBit_and, hb.2, bFo_bit, decide_eq_true v1, decide_eq_true (hd.2 v v1).1, decide_eq_true v2]; rfl
      rw [h, Nat.zero_testBit] at this
      cases this
  · intro h
    refine Nat.eq_of_testBit_eq (fun i => ?_)
    rw [Nat.testBit_and, hb.2, bFo_bit, Nat.zero_testBit]
    by_cases q : i ∈ rd
    · rw [decide_eq_false (onR_none h i q), Bool.and_false, Bool.and_false]
    · rw [decide_eq_false q, Bool.false_and]
section
variable {d : Nat} {Q : Value → aS → Prop} {S : aS} {r : zR} {z : zS} {t f bg : Nat}
theorem wX_likeliestBy (hr : okR r) (hz : okZ r z) (hT : isT t) (hg : gr S 0 2 = t) (hR : RX r S t) (hs : stX r z S 41) (hf : f < rFo r) (hbg : bg < 2 ^ 31) (hx : ∀ S', frY oC S S' → Q (.int (nI (liS r z bg f (rWr r)))) S') : aWX (d + 5) 143 [.ref 0, .int (nI bg), .int (nI f)] S Q := by
  have hwr := hr.1
  have hwd := hr.2.1
  have hfo := hr.2.2.1.2
  refine mX_FoldedRealm_likeliestBy ?_
  have loop : ∀ m k S1, k + m = rWr r → frY oC S S1 → aBX (d + 4) 143 Q 4 [some (.ref 0), some (.int (nI bg)), some (.int (nI f)), some (.int (nI (liS r z bg f k))), some (.int (nI k)), none] [] S1 := by
    intro m
    induction m with
    | zero =>
      intro k S1 hk hf1
      have hR1 := hR.kept hT hf1 (oC_rc hT)
      obtain rfl : k = rWr r := by omega
      refine bX_FoldedRealm_likeliestBy_4 ?_
      rw [hf1.gr, hg, hR1.1.1]
      exact gK_ok hT.re.1 ⟨fun _ => hx S1 hf1, fun q => absurd (nI_le (Nat.le_refl _) (by omega)) q⟩
    | succ m ih =>
      intro k S1 hk hf1
      have hR1 := hR.kept hT hf1 (oC_rc hT)
      have hs1 := hs.keptY hf1 (oC_st stG_41)
      have ih := ih (k + 1)
      unfold liS at ih
      refine bX_FoldedRealm_likeliestBy_4 ?_
      rw [hf1.gr, hg, hR1.1.1, bitAt hbg (by omega), nI_1]
      refine gK_ok hT.re.1 ⟨fun q => absurd q (nI_ge (by omega) (by omega)), fun _ => ?_⟩
      by_cases c : bg.testBit k = true
      · rw [if_pos c] at ih ⊢
        refine ⟨fun q => absurd rfl q, fun _ => wX_writerAt hr hT.re hR1.1 ?_⟩
        rw [pWho_eq hr (by omega)]
        refine wX_weighBehind (d := d) (i := 0) (a := 0) hr hz hT stG_41 hR1 hs1 (okW_who k f) (by decide) (by omega) (fun S2 hf2 hO _ _ => ?_)
        have hR2 := hR1.kept hT hf2 (oC_rc hT)
        show aWX (d + 4) 26 [.ref 117, .ref (gr S2 0 2), .int (nI f)] S2 _
        rw [hf2.gr, hf1.gr, hg]
        refine wX_likeliest (d := d + 1) hr hT hR2 (okW_who k f) hO (by omega) ?_
        have ih := ih S2 (by omega) (hf1.tr hf2)
        rcases lkW_ok r z (wWho r k f) f (rWd r) with ⟨e, -⟩ | ⟨b, b1, e, -⟩
        · rw [e] at ih ⊢
          exact ⟨fun _ => ih, fun q => absurd rfl q⟩
        · rw [e] at ih ⊢
          refine ⟨fun q => absurd (show (-1 : Int32) = nI b from q.symm) (m1_ne (by omega)), fun _ => ?_⟩
          show aBX (d + 4) 143 Q 4 [some (.ref 0), some (.int (nI bg)), some (.int (nI f)), some (.int (nI (liS r z bg f k) ||| 1 <<< (nI b &&& 31))), some (.int (nI (k + 1))), none] [] S2
          rw [(smod12 b (by omega)).2, nI_orN]
          exact ih
      · rw [if_neg c] at ih ⊢
        exact ⟨fun _ => ih S1 (by omega) hf1, fun q => absurd q (by decide)⟩
  exact loop (rWr r) 0 S (by omega) frY.rf
end
theorem tie_ask : ok_ask Rel := by
  refine tie_q (fun g t ok hT => ?_)
  obtain ⟨okr, okn, ⟨okz, okl, okd⟩, okt⟩ := id ok
  obtain ⟨b, hb⟩ := rdB_ex g.1 okr okd
  have hwr := okr.1
  have hwd := okr.2.1
  have hfo := okr.2.2.1
  have hbl := bgV_lt g.1 g.2.1.1 b (rWr g.1)
  have hb31 : bgV g.1 g.2.1.1 b (rWr g.1) < 2 ^ 31 := Nat.lt_of_lt_of_le hbl (Nat.pow_le_pow_right (by decide) (by omega))
  generalize hbg : bgV g.1 g.2.1.1 b (rWr g.1) = bg at *
  refine ⟨wsI (asS g.1 g.2.1.1 bg b (rFo g.1)).1, fun S Q h hx => ?_, fun S Q h hx => ?_⟩
  · obtain ⟨b', hb', e⟩ := h.2.2.1.2.2.2
    rw [← rdB_one hb hb'] at e
    refine mX_FoldedRealm_ask (d := 99) (wX_began (d := 91) okr okz hT h.1.2.1 h.2.1 h.2.2.1.1 hb.1 e (fun S1 hf1 hF => ?_))
    rw [hbg]
    have loop : ∀ m f S2, f + m = rFo g.1 → frY beC S S2 → aBX 99 142 Q 9 [some (.ref 0), some (.int (nI bg)), some (.int (wsI (asS g.1 g.2.1.1 bg b f).1)), some (.int (nI (asS g.1 g.2.1.1 bg b f).2)), some (.int (nI f)), none] [] S2 := by
      intro m
      induction m with
      | zero =>
        intro f S2 hf hf2
        have hR2 := h.2.1.kept hT hf2 (beC_rc hT)
        obtain rfl : f = rFo g.1 := by omega
        refine bX_FoldedRealm_ask_9 ?_
        rw [hf2.gr, h.1.2.1, hR2.1.2.2.1]
        exact gK_ok hT.re.1 ⟨fun _ => hx S2 (hf2.le beC_sc), fun q => absurd (nI_le (Nat.le_refl _) (by omega)) q⟩
      | succ m ih =>
        intro f S2 hf hf2
        have hR2 := h.2.1.kept hT hf2 (beC_rc hT)
        have hs2 := h.2.2.1.1.keptY hf2 beC_st
        have hg2 : gr S2 0 2 = t := (hf2.gr 0 2).trans h.1.2.1
        have ih := ih (f + 1)
        unfold asS at ih
        have hal := asS_le g.1 g.2.1.1 bg b f
        have hli := liS_lt okr g.2.1.1 bg f (rWr g.1)
        have hpc := pcN_le (liS g.1 g.2.1.1 bg f (rWr g.1))
        have hcap : b &&& bFo g.1 f (rWd g.1) < 4096 := Nat.lt_of_le_of_lt Nat.and_le_left hb.1
        refine bX_FoldedRealm_ask_9 ?_
        rw [hg2, hR2.1.2.2.1]
        refine gK_ok hT.re.1 ⟨fun q => absurd q (nI_ge (by omega) (by omega)), fun _ => wX_bitsOfFold (d := 98) okr hT hR2 (by omega) ?_⟩
        simp only [aI]
        rw [(hf2.1 40 3 beC_40).1, e, nI_andN, nI_eq0 (by omega), nI_1]
        refine ⟨fun q => ?_, fun q => wX_likeliestBy (d := 94) okr okz hT hg2 hR2 hs2 (by omega) hb31 (fun S3 hf3 => wX_bitCount (d := 98) hli ?_)⟩
        · have ih := ih S2 (by omega) hf2
          rw [if_neg (fun q2 => q q2.1)] at ih
          exact ih
        · have ih := ih S3 (by omega) (hf2.tr (hf3.le (fun _ q => Or.inl (Or.inl q))))
          simp only [aI]
          rw [nI_leI (by omega) (by omega)]
          refine ⟨fun q2 => ?_, fun q2 => ?_⟩
          · rw [if_neg (fun q3 => by omega)] at ih; exact ih
          · rw [if_pos ⟨q, by omega⟩] at ih; exact ih
    exact loop (rFo g.1) 0 S1 (by omega) hf1
  · have h' := MM_0 ok h
    have hx2 : ∀ S', frM bmC nF (si S 1000 0 0) S' → Q (.int (wsI (asS g.1 g.2.1.1 bg b (rFo g.1)).1)) S' := fun S' hf => hx S' (frM_0.tr (frM_bm hf).1) (fun k hk => (frM_bm hf).2 k hk)
    refine mM_ask (d := 99) (wM_beganBy (d := 89) okr okz h'.1 h'.2.1.1 okd h'.2.1.2.2 hb (fun S1 hf1 => ?_))
    generalize si S 1000 0 0 = S0 at *
    rw [hbg]
    have main : ∀ S2 (onx : Nat → Int32) (x : Int32), frM bmC nF S0 S2 → (∀ f, f < 4 → ga S2 1040 f = onx f) → (∀ f, f < rFo g.1 → (0 ≤ onx f ↔ ¬ (b &&& bFo g.1 f (rWd g.1) = 0)) ∨ bg = 0) → aBM 99 95 Q 15 [some (.ref 1000), some (.int (nI bg)), some (.int (-1)), some (.int 1), some (.int 0), none, none, none] [] S2 := by
      intro S2 onx x hf2 hon hun
      have loop : ∀ m f S3, f + m = rFo g.1 → frM eC nF S2 S3 → aBM 99 95 Q 15 [some (.ref 1000), some (.int (nI bg)), some (.int (wsI (asS g.1 g.2.1.1 bg b f).1)), some (.int (nI (asS g.1 g.2.1.1 bg b f).2)), some (.int (nI f)), none, none, none] [] S3 := by
        intro m
        induction m with
        | zero =>
          intro f S3 hf hf3
          have hR3 := bm_rm h'.1 (hf2.tr (hf3.le (fun _ q => Or.inl (Or.inl q)) (fun _ q => q)))
          obtain rfl : f = rFo g.1 := by omega
          refine bM_ask_15 ?_
          rw [c2, hR3.1.2.2.1]
          exact ⟨vin (by decide), fun _ => hx2 S3 (hf2.tr (hf3.le (fun _ q => Or.inl (Or.inl q)) (fun _ q => q))), fun q => absurd (nI_le (Nat.le_refl _) (by omega)) q⟩
        | succ m ih =>
          intro f S3 hf hf3
          have ih := ih (f + 1)
          unfold asS at ih
          have hal := asS_le g.1 g.2.1.1 bg b f
          have hli := liS_lt okr g.2.1.1 bg f (rWr g.1)
          have hpc := pcN_le (liS g.1 g.2.1.1 bg f (rWr g.1))
          have hpc0 : bg = 0 → pcN (liS g.1 g.2.1.1 bg f (rWr g.1)) = 0 := fun q => by rw [q, liS_0]; rfl
          have h1le : 1 ≤ (asS g.1 g.2.1.1 bg b f).2 := by
            have : ∀ k, 1 ≤ (asS g.1 g.2.1.1 bg b k).2 := by
              intro k
              induction k with
              | zero => exact Nat.le_refl 1
              | succ k ihk =>
                unfold asS
                split
                · rename_i q
                  show 1 ≤ pcN _
                  omega
                · exact ihk
            exact this f
          have hfr3 : frM bmC nF S0 S3 := hf2.tr (hf3.le (fun _ q => Or.inl (Or.inl q)) (fun _ q => q))
          have hR3 := bm_rm h'.1 hfr3
          have e40 : ga S3 1040 f = onx f := (hf3.1 1040 f (by unfold eC; omega)).trans (hon f (by omega))
          refine bM_ask_15 ?_
          rw [c2, hR3.1.2.2.1, nI_clamp (by omega), e40, nI_1]
          refine ⟨vin (by decide), fun q => absurd q (nI_ge (by omega) (by omega)), fun _ => ⟨nI_in (by omega) (by decide), fun q => ?_, fun q => ?_⟩⟩
          · have k31 : ∀ m2 k S4, k + m2 = rWr g.1 → frM eC nF S2 S4 → aBM 99 95 Q 31 [some (.ref 1000), some (.int (nI bg)), some (.int (wsI (asS g.1 g.2.1.1 bg b f).1)), some (.int (nI (asS g.1 g.2.1.1 bg b f).2)), some (.int (nI f)), some (.int (nI (liS g.1 g.2.1.1 bg f k))), some (.int (nI k)), none] [] S4 := by
              intro m2
              induction m2 with
              | zero =>
                intro k S4 hk hf4
                have hR4 := bm_rm h'.1 (hf2.tr (hf4.le (fun _ q => Or.inl (Or.inl q)) (fun _ q => q)))
                obtain rfl : k = rWr g.1 := by omega
                have ih := ih S4 (by omega) hf4
                refine bM_ask_31 ?_
                rw [c0, hR4.1.1]
                refine ⟨vin (by decide), fun _ => wM_bits (d := 98) ?_, fun q => absurd (nI_le (Nat.le_refl _) (by omega)) q⟩
                rw [bitN_pc (by omega) 12 (Nat.le_refl _)]
                show (nI (asS g.1 g.2.1.1 bg b f).2 < nI (pcN (liS g.1 g.2.1.1 bg f (rWr g.1))) → _) ∧ (¬ nI (asS g.1 g.2.1.1 bg b f).2 < nI (pcN (liS g.1 g.2.1.1 bg f (rWr g.1))) → _)
                rw [nI_ltI (by omega) (by omega), nI_1]
                refine ⟨fun q2 => wM_bits (d := 98) ?_, fun q2 => ?_⟩
                · rw [bitN_pc (by omega) 12 (Nat.le_refl _)]
                  have hcap : b &&& bFo g.1 f (rWd g.1) = 0 := by
                    rcases hun f (by omega) with e | e
                    · exact Classical.byContradiction (fun q3 => absurd (e.mpr q3) (Int32.not_le.mpr q))
                    · have := hpc0 e
                      omega
                  rw [if_pos ⟨hcap, q2⟩] at ih
                  exact ih
                · rw [if_neg (fun q3 => q2 q3.2)] at ih
                  exact ih
              | succ m2 ih2 =>
                intro k S4 hk hf4
                have ih2 := ih2 (k + 1)
                unfold liS at ih2
                have hf4' : frM bmC nF S0 S4 := hf2.tr (hf4.le (fun _ q => Or.inl (Or.inl q)) (fun _ q => q))
                have hR4 := bm_rm h'.1 hf4'
                have hs4 := bm_st h'.2.1.1 hf4'
                have e0 : nI (liS g.1 g.2.1.1 bg f k) ||| 0 = nI (liS g.1 g.2.1.1 bg f k) := by
                  rw [show (0 : Int32) = nI 0 from rfl, nI_orN, Nat.or_zero]
                refine bM_ask_31 ?_
                rw [c0, hR4.1.1, bitAt hb31 (by omega)]
                refine ⟨vin (by decide), fun q => absurd q (nI_ge (by omega) (by omega)), fun _ => ?_⟩
                by_cases c : bg.testBit k = true
                · rw [if_pos c] at ih2 ⊢
                  refine ⟨fun q => absurd rfl q, fun _ => wM_writerOf (d := 98) okr hR4.1 ?_⟩
                  rw [pWho_eq okr (by omega)]
                  refine wM_likeliest (d := 94) okr okz hR4 hs4 (okW_who k f) (by omega) (fun S5 hf5 => bM_ask_53 ?_)
                  have ih2 := ih2 S5 (by omega) (hf4.tr hf5)
                  rcases lkW_ok g.1 g.2.1.1 (wWho g.1 k f) f (rWd g.1) with ⟨e, -⟩ | ⟨w, w1, e, -⟩
                  · rw [e] at ih2 ⊢
                    refine ⟨fun q => absurd q (by decide), fun _ => ?_⟩
                    rw [e0, nI_1]
                    exact ih2
                  · rw [e] at ih2 ⊢
                    refine ⟨fun _ => ?_, fun q => absurd (nI_pos' (show w < 2 ^ 31 by omega)) q⟩
                    show aBM 99 95 Q 31 [some (.ref 1000), some (.int (nI bg)), some (.int (wsI (asS g.1 g.2.1.1 bg b f).1)), some (.int (nI (asS g.1 g.2.1.1 bg b f).2)), some (.int (nI f)), some (.int (nI (liS g.1 g.2.1.1 bg f k) ||| 1 <<< (nI w &&& 31))), some (.int (nI k + 1)), none] [] S5
                    rw [(smod12 w (by omega)).2, nI_orN, nI_1]
                    exact ih2
                · rw [if_neg c] at ih2 ⊢
                  refine ⟨fun _ => bM_ask_53 ⟨fun q => absurd q (by decide), fun _ => ?_⟩, fun q => absurd q (by decide)⟩
                  rw [e0, nI_1]
                  exact ih2 S4 (by omega) hf4
            exact k31 (rWr g.1) 0 S3 (by omega) hf3
          · have ih := ih S3 (by omega) hf3
            rw [if_neg (fun q3 => ?_)] at ih
            · exact ih
            · rcases hun f (by omega) with e | e
              · exact e.mp (Int32.not_lt.mp q) q3.1
              · have := hpc0 e
                omega
      exact loop (rFo g.1) 0 S2 (by omega) frM.rf
    refine wM_laysOnly (d := 97) okr (bm_rm h'.1 hf1) okd (bm_rd h'.2.1.2.2 hf1) (fun hc S2 hf2 hon => main S2 (fun f => wsI (onR g.1 g.2.1.2.2 f)) 0 (hf1.tr (hf2.le (fun _ q => Or.inr q) (fun _ q => q))) hon (fun f hf => Or.inl ?_)) (fun hc S2 hf2 => main S2 (fun f => ga S2 1040 f) 0 (hf1.tr (hf2.le (fun _ q => Or.inr q) (fun _ q => q))) (fun f hf => rfl) (fun f hf => Or.inr ?_))
    · rw [unread okd hb]
      cases eo : onR g.1 g.2.1.2.2 f with
      | none => exact ⟨fun q => absurd q (by decide), fun q => absurd rfl q⟩
      | some v =>
        have := (okd.2 v (onR_some eo).1).1
        exact ⟨fun _ q => (by cases q), fun _ => nI_pos' (show v < 2 ^ 31 by omega)⟩
    · rw [← hbg]
      refine Nat.eq_of_testBit_eq (fun i => ?_)
      rw [bgV_bit, Nat.zero_testBit, decide_eq_false (show ¬ 0 < bgF g.1 g.2.1.1 b i by unfold bgF; rw [shF_bad okd hb hc]; decide), Bool.and_false]
