/-! a million shared out: whole rows, both sides -/
def soC (i : Nat) : Prop := oC i ∨ i = 125
theorem soC_sc : ∀ i, soC i → scX i := fun i q => q.elim (oC_sc i) (fun e => Or.inr (by omega))
theorem soC_rc {t : Nat} (hT : isT t) : ∀ i, rcX t i → ¬ soC i := fun i hi q => q.elim (oC_rc hT i hi) (shC_rc hT i hi)
theorem soC_st {p : Nat} (h : stG p) : ∀ i, stC p i → ¬ soC i := fun i hi q => q.elim (oC_st h i hi) (fun e => by
  have := h.2.2.1 i hi
  omega)
section
variable {d : Nat} {Q : Value → aS → Prop} {S : aS} {r : zR} {z : zS} {t s : Nat}
theorem wX_pour {n : Nat} (hr : okR r) (hT : isT t) (hR : RX r S t) (hO : oAll r z s 0 0 S) (hn : n < 4096) (hx : ∀ S' h, frY shC S S' → shX h S' → (∀ w, w < rWd r → rFd r w + 1 = rFo r → h w = if PB r n w = true then shv r z s (PB r n) 0 0 (rFo r - 1) w else 0) → Q .null S') : aWX (d + 5) 77 [.ref 124, .ref t, .ref 117, .int (nI n)] S Q := by
  have hwd := hr.2.1
  have hfo := hr.2.2.1
  have loop : ∀ m f h S1, f + m = rFo r → 0 < f → frY shC S S1 → shX h S1 → (∀ w, w < rWd r → rFd r w + 1 = f → h w = if PB r n w = true then shv r z s (PB r n) 0 0 (f - 1) w else 0) → (∀ w, w < rWd r → f ≤ rFd r w → h w = 0) → aBX (d + 4) 77 Q 16 [some (.ref 124), some (.ref t), some (.ref 117), some (.int (nI n)), some (.int (nI f))] [] S1 := by
    intro m
    induction m with
    | zero =>
      intro f h S1 hm hf0 hf1 hh h1 h2
      have hR1 := hR.kept hT hf1 (shC_rc hT)
      obtain rfl : f = rFo r := by omega
      refine bX_Shares_pour_16 (gK_ok hT.re.1 ?_)
      rw [hR1.1.2.2.1]
      exact ⟨fun _ => hx S1 h hf1 hh h1, fun q => absurd (nI_le (Nat.le_refl _) (by omega)) q⟩
    | succ m ih =>
      intro f h S1 hm hf0 hf1 hh h1 h2
      have hR1 := hR.kept hT hf1 (shC_rc hT)
      refine bX_Shares_pour_16 (gK_ok hT.re.1 ?_)
      rw [hR1.1.2.2.1]
      refine ⟨fun q => absurd q (nI_ge (by omega) (by omega)), fun _ => wX_flow (s := s) (z := z) hr hT hR1 hf0 (by omega) (fun v hv hfv => ?_) (fun v hv hfv => ?_) hh (fun S2 hf2 hh2 => ?_)⟩
      · have := (hO.2 v hv (Nat.zero_le _) (by omega)).keptF hf1 (by unfold shC; omega) (by unfold shC; omega)
        rw [hfv] at this
        exact this
      · rw [h1 v hv hfv]
        split
        · exact shv_le hv (by omega)
        · omega
      · have hR2 := hR1.kept hT hf2 (shC_rc hT)
        refine wX_keepAlone (d := d + 1) hr hT hR2 (by omega) hn hh2 (fun S3 hf3 hh3 => ?_)
        rw [nI_1]
        refine ih (f + 1) _ S3 (by omega) (by omega) ((hf1.tr hf2).tr hf3) hh3 (fun w hw hfw => ?_) (fun w hw hfw => ?_)
        · have hfw' : rFd r w = f := by omega
          try dsimp only
          by_cases c : PB r n w = true
          · rw [if_neg (fun q => by rw [c] at q; exact absurd q.2.2 (by decide)), if_pos ⟨hw, hfw'⟩, if_pos c, h2 w hw (by omega), Nat.zero_add, show f + 1 - 1 = (f - 1) + 1 by omega]
            show _ = shS r z s (0 + (f - 1) + 1) _ w
            rw [show 0 + (f - 1) + 1 = f by omega]
            exact shS_ext (fun v hv hfv => h1 v hv hfv)
          · rw [Bool.not_eq_true] at c
            rw [if_pos ⟨hw, hfw', c⟩, c, if_neg (by decide)]
        · try dsimp only
          rw [if_neg (fun q => by omega), if_neg (fun q => by omega), h2 w hw (by omega)]
  refine mX_Shares_pour (wX_empty (fun S1 hf1 hh1 => ?_))
  have hR1 := hR.kept hT hf1 (shC_rc hT)
  refine wX_share (i := 0) (m := 1000000) (o := wWho r s 0) (f := 0) (a := 0) (z := z) hr hT hR1 (okW_who s 0) (hO.1.keptF hf1 (by unfold shC; omega) (by unfold shC; omega)) (by decide) (by decide) (Nat.le_refl _) hh1 (fun S2 hf2 hh2 => ?_)
  have hR2 := hR1.kept hT hf2 (shC_rc hT)
  refine wX_keepAlone (f := 0) hr hT hR2 (by decide) hn hh2 (fun S3 hf3 hh3 => ?_)
  refine loop (rFo r - 1) 1 _ S3 (by omega) (by decide) ((hf1.tr hf2).tr hf3) hh3 (fun w hw hfw => ?_) (fun w hw hfw => ?_)
  · have hfw' : rFd r w = 0 := by omega
    try dsimp only
    by_cases c : PB r n w = true
    · rw [if_neg (fun q => by rw [c] at q; exact absurd q.2.2 (by decide)), if_pos ⟨hw, hfw'⟩, if_pos c, Nat.zero_add]
      rfl
    · rw [Bool.not_eq_true] at c
      rw [if_pos ⟨hw, hfw', c⟩, c, if_neg (by decide)]
  · try dsimp only
    rw [if_neg (fun q => by omega), if_neg (fun q => by omega)]
theorem wX_sharedBy {n : Nat} (hr : okR r) (hz : okZ r z) (hT : isT t) (hg : gr S 0 2 = t) (hR : RX r S t) (hs : stX r z S 41) (hs20 : s < 20) (hn : n < 4096) (hx : ∀ S', frY soC S S' → Q (.int (nI (shF r z s (PB r n) 0 0))) S') : aWX (d + 7) 135 [.ref 0, .int (nI s), .int (nI n)] S Q := by
  have hfo := hr.2.2.1
  refine mX_FoldedRealm_sharedBy ?_
  rw [hg]
  refine wX_weighAll (d := d + 1) (f0 := 0) (a0 := 0) hr hz hT stG_41 hR hs hs20 (by omega) (Or.inl ⟨rfl, rfl⟩) (fun S1 hf1 hO => ?_)
  have hR1 := hR.kept hT hf1 (oC_rc hT)
  have hg1 : gr S1 0 2 = t := (hf1.gr 0 2).trans hg
  show aWX (d + 6) 77 [.ref 124, .ref (gr S1 0 2), .ref 117, .int (nI n)] S1 _
  rw [hg1]
  refine wX_pour (d := d + 1) hr hT hR1 hO hn (fun S2 h hf2 hh hl => ?_)
  have hR2 := hR1.kept hT hf2 (shC_rc hT)
  show aWX (d + 6) 76 [.ref 124, .ref (gr S2 0 2)] S2 _
  rw [hf2.gr, hg1]
  refine wX_atLast (d := d + 3) hr hT hR2 hh ?_
  have e : nSum (fun w => if rFd r w + 1 = rFo r then h w else 0) (rWd r) = shF r z s (PB r n) 0 0 := by
    unfold shF
    refine nSum_ext _ (fun w hw => ?_)
    by_cases c : rFd r w + 1 = rFo r
    · rw [if_pos c, hl w hw c]
      by_cases c2 : PB r n w = true
      · rw [if_pos c2, if_pos ⟨c, c2⟩]
        rfl
      · rw [if_neg c2, if_neg (fun q => c2 q.2)]
    · rw [if_neg c, if_neg (fun q => c q.1)]
  rw [e]
  exact hx S2 ((hf1.le (fun _ q => Or.inl q)).tr (hf2.le (fun _ q => Or.inr q)))
def aimV (r : zR) (z : zS) (first w : Nat) : Nat := if zWr z + 1 = rFo r then (if w = first then 1000000 else 0) else shv r z (zSe z) (fun _ => true) (zWr z + 1) (rGo r first) (rFo r - 1 - (zWr z + 1)) w
theorem wX_pourBehind {first : Nat} (hr : okR r) (hz : okZ r z) (hT : isT t) (hR : RX r S t) (hO : oAll r z (zSe z) (zWr z) (ahV r z) S) (hfi : first < rWd r) (hff : rFd r first = zWr z) (hx : ∀ S' h, frY shC S S' → shX h S' → (∀ w, w < rWd r → rFd r w + 1 = rFo r → h w = aimV r z first w) → Q .null S') : aWX (d + 5) 78 [.ref 124, .ref t, .ref 117, .int (nI first)] S Q := by
  have hwd := hr.2.1
  have hfo := hr.2.2.1
  have hwr := hz.2.1
  have loop : ∀ m f h S1, f + m = rFo r → zWr z < f → frY shC S S1 → shX h S1 → (∀ w, w < rWd r → rFd r w + 1 = f → h w = if f = zWr z + 1 then (if w = first then 1000000 else 0) else shv r z (zSe z) (fun _ => true) (zWr z + 1) (rGo r first) (f - 1 - (zWr z + 1)) w) → (∀ w, w < rWd r → f ≤ rFd r w → h w = 0) → aBX (d + 4) 78 Q 18 [some (.ref 124), some (.ref t), some (.ref 117), none, some (.int (nI f))] [] S1 := by
    intro m
    induction m with
    | zero =>
      intro f h S1 hm hf0 hf1 hh h1 h2
      have hR1 := hR.kept hT hf1 (shC_rc hT)
      obtain rfl : f = rFo r := by omega
      refine bX_Shares_pourBehind_18 (gK_ok hT.re.1 ?_)
      rw [hR1.1.2.2.1]
      refine ⟨fun _ => hx S1 h hf1 hh (fun w hw hfw => ?_), fun q => absurd (nI_le (Nat.le_refl _) (by omega)) q⟩
      rw [h1 w hw hfw]
      unfold aimV
      by_cases c : rFo r = zWr z + 1
      · rw [if_pos c, if_pos c.symm]
      · rw [if_neg c, if_neg (fun q => c q.symm)]
    | succ m ih =>
      intro f h S1 hm hf0 hf1 hh h1 h2
      have hR1 := hR.kept hT hf1 (shC_rc hT)
      refine bX_Shares_pourBehind_18 (gK_ok hT.re.1 ?_)
      rw [hR1.1.2.2.1]
      refine ⟨fun q => absurd q (nI_ge (by omega) (by omega)), fun _ => wX_flow (s := zSe z) (z := z) hr hT hR1 (by omega) (by omega) (fun v hv hfv => ?_) (fun v hv hfv => ?_) hh (fun S2 hf2 hh2 => ?_)⟩
      · have := (hO.2 v hv (by omega) (by omega)).keptF hf1 (by unfold shC; omega) (by unfold shC; omega)
        rw [hfv] at this
        exact this
      · rw [h1 v hv hfv]
        by_cases c : f = zWr z + 1
        · rw [if_pos c]
          split <;> omega
        · rw [if_neg c]
          exact shv_le hv (by omega)
      · rw [nI_1]
        refine ih (f + 1) _ S2 (by omega) (by omega) (hf1.tr hf2) hh2 (fun w hw hfw => ?_) (fun w hw hfw => ?_)
        · have hfw' : rFd r w = f := by omega
          try dsimp only
          rw [if_pos ⟨hw, hfw'⟩, h2 w hw (by omega), Nat.zero_add, if_neg (by omega)]
          by_cases c : f = zWr z + 1
          · rw [show f + 1 - 1 - (zWr z + 1) = 0 by omega]
            show shS r z (zSe z) f h w = sh0 r z (zSe z) (zWr z + 1) (rGo r first) w
            rw [← c]
            unfold shS sh0
            have key : ∀ n, nSum (fun v => if rFd r v + 1 = f then h v * lkV r (wWho r (zSe z) f) (zLe z w) w (rGo r v) / alV r z (wWho r (zSe z) f) f (rGo r v) else 0) n = if first < n ∧ n ≤ rWd r then 1000000 * lkV r (wWho r (zSe z) f) (zLe z w) w (rGo r first) / alV r z (wWho r (zSe z) f) f (rGo r first) else nSum (fun v => if rFd r v + 1 = f then h v * lkV r (wWho r (zSe z) f) (zLe z w) w (rGo r v) / alV r z (wWho r (zSe z) f) f (rGo r v) else 0) n := by
              intro n
              induction n with
              | zero => rw [if_neg (fun q => absurd q.1 (Nat.not_lt_zero _))]
              | succ n ihn =>
                by_cases e : first < n + 1 ∧ n + 1 ≤ rWd r
                · rw [if_pos e]
                  show nSum _ n + (if rFd r n + 1 = f then _ else 0) = _
                  rcases Nat.lt_or_ge first n with q | q
                  · rw [ihn, if_pos ⟨q, by omega⟩]
                    by_cases e2 : rFd r n + 1 = f
                    · rw [if_pos e2, h1 n (by omega) e2, if_pos c, if_neg (by omega), Nat.zero_mul, Nat.zero_div, Nat.add_zero]
                    · rw [if_neg e2, Nat.add_zero]
                  · obtain rfl : first = n := by omega
                    have hz0 : nSum (fun v => if rFd r v + 1 = f then h v * lkV r (wWho r (zSe z) f) (zLe z w) w (rGo r v) / alV r z (wWho r (zSe z) f) f (rGo r v) else 0) first ≤ first * 0 := nSum_le _ (fun v hv => by
                      by_cases e2 : rFd r v + 1 = f
                      · rw [if_pos e2, h1 v (by omega) e2, if_pos c, if_neg (by omega), Nat.zero_mul, Nat.zero_div]
                        exact Nat.le_refl _
                      · rw [if_neg e2]; exact Nat.le_refl _)
                    rw [show nSum (fun v => if rFd r v + 1 = f then h v * lkV r (wWho r (zSe z) f) (zLe z w) w (rGo r v) / alV r z (wWho r (zSe z) f) f (rGo r v) else 0) first = 0 by omega, if_pos (by omega), h1 first hfi (by omega), if_pos c, if_pos rfl, Nat.zero_add]
                · rw [if_neg e]
            rw [key (rWd r), if_pos ⟨hfi, Nat.le_refl _⟩]
          · rw [show f + 1 - 1 - (zWr z + 1) = (f - 1 - (zWr z + 1)) + 1 by omega]
            show _ = shS r z (zSe z) (zWr z + 1 + (f - 1 - (zWr z + 1)) + 1) _ w
            rw [show zWr z + 1 + (f - 1 - (zWr z + 1)) + 1 = f by omega]
            refine shS_ext (fun v hv hfv => ?_)
            rw [h1 v hv hfv, if_neg c, if_pos rfl]
        · try dsimp only
          rw [if_neg (fun q => by omega), h2 w hw (by omega)]
  refine mX_Shares_pourBehind (wX_empty (fun S1 hf1 hh1 => ?_))
  refine ⟨fun q => absurd q (nI_pos (by omega)), fun _ => ⟨fun q => absurd q (nI_ge (a := first) (b := 12) (by omega) (by decide)), fun _ => ⟨nI_in (by omega) (by decide), ?_⟩⟩⟩
  rw [nI_clamp (by omega)]
  have hf2 : frY shC S (sa S1 125 first 1000000) := hf1.tr (frY_sa rfl)
  refine wX_foldOf hr hT.re (hR.kept hT hf2 (shC_rc hT)).1 ?_
  have e1 : pAt (rWd r) (rFd r) (-1) (nI first) = nI (rFd r first) := by unfold pAt; rw [idx_some (by omega) hfi]
  rw [e1, hff]
  show aBX (d + 4) 78 Q 18 [some (.ref 124), some (.ref t), some (.ref 117), none, some (.int (nI (zWr z) + 1))] [] _
  rw [nI_1]
  refine loop (rFo r - (zWr z + 1)) (zWr z + 1) (fun w => if w = first then 1000000 else 0) _ (by omega) (by omega) hf2 (fun w hw => ?_) (fun w hw hfw => ?_) (fun w hw hfw => ?_)
  · rw [ga_sa]
    try dsimp only
    by_cases q : w = first
    · rw [if_pos ⟨rfl, q⟩, if_pos q]; rfl
    · rw [if_neg (fun e => q e.2), if_neg q]
      exact hh1 w hw
  · rw [if_pos rfl]
  · rw [if_neg (fun q => by rw [q] at hfw; omega)]
end
/-- only this word in a fold -/
def PO (r : zR) (onl : Nat → Option Nat) (w : Nat) : Bool := match onl (rFd r w) with
  | none => true
  | some v => decide (v = w)
def onM (onl : Nat → Option Nat) (S : aS) : Prop := ∀ f, f < 4 → ga S 1040 f = wsI (onl f)
def shM (h : Nat → Nat) (S : aS) : Prop := ∀ w, w < 12 → ga S 1039 w = nI (h w)
def smC (i : Nat) : Prop := eC i ∨ i = 1039
def okOn (onl : Nat → Option Nat) : Prop := ∀ f v, onl f = some v → v < 12
section
variable {d : Nat} {Q : Value → aS → Prop} {S : aS} {r : zR} {z : zS} {s f a : Nat} {h : Nat → Nat} {onl : Nat → Option Nat}
theorem sm_st {S' : aS} (hs : stM r z (ga S 1032) 0) (hf : frM smC nF S S') : stM r z (ga S' 1032) 0 := by
  rw [show ga S' 1032 = ga S 1032 from funext fun j => hf.1 1032 j (by unfold smC eC; omega)]
  exact hs
theorem sm_rm {S' : aS} (hR : RM r S) (hf : frM smC nF S S') : RM r S' := hR.kept hf (fun i hi => by unfold smC eC at hi; omega)
theorem wM_goesOnAt {w : Nat} (hon : onM onl S) (hok : okOn onl) (hf : rFd r w < 4) (hw : w < 12) (hx : Q (.int (bB (PO r onl w))) S) : aWM (d + 1) 82 [.ref 1000, .int (nI (rFd r w)), .int (nI w)] S Q := by
  refine mM_goesOnAt ?_
  rw [nI_clamp (by omega), hon _ hf]
  have i4 : vp_in (nI (rFd r w)) 4 := nI_in hf (by decide)
  unfold PO at hx
  cases e : onl (rFd r w) with
  | none =>
    rw [e] at hx
    exact ⟨i4, fun _ => ⟨Or.inr rfl, hx⟩, fun q => absurd rfl q⟩
  | some v =>
    rw [e] at hx
    dsimp only at hx
    have hv := hok _ v e
    refine ⟨i4, fun q => absurd (show (-1 : Int32) = nI v from q.symm) (m1_ne (by omega)), fun _ => ⟨i4, fun q => ⟨Or.inl rfl, ?_⟩, fun q => ⟨Or.inr rfl, ?_⟩⟩⟩
    · rw [decide_eq_false (fun c => q (by rw [c]; rfl))] at hx
      exact hx
    · have : v = w := (nI_eq (by omega) (by omega)).mp q
      rw [decide_eq_true this] at hx
      exact hx
theorem wM_sharesFrom {m : Nat} (hr : okR r) (hz : okZ r z) (hR : RM r S) (hs : stM r z (ga S 1032) 0) (hs20 : s < 2 ^ 30) (hf : f < 100) (hm : m < 2 ^ 31) (hh : shM h S) (hx : ∀ S', frM smC nF S S' → shM (fun w => h w + (if w < rWd r ∧ rFd r w = f then m * lkV r (wWho r s f) (zLe z w) w a / alV r z (wWho r s f) f a else 0)) S' → Q .null S') : aWM (d + 6) 83 [.ref 1000, .int (nI f), .int (nI s), .int (nI m), .int (nI a)] S Q := by
  have hwd := hr.2.1
  have hal := alV_le hr z (okW_who (r := r) s f) f a
  refine mM_sharesFrom (wM_writerOf hr hR.1 ?_)
  rw [pWho_eq hr (by omega)]
  refine wM_allLikely hr hz hR hs (okW_who s f) hf (fun S1 hf1 => ?_)
  have hf1' : frM smC nF S S1 := hf1.le (fun _ q => Or.inl q) (fun _ q => q)
  have hh1 : shM h S1 := fun w hw => (hf1.1 1039 w (by unfold eC; omega)).trans (hh w hw)
  show (¬ nI (alV r z (wWho r s f) f a) = 0 → _) ∧ (nI (alV r z (wWho r s f) f a) = 0 → _)
  rw [nI_eq0 (by omega)]
  refine ⟨fun c => ?_, fun c => hx S1 hf1' (fun w hw => ?_)⟩
  · have loop : ∀ m2 k S2, k + m2 = rWd r → frM smC nF S S2 → shM (fun w => h w + (if w < k ∧ w < rWd r ∧ rFd r w = f then m * lkV r (wWho r s f) (zLe z w) w a / alV r z (wWho r s f) f a else 0)) S2 → aBM (d + 5) 83 Q 16 [some (.ref 1000), some (.int (nI f)), none, some (.int (nI m)), some (.int (nI a)), some (.int (whoI (wWho r s f))), some (.int (nI (alV r z (wWho r s f) f a))), some (.int (nI k))] [] S2 := by
      intro m2
      induction m2 with
      | zero =>
        intro k S2 hk hf2 hg
        have hR2 := sm_rm hR hf2
        obtain rfl : k = rWd r := by omega
        refine bM_sharesFrom_16 ?_
        rw [c1, hR2.1.2.1]
        refine ⟨vin (by decide), fun _ => hx S2 hf2 (fun w hw => ?_), fun q => absurd (nI_le (Nat.le_refl _) (by omega)) q⟩
        rw [hg w hw]
        try dsimp only
        by_cases e : w < rWd r ∧ rFd r w = f
        · rw [if_pos e, if_pos ⟨e.1, e⟩]
        · rw [if_neg e, if_neg (fun q => e q.2)]
      | succ m2 ih =>
        intro k S2 hk hf2 hg
        have hR2 := sm_rm hR hf2
        have hf3 := (hr.2.2.2.2.2.1 k (by omega)).1
        refine bM_sharesFrom_16 ?_
        rw [c1, hR2.1.2.1, nI_clamp (by omega), hR2.1.2.2.2.2.2.1 k (by omega), nI_eq (by omega) (by omega), nI_1]
        refine ⟨vin (by decide), fun q => absurd q (nI_ge (by omega) (by omega)), fun _ => ⟨nI_in (by omega) (by decide), fun e => ih (k + 1) S2 (by omega) hf2 (fun w hw => ?_), fun e => ⟨nI_in (by omega) (by decide), wM_likelyBy hr hz hR2 (sm_st hs hf2) (by omega) (okW_who s f) (fun S3 hf3' => ?_)⟩⟩⟩
        · rw [hg w hw]
          try dsimp only
          by_cases q : w < k ∧ w < rWd r ∧ rFd r w = f
          · rw [if_pos q, if_pos ⟨by omega, q.2⟩]
          · rw [if_neg q, if_neg (fun q2 => ?_)]
            rcases Nat.lt_or_ge w k with q3 | q3
            · exact q ⟨q3, q2.2⟩
            · rw [show w = k by omega] at q2
              exact e q2.2.2
        · have hlk := lkV_le hr (okW_who (r := r) s f) (show k < rWd r by omega) (zLe z k) a
          have hml : m * lkV r (wWho r s f) (zLe z k) k a ≤ 2 ^ 31 * 99 := Nat.mul_le_mul (by omega) hlk
          simp only [aI]
          rw [hg k (by omega), nI_l hm, nI_l (by omega), nI_l (by omega), lN_mul, pk_lDiv (by omega) (by omega) (by omega), lN_i]
          try dsimp only
          rw [if_neg (fun q => by omega), Nat.add_zero, nI_add]
          refine ⟨fun q => ?_, nI_in (by omega) (by decide), ih (k + 1) _ (by omega) ((hf2.tr (hf3'.le (fun _ q => Or.inl q) (fun _ q => q))).tr (frM_sa (Or.inr rfl))) (fun w hw => ?_)⟩
          · rw [show (0 : Int64) = lN 0 from rfl, lN_eq (by omega) (by decide)] at q
            exact c q
          · rw [ga_sa]
            try dsimp only
            by_cases q : w = k
            · subst q
              rw [if_pos ⟨rfl, rfl⟩, if_pos ⟨by omega, by omega, e⟩]
              rfl
            · rw [if_neg (fun q2 => q q2.2), hf3'.1 1039 w (by unfold eC; omega), hg w hw]
              try dsimp only
              by_cases q3 : w < k ∧ w < rWd r ∧ rFd r w = f
              · rw [if_pos q3, if_pos ⟨by omega, q3.2⟩]
              · rw [if_neg q3, if_neg (fun q2 => q3 ⟨by omega, q2.2⟩)]
    refine loop (rWd r) 0 S1 (by omega) hf1' (fun w hw => ?_)
    try dsimp only
    rw [if_neg (fun q => absurd q.1 (Nat.not_lt_zero _)), Nat.add_zero]
    exact hh1 w hw
  · try dsimp only
    rw [c, Nat.div_zero, hh1 w hw]
    split <;> rw [Nat.add_zero]
/-- shared out from a fold on -/
theorem wM_sharesOut (hr : okR r) (hz : okZ r z) (hR : RM r S) (hs : stM r z (ga S 1032) 0) (hs20 : s < 2 ^ 30) (hf : f < rFo r) (hon : onM onl S) (hok : okOn onl) (hx : ∀ S' h, frM smC nF S S' → shM h S' → (∀ w, w < rWd r → rFd r w + 1 = rFo r → h w = shv r z s (PO r onl) f a (rFo r - 1 - f) w) → Q (.int (nI (shF r z s (PO r onl) f a))) S') : aWM (d + 7) 84 [.ref 1000, .int (nI f), .int (nI s), .int (nI a)] S Q := by
  have hwd := hr.2.1
  have hfo := hr.2.2.1
  have onk : ∀ S1, frM smC nF S S1 → onM onl S1 := fun S1 hf1 g hg => (hf1.1 1040 g (by unfold smC eC; omega)).trans (hon g hg)
  -- the last sum
  have k76 : ∀ S1 h, frM smC nF S S1 → shM h S1 → (∀ w, w < rWd r → rFd r w + 1 = rFo r → h w = shv r z s (PO r onl) f a (rFo r - 1 - f) w) → aBM (d + 6) 84 Q 76 [some (.ref 1000), none, none, none, some (.int 0), some (.int (nI (rFo r - 1))), some (.int 0)] [] S1 := by
    intro S1 h hf1 hh hl
    have hR1 := sm_rm hR hf1
    have loop : ∀ m k, k + m = rWd r → aBM (d + 6) 84 Q 76 [some (.ref 1000), none, none, none, some (.int (nI (nSum (fun w => if rFd r w + 1 = rFo r ∧ PO r onl w = true then shv r z s (PO r onl) f a (rFo r - 1 - f) w else 0) k))), some (.int (nI (rFo r - 1))), some (.int (nI k))] [] S1 := by
      intro m
      induction m with
      | zero =>
        intro k hk
        obtain rfl : k = rWd r := by omega
        refine bM_sharesOut_76 ?_
        rw [c1, hR1.1.2.1]
        exact ⟨vin (by decide), fun _ => hx S1 h hf1 hh hl, fun q => absurd (nI_le (Nat.le_refl _) (by omega)) q⟩
      | succ m ih =>
        intro k hk
        have ih := ih (k + 1) (by omega)
        have hf3 := (hr.2.2.2.2.2.1 k (by omega)).1
        have hn : nSum (fun w => if rFd r w + 1 = rFo r ∧ PO r onl w = true then shv r z s (PO r onl) f a (rFo r - 1 - f) w else 0) (k + 1) = nSum (fun w => if rFd r w + 1 = rFo r ∧ PO r onl w = true then shv r z s (PO r onl) f a (rFo r - 1 - f) w else 0) k + (if rFd r k + 1 = rFo r ∧ PO r onl k = true then shv r z s (PO r onl) f a (rFo r - 1 - f) k else 0) := rfl
        refine bM_sharesOut_76 ?_
        rw [c1, hR1.1.2.1, nI_clamp (by omega), hR1.1.2.2.2.2.2.1 k (by omega), nI_eq (by omega) (by omega), nI_1, Int32.add_zero]
        refine ⟨vin (by decide), fun q => absurd q (nI_ge (by omega) (by omega)), fun _ => ⟨nI_in (by omega) (by decide), fun e => ?_, fun e => ?_⟩⟩
        · rw [hn, if_neg (fun q => e (by omega)), Nat.add_zero] at ih
          exact ih
        · rw [← e]
          refine wM_goesOnAt (d := d + 5) (onk S1 hf1) hok (by omega) (by omega) ?_
          rw [e]
          cases hp : PO r onl k with
          | false =>
            rw [hn, if_neg (fun q => by rw [hp] at q; exact absurd q.2 (by decide)), Nat.add_zero] at ih
            exact ⟨fun _ => ih, fun q => absurd rfl q⟩
          | true =>
            rw [hn, if_pos ⟨by omega, hp⟩, ← nI_add, ← hl k (by omega) (by omega), ← hh k (by omega)] at ih
            exact ⟨fun q => absurd q (by decide), fun _ => ⟨nI_in (by omega) (by decide), ih⟩⟩
    exact loop (rWd r) 0 (by omega)
  have k20 : ∀ m g S1 h, g + 1 + m = rFo r → f ≤ g → frM smC nF S S1 → shM h S1 → (∀ w, w < rWd r → rFd r w = g → h w = shv r z s (PO r onl) f a (g - f) w) → (∀ w, w < rWd r → g < rFd r w → h w = 0) → aBM (d + 6) 84 Q 20 [some (.ref 1000), none, some (.int (nI s)), none, some (.int (nI g)), none, none] [] S1 := by
    intro m
    induction m with
    | zero =>
      intro g S1 h hm hg hf1 hh h1 h2
      have hR1 := sm_rm hR hf1
      have ef : nI (rFo r) - 1 = nI (rFo r - 1) := by
        have := nI_pred (rFo r - 1)
        rw [show rFo r - 1 + 1 = rFo r by omega] at this
        exact this
      refine bM_sharesOut_20 ?_
      rw [c2, hR1.1.2.2.1, nI_1, ef]
      refine ⟨vin (by decide), fun _ => ⟨vin (by decide), k76 S1 h hf1 hh (fun w hw hfw => ?_)⟩, fun q => absurd (nI_le (by omega) (by omega)) q⟩
      rw [h1 w hw (by omega), show g - f = rFo r - 1 - f by omega]
    | succ m ih =>
      intro g S1 h hm hg hf1 hh h1 h2
      have hR1 := sm_rm hR hf1
      refine bM_sharesOut_20 ?_
      rw [c2, hR1.1.2.2.1, nI_1]
      refine ⟨vin (by decide), fun q => absurd q (nI_ge (by omega) (by omega)), fun _ => ?_⟩
      have k30 : ∀ m2 k S2, k + m2 = rWd r → frM smC nF S S2 → shM (fun w => h w + (if w < rWd r ∧ rFd r w = g + 1 then nSum (fun v => if rFd r v + 1 = g + 1 then (if PO r onl v = true then shv r z s (PO r onl) f a (g - f) v else 0) * lkV r (wWho r s (g + 1)) (zLe z w) w (rGo r v) / alV r z (wWho r s (g + 1)) (g + 1) (rGo r v) else 0) k else 0)) S2 → aBM (d + 6) 84 Q 30 [some (.ref 1000), none, some (.int (nI s)), none, some (.int (nI g)), some (.int (nI k)), none] [] S2 := by
        intro m2
        induction m2 with
        | zero =>
          intro k S2 hk hf2 hg2
          have hR2 := sm_rm hR hf2
          obtain rfl : k = rWd r := by omega
          refine bM_sharesOut_30 ?_
          rw [c1, hR2.1.2.1, nI_1]
          refine ⟨vin (by decide), fun _ => ih (g + 1) S2 _ (by omega) (by omega) hf2 hg2 (fun w hw hfw => ?_) (fun w hw hfw => ?_), fun q => absurd (nI_le (Nat.le_refl _) (by omega)) q⟩
          · try dsimp only
            rw [if_pos ⟨hw, hfw⟩, h2 w hw (by omega), Nat.zero_add, show g + 1 - f = (g - f) + 1 by omega]
            show _ = shS r z s (f + (g - f) + 1) _ w
            rw [show f + (g - f) + 1 = g + 1 by omega]
            rfl
          · try dsimp only
            rw [if_neg (fun q => by omega), h2 w hw (by omega)]
        | succ m2 ih2 =>
          intro k S2 hk hf2 hg2
          have hR2 := sm_rm hR hf2
          have hf3 := (hr.2.2.2.2.2.1 k (by omega)).1
          have hgo := (hr.2.2.2.2.2.1 k (by omega)).2.2.1
          have skip : (rFd r k = g → PO r onl k = false) → aBM (d + 6) 84 Q 30 [some (.ref 1000), none, some (.int (nI s)), none, some (.int (nI g)), some (.int (nI (k + 1))), none] [] S2 := fun e => by
            refine ih2 (k + 1) S2 (by omega) hf2 (fun w hw => ?_)
            rw [hg2 w hw]
            try dsimp only
            congr 2
            by_cases q : w < rWd r ∧ rFd r w = g + 1
            · rw [if_pos q, if_pos q]
              show _ = nSum _ k + (if rFd r k + 1 = g + 1 then _ else 0)
              by_cases q3 : rFd r k + 1 = g + 1
              · rw [if_pos q3, e (by omega), if_neg (by decide), Nat.zero_mul, Nat.zero_div]
                rfl
              · rw [if_neg q3]
                rfl
            · rw [if_neg q, if_neg q]
          refine bM_sharesOut_30 ?_
          rw [c1, hR2.1.2.1, nI_clamp (by omega), hR2.1.2.2.2.2.2.1 k (by omega), nI_eq (by omega) (by omega), nI_1 k, nI_1 g]
          refine ⟨vin (by decide), fun q => absurd q (nI_ge (by omega) (by omega)), fun _ => ⟨nI_in (by omega) (by decide), fun e => skip (fun q => absurd q e), fun e => ?_⟩⟩
          rw [← e]
          refine wM_goesOnAt (d := d + 5) (onk S2 hf2) hok (by omega) (by omega) ?_
          rw [e]
          cases hp : PO r onl k with
          | false => exact ⟨fun _ => skip (fun _ => hp), fun q => absurd rfl q⟩
          | true =>
            refine ⟨fun q => absurd q (by decide), fun _ => ⟨nI_in (by omega) (by decide), nI_in (by omega) (by decide), ?_⟩⟩
            rw [hg2 k (by omega), hR2.1.2.2.2.2.2.2.2.1 k (by omega)]
            try dsimp only
            rw [if_neg (fun q => by omega), Nat.add_zero, h1 k (by omega) e]
            have hsl := shv_le (r := r) (z := z) (s := s) (P := PO r onl) (f0 := f) (a0 := a) (k := g - f) (w := k) (by omega) (by omega)
            refine wM_sharesFrom (d := d) hr hz hR2 (sm_st hs hf2) hs20 (by omega) (by omega) hg2 (fun S3 hf3 hg3 => ?_)
            refine ih2 (k + 1) S3 (by omega) (hf2.tr hf3) (fun w hw => ?_)
            rw [hg3 w hw]
            try dsimp only
            congr 1
            by_cases q : w < rWd r ∧ rFd r w = g + 1
            · rw [if_pos q, if_pos q, if_pos q, Nat.add_assoc]
              congr 1
              show _ = nSum _ k + (if rFd r k + 1 = g + 1 then _ else 0)
              rw [if_pos (by omega), hp, if_pos rfl]
              rfl
            · rw [if_neg q, if_neg q, if_neg q]
      refine k30 (rWd r) 0 S1 (by omega) hf1 (fun w hw => ?_)
      rw [hh w hw]
      try dsimp only
      congr 1
      by_cases q : w < rWd r ∧ rFd r w = g + 1
      · rw [if_pos q]; rfl
      · rw [if_neg q]; rfl
  refine mM_sharesOut ?_
  have k2 : ∀ m k S1, k + m = 12 → frM smC nF S S1 → (∀ w, w < k → ga S1 1039 w = nI 0) → aBM (d + 6) 84 Q 2 [some (.ref 1000), some (.int (nI f)), some (.int (nI s)), some (.int (nI a)), some (.int (nI k)), none, none] [] S1 := by
    intro m
    induction m with
    | zero =>
      intro k S1 hk hf1 hz1
      obtain rfl : k = 12 := by omega
      refine bM_sharesOut_2 ⟨fun _ => wM_sharesFrom (m := 1000000) (h := fun _ => 0) hr hz (sm_rm hR hf1) (sm_st hs hf1) hs20 (by omega) (by decide) hz1 (fun S2 hf2 hh2 => ?_), fun q => absurd (show (12 : Int32) ≤ nI 12 by decide) q⟩
      refine k20 (rFo r - (f + 1)) f S2 _ (by omega) (Nat.le_refl _) (hf1.tr hf2) hh2 (fun w hw hfw => ?_) (fun w hw hfw => ?_)
      · try dsimp only
        rw [if_pos ⟨hw, hfw⟩, Nat.zero_add, Nat.sub_self]
        rfl
      · try dsimp only
        rw [if_neg (fun q => by omega)]
    | succ m ih =>
      intro k S1 hk hf1 hz1
      refine bM_sharesOut_2 ⟨fun q => absurd q (nI_ge (a := k) (b := 12) (by omega) (by decide)), fun _ => ⟨nI_in (by omega) (by decide), ?_⟩⟩
      rw [nI_clamp (by omega), nI_1]
      refine ih (k + 1) _ (by omega) (hf1.tr (frM_sa (Or.inr rfl))) (fun w hw => ?_)
      rw [ga_sa]
      by_cases q : w = k
      · rw [if_pos ⟨rfl, q⟩]; rfl
      · rw [if_neg (fun e => q e.2)]
        exact hz1 w (by omega)
  exact k2 12 0 S rfl frM.rf (fun w hw => absurd hw (Nat.not_lt_zero _))
theorem wM_noneOnly (hx : ∀ S', frM (fun i => i = 1040) nF S S' → onM (fun _ => none) S' → Q .null S') : aWM (d + 1) 81 [.ref 1000] S Q := by
  refine mM_noneOnly ?_
  have loop : ∀ m k S1, k + m = 4 → frM (fun i => i = 1040) nF S S1 → (∀ w, w < k → ga S1 1040 w = -1) → aBM d 81 Q 2 [some (.ref 1000), some (.int (nI k))] [] S1 := by
    intro m
    induction m with
    | zero =>
      intro k S1 hk hf hz
      obtain rfl : k = 4 := by omega
      exact bM_noneOnly_2 ⟨fun _ => hx S1 hf (fun f hf => hz f hf), fun q => absurd (show (4 : Int32) ≤ nI 4 by decide) q⟩
    | succ m ih =>
      intro k S1 hk hf hz
      refine bM_noneOnly_2 ⟨fun q => absurd q (nI_ge (a := k) (b := 4) (by omega) (by decide)), fun _ => ⟨nI_in (by omega) (by decide), ?_⟩⟩
      rw [nI_clamp (by omega), nI_1]
      refine ih (k + 1) _ (by omega) (hf.tr (frM_sa rfl)) (fun w hw => ?_)
      rw [ga_sa]
      by_cases q : w = k
      · rw [if_pos ⟨rfl, q⟩]
      · rw [if_neg (fun e => q e.2)]
        exact hz w (by omega)
  exact loop 4 0 S rfl frM.rf (fun w hw => absurd hw (Nat.not_lt_zero _))
end
