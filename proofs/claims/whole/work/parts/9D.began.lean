/-! ties: began, sure, ask -/
def onR (r : zR) (rd : List Nat) : Nat → Option Nat := fun f => rd.find? fun w => decide (rFd r w = f)
def consR (r : zR) (rd : List Nat) : Prop := ∀ u, u ∈ rd → ∀ w, w ∈ rd → rFd r u = rFd r w → u = w
theorem onR_some {r : zR} {rd : List Nat} {f v : Nat} (h : onR r rd f = some v) : v ∈ rd ∧ rFd r v = f := ⟨List.mem_of_find?_eq_some h, of_decide_eq_true (List.find?_some (p := fun w => decide (rFd r w = f)) h)⟩
theorem onR_none {r : zR} {rd : List Nat} {f : Nat} (h : onR r rd f = none) : ∀ w, w ∈ rd → ¬ rFd r w = f := fun w hw q => by
  have := List.find?_eq_none.mp h w hw
  rw [decide_eq_true q] at this
  exact this rfl
theorem PB_cap {r : zR} {rd : List Nat} {b u : Nat} (hb : rdB rd b) (i : Nat) : (b &&& bFo r (rFd r u) (rWd r)).testBit i = (decide (i ∈ rd) && (decide (i < rWd r) && decide (rFd r i = rFd r u))) := by rw [Nat.testBit_and, hb.2, bFo_bit]
theorem PB_one {r : zR} {n u a : Nat} (hb : ∀ i, (n &&& bFo r (rFd r u) (rWd r)).testBit i = decide (a = i)) : PB r n u = decide (a = u) := by
  have e : n &&& bFo r (rFd r u) (rWd r) = 2 ^ a := Nat.eq_of_testBit_eq (fun i => by rw [hb, Nat.testBit_two_pow])
  unfold PB
  rw [e, decide_eq_false (Nat.pos_iff_ne_zero.mp (Nat.two_pow_pos a)), Bool.false_or]
  by_cases c : a = u
  · subst c
    rw [decide_eq_true rfl, decide_eq_true rfl]
  · rw [decide_eq_false c, decide_eq_false (fun q => c ((Nat.pow_right_inj (by decide)).mp q))]
theorem PB_cons {r : zR} {rd : List Nat} {b : Nat} (hd : okD r rd) (hb : rdB rd b) (hc : consR r rd) (u : Nat) : PB r b u = PO r (onR r rd) u := by
  unfold PO
  cases e : onR r rd (rFd r u) with
  | none =>
    have h0 : b &&& bFo r (rFd r u) (rWd r) = 0 := Nat.eq_of_testBit_eq (fun i => by
      rw [PB_cap hb, Nat.zero_testBit]
      by_cases q : i ∈ rd
      · rw [decide_eq_false (onR_none e i q), Bool.and_false, Bool.and_false]
      · rw [decide_eq_false q, Bool.false_and])
    unfold PB
    rw [h0, decide_eq_true rfl]
    rfl
  | some v =>
    obtain ⟨v1, v2⟩ := onR_some e
    refine PB_one (fun i => ?_)
    rw [PB_cap hb]
    by_cases q : v = i
    · subst q
      rw [decide_eq_true v1, decide_eq_true (hd.2 v v1).1, decide_eq_true v2, decide_eq_true rfl]
      rfl
    · rw [decide_eq_false q]
      by_cases q2 : i ∈ rd
      · rw [decide_eq_false (show ¬ rFd r i = rFd r u from fun q3 => q (hc v v1 i q2 (by omega))), Bool.and_false, Bool.and_false]
      · rw [decide_eq_false q2, Bool.false_and]
theorem shF_zero {r : zR} {z : zS} {s : Nat} {P : Nat → Bool} {f : Nat} (hf : f < rFo r) (hP : ∀ u, u < rWd r → rFd r u = f → P u = false) : shF r z s P 0 0 = 0 := by
  have key : ∀ k, f < k → ∀ w, shv r z s P 0 0 k w = 0 := by
    intro k
    induction k with
    | zero => intro h; exact absurd h (Nat.not_lt_zero _)
    | succ k ih =>
      intro hk w
      show shS r z s (0 + k + 1) _ w = 0
      unfold shS
      have := nSum_le (f := fun v => if rFd r v + 1 = 0 + k + 1 then (fun v => if P v = true then shv r z s P 0 0 k v else 0) v * lkV r (wWho r s (0 + k + 1)) (zLe z w) w (rGo r v) / alV r z (wWho r s (0 + k + 1)) (0 + k + 1) (rGo r v) else 0) (m := 0) (rWd r) (fun v hv => by
        dsimp only
        by_cases c : rFd r v + 1 = 0 + k + 1
        · rw [if_pos c]
          have : (if P v = true then shv r z s P 0 0 k v else 0) = 0 := by
            rcases Nat.lt_or_ge f k with q | q
            · rw [ih q v]
              split <;> rfl
            · rw [hP v hv (by omega), if_neg (by decide)]
          rw [this, Nat.zero_mul, Nat.zero_div]
          exact Nat.le_refl _
        · rw [if_neg c]
          exact Nat.le_refl _)
      omega
  unfold shF
  have := nSum_le (f := fun w => if rFd r w + 1 = rFo r ∧ P w = true then shv r z s P 0 0 (rFo r - 1 - 0) w else 0) (m := 0) (rWd r) (fun w hw => by
    by_cases c : rFd r w + 1 = rFo r ∧ P w = true
    · rw [if_pos c]
      rcases Nat.lt_or_ge f (rFo r - 1) with q | q
      · rw [key _ (by omega) w]
        exact Nat.le_refl _
      · have := hP w hw (by omega)
        rw [c.2] at this
        cases this
    · rw [if_neg c]
      exact Nat.le_refl _)
  omega
theorem shF_bad {r : zR} {z : zS} {s : Nat} {rd : List Nat} {b : Nat} (hd : okD r rd) (hb : rdB rd b) (hc : ¬ consR r rd) : shF r z s (PB r b) 0 0 = 0 := by
  have : ∃ u, u ∈ rd ∧ ∃ w, w ∈ rd ∧ rFd r u = rFd r w ∧ u ≠ w := Classical.byContradiction (fun q => hc (fun u hu w hw e => Classical.byContradiction (fun q2 => q ⟨u, hu, w, hw, e, q2⟩)))
  obtain ⟨a, ha, c, hc2, e, hne⟩ := this
  refine shF_zero (f := rFd r a) (hd.2 a ha).2 (fun u hu hfu => ?_)
  have ba : (b &&& bFo r (rFd r u) (rWd r)).testBit a = true := by rw [PB_cap hb, decide_eq_true ha, decide_eq_true (hd.2 a ha).1, decide_eq_true (by omega)]; rfl
  have bc : (b &&& bFo r (rFd r u) (rWd r)).testBit c = true := by rw [PB_cap hb, decide_eq_true hc2, decide_eq_true (hd.2 c hc2).1, decide_eq_true (by omega)]; rfl
  unfold PB
  rw [decide_eq_false (fun q => by rw [q, Nat.zero_testBit] at ba; cases ba), Bool.false_or]
  refine decide_eq_false (fun q => ?_)
  rw [q, Nat.testBit_two_pow, decide_eq_true_eq] at ba bc
  omega
section
variable {d : Nat} {Q : Value → aS → Prop} {S : aS} {r : zR} {z : zS} {rd : List Nat}
theorem wM_laysOnly (hr : okR r) (hR : RM r S) (hd : okD r rd) (hrd : rdM rd S 0) (h1 : consR r rd → ∀ S', frM (fun i => i = 1040) nF S S' → onM (onR r rd) S' → Q (.int 1) S') (h0 : ¬ consR r rd → ∀ S', frM (fun i => i = 1040) nF S S' → Q (.int 0) S') : aWM (d + 2) 90 [.ref 1000] S Q := by
  have hwd := hr.2.1
  have hfo := hr.2.2.1.2
  refine mM_laysOnly (wM_noneOnly (fun S1 hf1 hon1 => ?_))
  have loop : ∀ m k S2, k + m = rd.length → frM (fun i => i = 1040) nF S S2 → consR r (rd.take k) → onM (onR r (rd.take k)) S2 → aBM (d + 1) 90 Q 4 [some (.ref 1000), some (.int (nI k)), none] [] S2 := by
    intro m
    induction m with
    | zero =>
      intro k S2 hk hf2 hc hon
      have e30 : ga S2 1030 0 = nI rd.length := (hf2.1 1030 0 (by omega)).trans hrd.1
      rw [List.take_of_length_le (by omega)] at hc hon
      refine bM_laysOnly_4 ?_
      rw [c0, e30]
      exact ⟨vin (by decide), fun _ => ⟨Or.inr rfl, h1 hc S2 hf2 hon⟩, fun q => absurd (nI_le (by omega) (by have := hd.1; omega)) q⟩
    | succ m ih =>
      intro k S2 hk hf2 hc hon
      have h8 := hd.1
      have e30 : ga S2 1030 0 = nI rd.length := (hf2.1 1030 0 (by omega)).trans hrd.1
      obtain ⟨w, hw⟩ : ∃ w, rd[k]? = some w := ⟨rd[k]'(by omega), List.getElem?_eq_getElem (by omega)⟩
      have hwm := List.mem_of_getElem? hw
      obtain ⟨hw1, hw2⟩ := hd.2 w hwm
      have e31 : ga S2 1031 k = nI w := by
        have := hrd.2 k w hw
        rw [Nat.mul_zero, Nat.zero_add] at this
        exact (hf2.1 1031 k (by omega)).trans this
      have hR2 := hR.kept hf2 (fun i hi => by omega)
      have e6 : ga S2 1006 w = nI (rFd r w) := hR2.1.2.2.2.2.2.1 w hw1
      have ht : rd.take (k + 1) = rd.take k ++ [w] := by rw [List.take_add_one, hw]; rfl
      have i24 : vp_in (nI w) 24 := nI_in (by omega) (by decide)
      have i4 : vp_in (nI (rFd r w)) 4 := nI_in (by omega) (by decide)
      refine bM_laysOnly_4 ?_
      rw [c0, e30, nI_clamp (show k < 2 ^ 31 by omega), e31, nI_clamp (show w < 2 ^ 31 by omega), e6, nI_clamp (show rFd r w < 2 ^ 31 by omega), hon _ (by omega), nI_1]
      have go : (∀ v, onR r (rd.take k) (rFd r w) = some v → v = w) → aBM (d + 1) 90 Q 4 [some (.ref 1000), some (.int (nI (k + 1))), none] [] (sa S2 1040 (rFd r w) (nI w)) := by
        intro hv
        refine ih (k + 1) _ (by omega) (hf2.tr (frM_sa rfl)) ?_ ?_
        · have same : ∀ u, u ∈ rd.take k → rFd r u = rFd r w → u = w := by
            intro u hu e
            cases eo : onR r (rd.take k) (rFd r w) with
            | none => exact absurd e (onR_none eo u hu)
            | some v =>
              obtain ⟨v1, v2⟩ := onR_some eo
              rw [← hv v eo]
              exact hc u hu v v1 (by omega)
          rw [ht]
          intro u hu v hv2 e
          rcases List.mem_append.mp hu with q | q
          · rcases List.mem_append.mp hv2 with q2 | q2
            · exact hc u q v q2 e
            · rw [List.mem_singleton.mp q2] at e ⊢
              exact same u q e
          · rw [List.mem_singleton.mp q] at e ⊢
            rcases List.mem_append.mp hv2 with q2 | q2
            · exact (same v q2 e.symm).symm
            · exact (List.mem_singleton.mp q2).symm
        · intro f hf
          rw [ht, ga_sa]
          unfold onR
          rw [List.find?_append]
          have hs : ([w].find? fun v => decide (rFd r v = f)) = if rFd r w = f then some w else none := by
            by_cases q : rFd r w = f
            · rw [if_pos q, List.find?_cons_of_pos (by rw [decide_eq_true q])]
            · rw [if_neg q, List.find?_cons_of_neg (by rw [decide_eq_false q]; decide)]
              rfl
          rw [hs]
          by_cases q : f = rFd r w
          · subst q
            rw [if_pos ⟨rfl, rfl⟩, if_pos rfl]
            cases eo : onR r (rd.take k) (rFd r w) with
            | none =>
              unfold onR at eo
              rw [eo]
              rfl
            | some v =>
              have := hv v eo
              unfold onR at eo
              rw [eo, this]
              rfl
          · rw [if_neg (fun e => q e.2), if_neg (fun e => q e.symm), Option.or_none]
            exact hon f hf
      refine ⟨vin (by decide), fun q => absurd q (nI_ge (by omega) (by omega)), fun _ => ⟨nI_in (by omega) (by decide), i24, i4, ?_⟩⟩
      cases eo : onR r (rd.take k) (rFd r w) with
      | none => exact ⟨fun _ => ⟨i24, i4, go (fun v hv => by rw [eo] at hv; cases hv)⟩, fun q => absurd (by decide) q⟩
      | some v =>
        obtain ⟨v1, v2⟩ := onR_some eo
        have hvm := List.mem_of_mem_take v1
        have hv12 := (hd.2 v hvm).1
        refine ⟨fun q => absurd q (nI_pos (show v < 2 ^ 31 by omega)), fun _ => ⟨i24, i4, fun q => ⟨i24, i4, go (fun v' hv' => ?_)⟩, fun q => ⟨Or.inl rfl, h0 (fun hcc => q ?_) S2 hf2⟩⟩⟩
        · rw [eo] at hv'
          cases hv'
          exact (nI_eq (by omega) (by omega)).mp q
        · rw [hcc v hvm w hwm v2]
          rfl
  refine loop rd.length 0 S1 (by omega) hf1 (fun u hu => by cases hu) ?_
  exact hon1
end
def bgF (r : zR) (z : zS) (b k : Nat) : Nat := shF r z k (PB r b) 0 0
def bgV (r : zR) (z : zS) (b : Nat) : Nat → Nat
  | 0 => 0
  | k + 1 => if 0 < bgF r z b k then bgV r z b k ||| 2 ^ k else bgV r z b k
theorem bgV_bit (r : zR) (z : zS) (b : Nat) : ∀ k w, (bgV r z b k).testBit w = (decide (w < k) && decide (0 < bgF r z b w))
  | 0, w => by
    show (0 : Nat).testBit w = _
    rw [Nat.zero_testBit, decide_eq_false (Nat.not_lt_zero w), Bool.false_and]
  | k + 1, w => by
    unfold bgV
    by_cases c : 0 < bgF r z b k
    · rw [if_pos c, Nat.testBit_or, bgV_bit r z b k w, Nat.testBit_two_pow]
      by_cases e : k = w
      · subst e
        rw [decide_eq_true rfl, decide_eq_true (Nat.lt_succ_self k), decide_eq_true c, Bool.or_true]
        rfl
      · rw [decide_eq_false e, Bool.or_false]
        congr 1
        exact decide_eq_decide.mpr (by omega)
    · rw [if_neg c, bgV_bit r z b k w]
      by_cases e : k = w
      · subst e
        rw [decide_eq_false c, Bool.and_false, Bool.and_false]
      · congr 1
        exact decide_eq_decide.mpr (by omega)
theorem bgV_lt (r : zR) (z : zS) (b k : Nat) : bgV r z b k < 2 ^ k := Nat.lt_pow_two_of_testBit _ (fun j hj => by rw [bgV_bit, decide_eq_false (by omega), Bool.false_and])
theorem bgF_le {r : zR} (hr : okR r) (z : zS) (b k : Nat) : bgF r z b k ≤ 1000000 := shF_le hr z k _ (by have := hr.2.2.1; omega)
def beC (i : Nat) : Prop := soC i ∨ i = 126
theorem beC_sc : ∀ i, beC i → scX i := fun i q => q.elim (soC_sc i) (fun e => Or.inr (by omega))
theorem beC_rc {t : Nat} (hT : isT t) : ∀ i, rcX t i → ¬ beC i := fun i hi q => q.elim (soC_rc hT i hi) (fun e => by
  unfold rcX at hi
  rcases hT with rfl | rfl <;> omega)
theorem beC_st : ∀ i, stC 41 i → ¬ beC i := fun i hi q => q.elim (soC_st stG_41 i hi) (fun e => by
  have := stC_41.mp hi
  omega)
theorem beC_40 : ¬ beC 40 := by unfold beC soC oC scE; omega
def bmC (i : Nat) : Prop := smC i ∨ i = 1040
section
variable {d : Nat} {Q : Value → aS → Prop} {S : aS} {r : zR} {z : zS} {rd : List Nat} {t b : Nat}
theorem wX_began (hr : okR r) (hz : okZ r z) (hT : isT t) (hg : gr S 0 2 = t) (hR : RX r S t) (hs : stX r z S 41) (hb : b < 4096) (h40 : gi S 40 3 = nI b) (hx : ∀ S', frY beC S S' → (∀ k, k < rWr r → ga S' 126 k = nI (bgF r z b k)) → Q (.int (nI (bgV r z b (rWr r)))) S') : aWX (d + 8) 140 [.ref 0] S Q := by
  have hwr := hr.1
  refine mX_FoldedRealm_began ?_
  have loop : ∀ m k S1, k + m = rWr r → frY beC S S1 → (∀ j, j < k → ga S1 126 j = nI (bgF r z b j)) → aBX (d + 7) 140 Q 4 [some (.ref 0), some (.int (nI (bgV r z b k))), some (.int (nI k))] [] S1 := by
    intro m
    induction m with
    | zero =>
      intro k S1 hk hf1 hF
      have hR1 := hR.kept hT hf1 (beC_rc hT)
      obtain rfl : k = rWr r := by omega
      refine bX_FoldedRealm_began_4 ?_
      rw [hf1.gr, hg, hR1.1.1]
      exact gK_ok hT.re.1 ⟨fun _ => hx S1 hf1 hF, fun q => absurd (nI_le (Nat.le_refl _) (by omega)) q⟩
    | succ m ih =>
      intro k S1 hk hf1 hF
      have hR1 := hR.kept hT hf1 (beC_rc hT)
      have hs1 := hs.keptY hf1 beC_st
      have hg1 : gr S1 0 2 = t := (hf1.gr 0 2).trans hg
      have hle := bgF_le hr z b k
      have ih := ih (k + 1)
      unfold bgV at ih
      refine bX_FoldedRealm_began_4 ?_
      rw [hg1, hR1.1.1, (hf1.1 40 3 beC_40).1, h40]
      refine gK_ok hT.re.1 ⟨fun q => absurd q (nI_ge (by omega) (by omega)), fun _ => ⟨fun q => absurd q (nI_ge (a := k) (b := 5) (by omega) (by decide)), fun _ => wX_sharedBy hr hz hT hg1 hR1 hs1 (by omega) hb (fun S2 hf2 => ⟨nI_in (by omega) (by decide), nI_in (by omega) (by decide), ?_⟩)⟩⟩
      have hF2 : ∀ j, j < k + 1 → ga (sa S2 126 k (nI (bgF r z b k))) 126 j = nI (bgF r z b j) := fun j hj => by
        rw [ga_sa]
        by_cases q : j = k
        · rw [if_pos ⟨rfl, q⟩, q]
        · rw [if_neg (fun e => q e.2), (hf2.1 126 j (by unfold soC oC scE; omega)).2.1]
          exact hF j (by omega)
      have ih := ih (sa S2 126 k (nI (bgF r z b k))) (by omega) ((hf1.tr (hf2.le (fun _ q => Or.inl q))).tr (frY_sa (Or.inr rfl))) hF2
      rw [nI_clamp (by omega), show shF r z k (PB r b) 0 0 = bgF r z b k from rfl, hF2 k (by omega), nI_le0 (by omega), (smod12 k (by omega)).2, nI_orN, nI_1]
      refine ⟨fun q => ?_, fun q => ?_⟩
      · rw [if_neg (by omega)] at ih; exact ih
      · rw [if_pos (by omega)] at ih; exact ih
  exact loop (rWr r) 0 S (by omega) frY.rf (fun j hj => absurd hj (Nat.not_lt_zero _))
/-- one seat: what comes by what was read -/
theorem wM_seat {k : Nat} {X : Int32 → aS → Prop} (hr : okR r) (hz : okZ r z) (hR : RM r S) (hs : stM r z (ga S 1032) 0) (hd : okD r rd) (hrd : rdM rd S 0) (hb : rdB rd b) (hk : k < 2 ^ 30) {Y : aS → Prop} (h0 : bgF r z b k = 0 → ∀ S', frM bmC nF S S' → Y S') (h1 : ∀ S', frM bmC nF S S' → X (nI (bgF r z b k)) S') : aWM (d + 9) 90 [.ref 1000] S (fun v1 S2 => aI v1 (fun x3 => (x3 = 0 → Y S2) ∧ (¬ x3 = 0 → aWM (d + 9) 84 [.ref 1000, .int 0, .int (nI k), .int 0] S2 (fun v4 S5 => aI v4 (fun x6 => X x6 S5))))) := by
  have hfo := hr.2.2.1
  have hwd := hr.2.1
  refine wM_laysOnly (d := d + 7) hr hR hd hrd (fun hc S1 hf1 hon => ⟨fun q => absurd q (by decide), fun _ => ?_⟩) (fun hc S1 hf1 => ⟨fun _ => h0 (shF_bad hd hb hc) S1 (hf1.le (fun _ q => Or.inr q) (fun _ q => q)), fun q => absurd rfl q⟩)
  have hs1 : stM r z (ga S1 1032) 0 := by
    rw [show ga S1 1032 = ga S 1032 from funext fun j => hf1.1 1032 j (by omega)]
    exact hs
  refine wM_sharesOut (d := d + 2) (f := 0) (a := 0) (onl := onR r rd) hr hz (hR.kept hf1 (fun i hi => by omega)) hs1 hk (by omega) hon (fun f v hv => by have := (hd.2 v (onR_some hv).1).1; omega) (fun S2 hh hf2 hh2 hl => ?_)
  have e : shF r z k (PO r (onR r rd)) 0 0 = bgF r z b k := (shF_P (fun u hu => (PB_cons hd hb hc u).symm) (fun f => rfl))
  rw [e]
  exact h1 S2 ((hf1.le (fun _ q => Or.inr q) (fun _ q => q)).tr (hf2.le (fun _ q => Or.inl q) (fun _ q => q)))
theorem bm_st {S' : aS} (hs : stM r z (ga S 1032) 0) (hf : frM bmC nF S S') : stM r z (ga S' 1032) 0 := by
  rw [show ga S' 1032 = ga S 1032 from funext fun j => hf.1 1032 j (by unfold bmC smC eC; omega)]
  exact hs
theorem bm_rm {S' : aS} (hR : RM r S) (hf : frM bmC nF S S') : RM r S' := hR.kept hf (fun i hi => by unfold bmC smC eC at hi; omega)
theorem bm_rd {S' : aS} (hrd : rdM rd S 0) (hf : frM bmC nF S S') : rdM rd S' 0 := hrd.kept (fun i a b k => hf.1 i k (by unfold bmC smC eC; omega))
theorem wM_beganBy (hr : okR r) (hz : okZ r z) (hR : RM r S) (hs : stM r z (ga S 1032) 0) (hd : okD r rd) (hrd : rdM rd S 0) (hb : rdB rd b) (hx : ∀ S', frM bmC nF S S' → Q (.int (nI (bgV r z b (rWr r)))) S') : aWM (d + 10) 91 [.ref 1000] S Q := by
  have hwr := hr.1
  refine mM_beganBy ?_
  have loop : ∀ m k S1, k + m = rWr r → frM bmC nF S S1 → aBM (d + 9) 91 Q 4 [some (.ref 1000), some (.int (nI (bgV r z b k))), some (.int (nI k))] [] S1 := by
    intro m
    induction m with
    | zero =>
      intro k S1 hk hf1
      have hR1 := bm_rm hR hf1
      obtain rfl : k = rWr r := by omega
      refine bM_beganBy_4 ?_
      rw [c0, hR1.1.1]
      exact ⟨vin (by decide), fun _ => hx S1 hf1, fun q => absurd (nI_le (Nat.le_refl _) (by omega)) q⟩
    | succ m ih =>
      intro k S1 hk hf1
      have hR1 := bm_rm hR hf1
      have hle := bgF_le hr z b k
      have ih := ih (k + 1)
      unfold bgV at ih
      have e0 : nI (bgV r z b k) ||| 0 = nI (bgV r z b k) := by
        rw [show (0 : Int32) = nI 0 from rfl, nI_orN, Nat.or_zero]
      refine bM_beganBy_4 ?_
      rw [c0, hR1.1.1, e0, (smod12 k (by omega)).2, nI_orN, nI_1]
      refine ⟨vin (by decide), fun q => absurd q (nI_ge (by omega) (by omega)), fun _ => wM_seat (d := d) (X := fun x6 S5 => (x6 ≤ 0 → aBM (d + 9) 91 Q 4 [some (.ref 1000), some (.int (nI (bgV r z b k))), some (.int (nI (k + 1)))] [] S5) ∧ (¬ x6 ≤ 0 → aBM (d + 9) 91 Q 4 [some (.ref 1000), some (.int (nI (bgV r z b k ||| 2 ^ k))), some (.int (nI (k + 1)))] [] S5)) hr hz hR1 (bm_st hs hf1) hd (bm_rd hrd hf1) hb (by omega) (fun e S2 hf2 => ?_) (fun S2 hf2 => ?_)⟩
      · have ih := ih S2 (by omega) (hf1.tr hf2)
        rw [if_neg (by omega)] at ih
        exact ih
      · have ih := ih S2 (by omega) (hf1.tr hf2)
        rw [nI_le0 (by omega)]
        refine ⟨fun q => ?_, fun q => ?_⟩
        · rw [if_neg (by omega)] at ih; exact ih
        · rw [if_pos (by omega)] at ih; exact ih
  exact loop (rWr r) 0 S (by omega) frM.rf
end
theorem frM_bm {S S' : aS} (hf : frM bmC nF S S') : frM scM scF S S' ∧ ∀ k, k < 60 → ga S' 1032 k = ga S 1032 k := ⟨hf.le (fun i hi => by unfold bmC smC eC at hi; unfold scM; omega) (fun _ q => q.elim), fun k _ => hf.1 1032 k (by unfold bmC smC eC; omega)⟩
/-- the bits that are read are given by what is read -/
theorem rdB_one {rd : List Nat} {b c : Nat} (h : rdB rd b) (h2 : rdB rd c) : b = c := Nat.eq_of_testBit_eq (fun i => by rw [h.2, h2.2])
theorem rdB_ex (r : zR) {rd : List Nat} (hr : okR r) (hd : okD r rd) : ∃ b, rdB rd b := by
  have key : ∀ l : List Nat, (∀ w, w ∈ l → w < 12) → ∃ b, rdB l b := by
    intro l
    induction l with
    | nil => intro _; exact ⟨0, by decide, fun w => by rw [Nat.zero_testBit]; rfl⟩
    | cons x l ih =>
      intro h
      obtain ⟨b, hb⟩ := ih (fun w hw => h w (List.mem_cons_of_mem _ hw))
      have hx := h x List.mem_cons_self
      have := rdB_add hb hx
      refine ⟨b ||| 2 ^ x, this.1, fun w => ?_⟩
      rw [this.2 w]
      exact decide_eq_decide.mpr (by rw [List.mem_append, List.mem_singleton, List.mem_cons]; exact Or.comm)
  have := hr.2.1
  exact key rd (fun w hw => by have := (hd.2 w hw).1; omega)
theorem tie_began : ok_began Rel := by
  refine tie_q (fun g t ok hT => ?_)
  obtain ⟨okr, okn, ⟨okz, okl, okd⟩, okt⟩ := id ok
  obtain ⟨b, hb⟩ := rdB_ex g.1 okr okd
  refine ⟨nI (bgV g.1 g.2.1.1 b (rWr g.1)), fun S Q h hx => ?_, fun S Q h hx => ?_⟩
  · obtain ⟨b', hb', e⟩ := h.2.2.1.2.2.2
    rw [← rdB_one hb hb'] at e
    exact wX_began (d := 92) okr okz hT h.1.2.1 h.2.1 h.2.2.1.1 hb.1 e (fun S1 hf1 _ => hx S1 (hf1.le beC_sc))
  · have h' := MM_0 ok h
    exact mM_began (d := 99) (wM_beganBy (d := 89) okr okz h'.1 h'.2.1.1 okd h'.2.1.2.2 hb (fun S1 hf1 => hx S1 (frM_0.tr (frM_bm hf1).1) (fun k hk => (frM_bm hf1).2 k hk)))
def suS (r : zR) (z : zS) (b : Nat) : Nat → Option Nat × Nat
  | 0 => (none, 0)
  | k + 1 => if bgF r z b k ≤ (suS r z b k).2 then suS r z b k else (some k, bgF r z b k)
theorem suS_le {r : zR} (hr : okR r) (z : zS) (b : Nat) : ∀ k, (suS r z b k).2 ≤ 1000000
  | 0 => Nat.zero_le _
  | k + 1 => by
    unfold suS
    split
    · exact suS_le hr z b k
    · exact bgF_le hr z b k
theorem tie_sure : ok_sure Rel := by
  refine tie_q (fun g t ok hT => ?_)
  obtain ⟨okr, okn, ⟨okz, okl, okd⟩, okt⟩ := id ok
  obtain ⟨b, hb⟩ := rdB_ex g.1 okr okd
  have hwr := okr.1
  refine ⟨wsI (suS g.1 g.2.1.1 b (rWr g.1)).1, fun S Q h hx => ?_, fun S Q h hx => ?_⟩
  · obtain ⟨b', hb', e⟩ := h.2.2.1.2.2.2
    rw [← rdB_one hb hb'] at e
    refine mX_FoldedRealm_sure (d := 99) (wX_began (d := 91) okr okz hT h.1.2.1 h.2.1 h.2.2.1.1 hb.1 e (fun S1 hf1 hF => ?_))
    have hR1 := h.2.1.kept hT hf1 (beC_rc hT)
    have hbl := bgV_lt g.1 g.2.1.1 b (rWr g.1)
    have hb31 : bgV g.1 g.2.1.1 b (rWr g.1) < 2 ^ 31 := Nat.lt_of_lt_of_le hbl (Nat.pow_le_pow_right (by decide) (by omega))
    have loop : ∀ m k, k + m = rWr g.1 → aBX 99 141 Q 9 [some (.ref 0), some (.int (nI (bgV g.1 g.2.1.1 b (rWr g.1)))), some (.int (wsI (suS g.1 g.2.1.1 b k).1)), some (.int (nI (suS g.1 g.2.1.1 b k).2)), some (.int (nI k))] [] S1 := by
      intro m
      induction m with
      | zero =>
        intro k hk
        obtain rfl : k = rWr g.1 := by omega
        refine bX_FoldedRealm_sure_9 ?_
        rw [hf1.gr, h.1.2.1, hR1.1.1]
        exact gK_ok hT.re.1 ⟨fun _ => hx S1 (hf1.le beC_sc), fun q => absurd (nI_le (Nat.le_refl _) (by omega)) q⟩
      | succ m ih =>
        intro k hk
        have ih := ih (k + 1) (by omega)
        unfold suS at ih
        have h1 := bgF_le okr g.2.1.1 b k
        have h2 := suS_le okr g.2.1.1 b k
        have i5 : vp_in (nI k) 5 := nI_in (by omega) (by decide)
        refine bX_FoldedRealm_sure_9 ?_
        rw [hf1.gr, h.1.2.1, hR1.1.1, bitAt hb31 (by omega), bgV_bit, decide_eq_true (show k < rWr g.1 by omega), Bool.true_and, nI_clamp (by omega), hF k (by omega), nI_leI (show bgF g.1 g.2.1.1 b k < 2 ^ 31 by omega) (by omega), nI_1]
        refine gK_ok hT.re.1 ⟨fun q => absurd q (nI_ge (by omega) (by omega)), fun _ => ⟨fun q => absurd q (nI_ge (a := k) (b := 5) (by omega) (by decide)), fun _ => ?_⟩⟩
        by_cases c : 0 < bgF g.1 g.2.1.1 b k
        · rw [decide_eq_true c, if_pos rfl]
          refine ⟨fun q => absurd rfl q, fun _ => ⟨i5, fun q => ?_, fun q => ⟨i5, ?_⟩⟩⟩
          · rw [if_pos q] at ih; exact ih
          · rw [if_neg q] at ih; exact ih
        · rw [decide_eq_false c, if_neg (by decide)]
          rw [if_pos (by omega)] at ih
          exact ⟨fun _ => ih, fun q => absurd q (by decide)⟩
    exact loop (rWr g.1) 0 (by omega)
  · have h' := MM_0 ok h
    have hx2 : ∀ S', frM bmC nF (si S 1000 0 0) S' → Q (.int (wsI (suS g.1 g.2.1.1 b (rWr g.1)).1)) S' := fun S' hf => hx S' (frM_0.tr (frM_bm hf).1) (fun k hk => (frM_bm hf).2 k hk)
    refine mM_sure (d := 99) ?_
    generalize si S 1000 0 0 = S0 at *
    have loop : ∀ m k S1, k + m = rWr g.1 → frM bmC nF S0 S1 → aBM 99 93 Q 9 [some (.ref 1000), some (.int (wsI (suS g.1 g.2.1.1 b k).1)), some (.int (nI (suS g.1 g.2.1.1 b k).2)), some (.int (nI k)), none] [] S1 := by
      intro m
      induction m with
      | zero =>
        intro k S1 hk hf1
        have hR1 := bm_rm h'.1 hf1
        obtain rfl : k = rWr g.1 := by omega
        refine bM_sure_9 ?_
        rw [c0, hR1.1.1]
        exact ⟨vin (by decide), fun _ => hx2 S1 hf1, fun q => absurd (nI_le (Nat.le_refl _) (by omega)) q⟩
      | succ m ih =>
        intro k S1 hk hf1
        have hR1 := bm_rm h'.1 hf1
        have ih := ih (k + 1)
        unfold suS at ih
        have h1 := bgF_le okr g.2.1.1 b k
        have h2 := suS_le okr g.2.1.1 b k
        refine bM_sure_9 ?_
        rw [c0, hR1.1.1, nI_1]
        refine ⟨vin (by decide), fun q => absurd q (nI_ge (by omega) (by omega)), fun _ => wM_seat (d := 90) (X := fun x6 S5 => (nI (suS g.1 g.2.1.1 b k).2 < x6 → aBM 99 93 Q 9 [some (.ref 1000), some (.int (nI k)), some (.int x6), some (.int (nI (k + 1))), none] [] S5) ∧ (¬ nI (suS g.1 g.2.1.1 b k).2 < x6 → aBM 99 93 Q 9 [some (.ref 1000), some (.int (wsI (suS g.1 g.2.1.1 b k).1)), some (.int (nI (suS g.1 g.2.1.1 b k).2)), some (.int (nI (k + 1))), none] [] S5)) okr okz hR1 (bm_st h'.2.1.1 hf1) okd (bm_rd h'.2.1.2.2 hf1) hb (by omega) (fun e S2 hf2 => ⟨fun q => absurd q (nI_pos (by omega)), fun _ => ?_⟩) (fun S2 hf2 => ?_)⟩
        · have ih := ih S2 (by omega) (hf1.tr hf2)
          rw [if_pos (by omega)] at ih
          exact ih
        · have ih := ih S2 (by omega) (hf1.tr hf2)
          rw [nI_ltI (by omega) (by omega)]
          refine ⟨fun q => ?_, fun q => ?_⟩
          · rw [if_neg (by omega)] at ih; exact ih
          · rw [if_pos (by omega)] at ih; exact ih
    exact loop (rWr g.1) 0 S0 (by omega) frM.rf
