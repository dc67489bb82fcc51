/-! Sundays judged: both sides -/
def z0 (r : zR) : zS := ((0, 0, 0), 0, fun _ => 0, rLe r, fun _ _ => 0)
theorem okZ_0 {r : zR} (hr : okR r) : okZ r (z0 r) := by
  have hfo := hr.2.2.1
  refine ⟨?_, ?_, ?_, fun f hf => absurd hf (Nat.not_lt_zero _), fun w hw => (hr.2.2.2.2.2.1 w hw).2.2.2, fun k f hk => absurd hk (Nat.not_lt_zero _)⟩
  · show 0 < rWr r ∨ (rWr r = 0 ∧ 0 = 0)
    omega
  · show 0 < rFo r
    omega
  · show 0 ≤ 10
    omega
section
variable {d : Nat} {Q : Value → aS → Prop} {S : aS} {r : zR} {z : zS} {t p : Nat}
theorem wX_stBegin (hr : okR r) (hT : isT t) (hG : stG p) (h : RX r S t) (hx : ∀ S', frY (stC p) S S' → stX r (z0 r) S' p → Q .null S') : aWX (d + 1) 83 [.ref p, .ref t] S Q := by
  have hwd := hr.2.1
  have ht := hT.re
  obtain ⟨k, n, hcc, n0, n1, n2⟩ := id hG
  refine mX_Standing_begin (gK_ok k.1 (gK_ok ht.1 (gK_ok k.1 (gK_ok ht.2.2.2.2.2.1.1 ⟨acp_ok (n := 12) k.2.1 (by rw [ht.2.2.2.2.2.1.2]; omega) (by rw [k.2.2.2.2.1]; omega) (by decide), ?_⟩))))
  refine bX_Standing_begin_8 (gK_ok k.1 (gK_ok k.1 (gK_ok k.1 (gK_ok k.1 (hx _ ?_ ?_)))))
  · exact (frX.tr (frX.tr (frX.tr (frX.tr (frX_scp (C := stC p) (Or.inr (Or.inl rfl))) (frX_si (Or.inl rfl))) (frX_si (Or.inl rfl))) (frX_si (Or.inl rfl))) (frX_si (Or.inl rfl))).Y
  · refine ⟨?_, ?_, ?_, ?_, fun f hf => absurd hf (Nat.not_lt_zero _), fun w hw => ?_, fun a b hk => absurd hk (Nat.not_lt_zero _)⟩
    · rw [gi_si, if_neg (by simp), gi_si, if_neg (by simp), gi_si, if_pos ⟨rfl, rfl⟩]; rfl
    · rw [gi_si, if_neg (by simp), gi_si, if_neg (by simp), gi_si, if_neg (by simp), gi_si, if_pos ⟨rfl, rfl⟩]; rfl
    · rw [gi_si, if_pos ⟨rfl, rfl⟩]; rfl
    · rw [gi_si, if_neg (by simp), gi_si, if_pos ⟨rfl, rfl⟩]; rfl
    · rw [ga_si, ga_si, ga_si, ga_si, show (12 : Int32) = nI 12 from rfl, ga_scp, if_pos rfl, if_pos (by rw [nI_clamp (by decide)]; omega)]
      exact h.1.2.2.2.2.2.2.2.2.1 w hw
theorem wM_fresh (hr : okR r) (h : rlM r S) (hx : ∀ S', frM sC nF S S' → stM r (z0 r) (ga S' 1032) 0 → Q .null S') : aWM (d + 1) 39 [.ref 1000] S Q := by
  have hwd := hr.2.1
  refine mM_fresh ?_
  have k14 : ∀ m k S1, k + m = rWd r → frM sC nF S S1 → (∀ j, j < 60 → j < 8 ∨ 8 + k ≤ j → ga S1 1032 j = 0) → (∀ w, w < k → ga S1 1032 (8 + w) = nI (rLe r w)) → aBM d 39 Q 14 [some (.ref 1000), some (.int (nI k))] [] S1 := by
    intro m
    induction m with
    | zero =>
      intro k S1 hk hf hz hl
      have h1 := h.kept hf (fun i hi => by unfold sC at hi; omega)
      obtain rfl : k = rWd r := by omega
      refine bM_fresh_14 ?_
      rw [c1, h1.2.1]
      refine ⟨vin (by decide), fun _ => hx S1 hf ⟨hz 0 (by decide) (by omega), hz 1 (by decide) (by omega), hz 2 (by decide) (by omega), hz 3 (by decide) (by omega), fun f hf => absurd hf (Nat.not_lt_zero _), fun w hw => ?_, fun a b hk => absurd hk (Nat.not_lt_zero _)⟩, fun q => absurd (nI_le (Nat.le_refl _) (by omega)) q⟩
      rw [Nat.zero_add]
      exact hl w hw
    | succ m ih =>
      intro k S1 hk hf hz hl
      have h1 := h.kept hf (fun i hi => by unfold sC at hi; omega)
      have e8 : (8 : Int32) + nI k = nI (8 + k) := nI_add 8 k
      refine bM_fresh_14 ?_
      rw [c1, h1.2.1, e8, nI_clamp (by omega), nI_clamp (by omega), h1.2.2.2.2.2.2.2.2.1 k (by omega), nI_1]
      refine ⟨vin (by decide), fun q => absurd q (nI_ge (by omega) (by omega)), fun _ => ⟨nI_in (by omega) (by decide), nI_in (by omega) (by decide), ih (k + 1) _ (by omega) (hf.tr (frM_sa rfl)) (fun j h2 h3 => ?_) (fun w hw => ?_)⟩⟩
      · rw [ga_sa, if_neg (by omega)]
        exact hz j h2 (by omega)
      · rw [ga_sa]
        by_cases q : w = k
        · rw [if_pos ⟨rfl, by omega⟩, q]
        · rw [if_neg (by omega)]
          exact hl w (by omega)
  have k2 : ∀ m k S1, k + m = 60 → frM sC nF S S1 → (∀ j, j < k → ga S1 1032 j = 0) → aBM d 39 Q 2 [some (.ref 1000), some (.int (nI k))] [] S1 := by
    intro m
    induction m with
    | zero =>
      intro k S1 hk hf hz
      obtain rfl : k = 60 := by omega
      exact bM_fresh_2 ⟨fun _ => k14 (rWd r) 0 S1 (by omega) hf (fun j h2 _ => hz j h2) (fun w hw => absurd hw (Nat.not_lt_zero _)), fun q => absurd (show (60 : Int32) ≤ nI 60 by decide) q⟩
    | succ m ih =>
      intro k S1 hk hf hz
      refine bM_fresh_2 ⟨fun q => absurd q (nI_ge (a := k) (b := 60) (by omega) (by decide)), fun _ => ⟨nI_in (by omega) (by decide), ?_⟩⟩
      rw [nI_clamp (by omega), nI_1]
      refine ih (k + 1) _ (by omega) (hf.tr (frM_sa rfl)) (fun j hj => ?_)
      rw [ga_sa]
      by_cases q : j = k
      · rw [if_pos ⟨rfl, q⟩]
      · rw [if_neg (fun a => q a.2)]
        exact hz j (by omega)
  exact k2 60 0 S rfl frM.rf (fun j hj => absurd hj (Nat.not_lt_zero _))
end
/-- a line of Sundays done -/
def lineZ (r : zR) (z : zS) (l : zL) : zS × Bool :=
  if l.1 = 0 then (if canW r z l.2 = true then (zPut r z l.2, true) else (z, false))
  else if l.1 = 1 then (if l.2 < zSp z then (zBurn r z l.2, true) else (z, false))
  else (if canP r z = true then (zSeat z (nxS r z), true) else (z, false))
def okLn (r : zR) (l : zL) : Prop := l.1 ≤ 2 ∧ (l.1 = 0 → l.2 < rWd r) ∧ (l.1 = 1 → l.2 ≤ 9)
theorem canP_pos {r : zR} {z : zS} (h : canP r z = true) : 0 < rWr r := of_decide_eq_true ((Bool.and_eq_true _ _).mp (show (decide (zWr z = 0) && decide (0 < rWr r)) = true from h)).2
theorem okZ_line {r : zR} {z : zS} {l : zL} (hr : okR r) (hz : okZ r z) (hl : okLn r l) : okZ r (lineZ r z l).1 := by
  unfold lineZ
  by_cases c : l.1 = 0
  · rw [if_pos c]
    by_cases e : canW r z l.2 = true
    · rw [if_pos e]; exact okZ_put hr hz (hl.2.1 c) (canW_fd e)
    · rw [if_neg e]; exact hz
  · rw [if_neg c]
    by_cases c2 : l.1 = 1
    · rw [if_pos c2]
      by_cases e : l.2 < zSp z
      · rw [if_pos e]; exact okZ_burn hz e
      · rw [if_neg e]; exact hz
    · rw [if_neg c2]
      by_cases e : canP r z = true
      · rw [if_pos e]; exact okZ_seat hz (Nat.mod_lt _ (canP_pos e))
      · rw [if_neg e]; exact hz
section
variable {d : Nat} {Q : Value → aS → Prop} {S : aS} {r : zR} {z : zS} {t : Nat}
theorem wX_takeDown0 {x : Int32} (hr : okR r) (hz : okZ r z) (hT : isT t) (h : RX r S t) (hs : stX r z S 113) (hk : idx (zSp z) x = none) (hx : Q .null S) : aWX (d + 3) 96 [.ref 113, .ref t, .int x] S Q := by
  have hfo := hr.2.2.1.2
  have ht := hT.re
  have hG := stG_113
  refine mX_Standing_takeDown (gK_ok hG.1.1 ?_)
  have loop : ∀ m n, n + m = rFo r → aBX (d + 2) 96 Q 2 [some (.ref 113), some (.ref t), some (.int x), some (.int (nI n)), none] [] S := by
    intro m
    induction m with
    | zero =>
      intro n hn
      refine bX_Standing_takeDown_2 (gK_ok ht.1 ?_)
      rw [h.1.2.2.1]
      refine ⟨fun _ => mX_Standing_closeGap (d := d + 1) (gK_ok hG.1.1 (wX_hasWhole hz hG.1 hs ?_)), fun q => absurd (nI_le (by omega) (by omega)) q⟩
      rw [hk]
      exact ⟨fun _ => bX_Standing_takeDown_32 hx, fun q => absurd rfl q⟩
    | succ m ih =>
      intro n hn
      refine bX_Standing_takeDown_2 (gK_ok ht.1 ?_)
      rw [h.1.2.2.1]
      refine ⟨fun q => absurd q (nI_ge (by omega) (by omega)), fun _ => wX_spikeAt hr hz hG.1 hs (nI_lt (by omega) (by omega)) ?_⟩
      have e : pSpike r z x (nI n) = -1 := by
        unfold pSpike
        rw [hk]
      rw [e]
      refine wX_hasWord hr ht h.1 ?_
      rw [idx_neg, nI_1]
      exact ⟨fun _ => ih (n + 1) (by omega), fun q => absurd rfl q⟩
  exact loop (rFo r) 0 (by omega)
theorem wX_moveSeat (hr : okR r) (hz : okZ r z) (hT : isT t) (h : RX r S t) (hs : stX r z S 113) (hc : canP r z = true) (hx : ∀ S', frY (pcX 113) S S' → stX r (zSeat z (nxS r z)) S' 113 → Q .null S') : aWX (d + 2) 95 [.ref 113, .ref t] S Q := by
  have hw := hr.1
  have hG := stG_113
  have hwp := canP_pos hc
  have hse : zSe z < rWr r := by rcases hz.1 with q | q <;> omega
  refine mX_Standing_moveSeat (gK_ok hG.1.1 (gK_ok hG.1.1 ?_))
  rw [hs.1]
  refine wX_seatBehind hr hT.re h.1 (gK_ok hG.1.1 ?_)
  have e3 : pNext r (nI (zSe z)) = nI (nxS r z) := by
    unfold pNext
    rw [if_neg (by omega), nI_1]
    exact md5 _ (by omega) (by omega) _ (by omega)
  rw [e3]
  refine hx _ (frY_si (Or.inl (Or.inl rfl))) ?_
  obtain ⟨s1, s2, s3, s4, s5, s6, s7⟩ := hs
  refine ⟨?_, ?_, ?_, ?_, s5, s6, s7⟩
  · rw [gi_si, if_pos ⟨rfl, rfl⟩]; rfl
  · rw [gi_si, if_neg (by decide)]; exact s2
  · rw [gi_si, if_neg (by decide)]; exact s3
  · rw [gi_si, if_neg (by decide)]; exact s4
theorem wX_follow {l : zL} (hr : okR r) (hz : okZ r z) (hT : isT t) (h : RX r S t) (hs : stX r z S 113) (hl : okLn r l) (hx : ∀ S', frY (pcX 113) S S' → stX r (lineZ r z l).1 S' 113 → Q (.int (bB (lineZ r z l).2)) S') : aWX (d + 5) 97 [.ref 113, .ref t, .int (lnI l)] S Q := by
  have hwd := hr.2.1
  have hsp := hz.2.2.1
  have hG := stG_113
  obtain ⟨l1, l2, l3⟩ := hl
  refine mX_Standing_follow (gK_ok hG.1.1 ?_)
  unfold lineZ at hx
  unfold lnI
  by_cases c : l.1 = 0
  · rw [if_pos c] at hx ⊢
    have hw := l2 c
    refine ⟨fun _ => ⟨fun _ => wX_canPut hr hz hG.1 hs hT.re h.1 ?_, fun q => absurd (nI_lt (a := l.2) (b := 16) (by omega) (by decide)) q⟩, fun q => absurd q.symm (m1_ne (by omega))⟩
    by_cases e : canW r z l.2 = true
    · rw [if_pos e] at hx
      rw [can1 hr hw e]
      exact wX_put hr hz hG hT hw e h hs (fun S1 hf1 hs1 => bX_Standing_follow_40 ⟨Or.inr rfl, hx S1 hf1 hs1⟩)
    · rw [if_neg e] at hx
      have e0 : pCan r z (nI l.2) = 0 := by
        unfold pCan
        rw [idx_some (by omega) hw, Option.filter_some, if_neg e]
        rfl
      rw [e0]
      exact wX_put0 hr hz hG hT e0 h hs (bX_Standing_follow_40 ⟨Or.inl rfl, hx S frY.rf hs⟩)
  · rw [if_neg c] at hx ⊢
    by_cases c2 : l.1 = 1
    · rw [if_pos c2] at hx ⊢
      have hn := l3 c2
      have e16 : nI (16 + l.2) - 16 = nI l.2 := by
        rw [show (16 : Int32) = nI 16 from rfl, nI_subN (by omega), show 16 + l.2 - 16 = l.2 by omega]
      rw [e16]
      refine ⟨fun _ => ⟨fun q => absurd q (nI_nlt (a := 16 + l.2) (b := 16) (by omega) (by omega)), fun _ => wX_hasWhole hz hG.1 hs ?_⟩, fun q => absurd q.symm (m1_ne (by omega))⟩
      by_cases e : l.2 < zSp z
      · rw [if_pos e] at hx
        rw [idx_some (by omega) e]
        exact wX_takeDown hr hz hG.1 hG.2.1 hT (st113_re hT) h.1 e hs (fun S1 hf1 hs1 => bX_Standing_follow_29 ⟨Or.inr rfl, hx S1 (hf1.Y.le (fun _ q => Or.inl q)) hs1⟩)
      · rw [if_neg e] at hx
        have hi : idx (zSp z) (nI l.2) = none := idx_none (Or.inr (nI_le (by omega) (by omega)))
        rw [hi]
        exact wX_takeDown0 hr hz hT h hs hi (bX_Standing_follow_29 ⟨Or.inl rfl, hx S frY.rf hs⟩)
    · rw [if_neg c2] at hx ⊢
      refine ⟨fun q => absurd rfl q, fun _ => wX_canMoveSeat hr hz hG.1 hs hT.re h.1 ?_⟩
      by_cases e : canP r z = true
      · rw [if_pos e] at hx ⊢
        exact ⟨fun q => absurd q (by decide), fun _ => wX_moveSeat hr hz hT h hs e (fun S1 hf1 hs1 => ⟨Or.inr rfl, hx S1 hf1 hs1⟩)⟩
      · rw [if_neg e] at hx ⊢
        exact ⟨fun _ => ⟨Or.inl rfl, hx S frY.rf hs⟩, fun q => absurd rfl q⟩
theorem wM_goes {l : zL} {k : Nat} (hr : okR r) (hz : okZ r z) (h : RM r S) (hs : stM r z (ga S 1032) 0) (hl : okLn r l) (hk : k < 240) (h1 : ga S 1028 k = nI l.1) (h2 : l.1 ≤ 1 → ga S 1029 k = nI l.2) (hx : ∀ S', frM trC trF S S' → stM r (lineZ r z l).1 (ga S' 1032) 0 → Q (.int (bB (lineZ r z l).2)) S') : aWM (d + 7) 69 [.ref 1000, .int (nI k)] S Q := by
  have hwd := hr.2.1
  have hwr5 := hr.1
  have hsp := hz.2.2.1
  obtain ⟨l1, l2, l3⟩ := hl
  have ik : vp_in (nI k) 240 := nI_in hk (by decide)
  refine mM_goes ?_
  rw [nI_clamp (by omega), h1, nI_eq0 (by omega), show (1 : Int32) = nI 1 from rfl, nI_eq (by omega) (by decide)]
  unfold lineZ at hx
  by_cases c : l.1 = 0
  · rw [if_pos c] at hx
    have hw := l2 c
    rw [h2 (by omega)]
    refine ⟨ik, ik, fun q => absurd c q, fun _ => wM_canWrite hr hz hw h.1 hs ?_⟩
    by_cases e : canW r z l.2 = true
    · rw [if_pos e] at hx
      rw [can1 hr hw e]
      have hc1 := (Bool.and_eq_true _ _).mp (show (decide (rFd r l.2 = zWr z) && decide (0 < zLe z l.2)) = true from e)
      exact ⟨fun _ => wM_laysWord hr hz hw (of_decide_eq_true hc1.1) (of_decide_eq_true hc1.2) h hs (fun S1 hf1 hs1 => ⟨Or.inr rfl, hx S1 (wr_trC hf1) hs1⟩), fun q => absurd q (by decide)⟩
    · rw [if_neg e] at hx
      have e0 : pCan r z (nI l.2) = 0 := by
        unfold pCan
        rw [idx_some (by omega) hw, Option.filter_some, if_neg e]
        rfl
      rw [e0]
      exact ⟨fun q => absurd rfl q, fun _ => ⟨Or.inl rfl, hx S frM.rf hs⟩⟩
  · rw [if_neg c] at hx
    by_cases c2 : l.1 = 1
    · rw [if_pos c2] at hx
      have hn := l3 c2
      rw [h2 (by omega), c3, show ga S 1032 3 = nI (zSp z) from hs.2.2.2.1, nI_ltI (by omega) (by omega)]
      refine ⟨ik, ik, fun _ => ⟨ik, fun q => absurd c2 q, fun _ => ⟨vin (by decide), fun e => ?_, fun e => ⟨Or.inl rfl, ?_⟩⟩⟩, fun q => absurd q c⟩
      · rw [if_pos e] at hx
        exact wM_burns hr hz e h.1 hs (fun S1 hf1 hs1 => ⟨Or.inr rfl, hx S1 (hf1.le (fun _ q => Or.inr q) (fun _ q => q.elim)) hs1⟩)
      · rw [if_neg e] at hx
        exact hx S frM.rf hs
    · rw [if_neg c2] at hx
      refine ⟨ik, ik, fun _ => ⟨ik, fun _ => wM_canPass hr hz h.1 hs ?_, fun q => absurd q c2⟩, fun q => absurd q c⟩
      by_cases e : canP r z = true
      · rw [if_pos e] at hx ⊢
        have hwp := canP_pos e
        have hse : zSe z < rWr r := by rcases hz.1 with q | q <;> omega
        have e3 : nI (zSe z) + nI 1 - (nI (zSe z) + nI 1) / nI (rWr r) * nI (rWr r) = nI (nxS r z) := by
          rw [nI_add]
          exact md5 _ (by omega) (by omega) _ (by omega)
        simp only [aI]
        rw [c0, show ga S 1032 0 = nI (zSe z) from hs.1, show ga S 1002 0 = nI (rWr r) from h.1.1, e3]
        refine ⟨fun _ => ⟨vin (by decide), vin (by decide), by rw [nI_eq0 (by omega)]; omega, vin (by decide), Or.inr trivial, hx _ (frM_sa (Or.inr rfl)) (stM_seat hs ?_ (fun k hk => ?_))⟩, fun q => absurd q (by decide)⟩
        · rw [ga_sa, if_pos ⟨rfl, rfl⟩]
        · rw [ga_sa, if_neg (fun q => absurd q.2 (by omega))]
      · rw [if_neg e] at hx ⊢
        exact ⟨fun q => absurd rfl q, fun _ => ⟨Or.inl rfl, hx S frM.rf hs⟩⟩
end
theorem clS_comm {r : zR} {z : zS} (hn : ∀ v w, v < rWd r → w < rWd r → rCl r v w = rCl r w v) (hz : okZ r z) {i j : Nat} (hi : i < zSp z) (hj : j < zSp z) : clS r z i j = clS r z j i := by
  have key : ∀ i j, i < zSp z → j < zSp z → clS r z i j = true → clS r z j i = true := by
    intro i j hi hj h
    obtain ⟨f, g, a1, a2, a3⟩ := clS_iff.mp h
    refine clS_iff.mpr ⟨g, f, a2, a1, ?_⟩
    rw [hn _ _ (hz.2.2.2.2.2 j g hj a2).1 (hz.2.2.2.2.2 i f hi a1).1]
    exact a3
  cases h1 : clS r z i j with
  | true => exact (key i j hi hj h1).symm
  | false =>
    cases h2 : clS r z j i with
    | false => rfl
    | true => rw [key j i hj hi h2] at h1; cases h1
/-- the last whole clashes -/
def lastC (r : zR) (z : zS) : Bool := (List.range (zSp z)).any fun j => clS r z (zSp z - 1) j
section
variable {d : Nat} {Q : Value → aS → Prop} {S : aS} {r : zR} {z : zS} {t : Nat}
theorem wX_lastClashes (hr : okR r) (hz : okZ r z) (hT : isT t) (h : RX r S t) (hs : stX r z S 113) (h1 : 1 ≤ zSp z) (hx : Q (.int (bB (lastC r z))) S) : aWX (d + 5) 99 [.ref 113, .ref t] S Q := by
  have hsp := hz.2.2.1
  have hG := stG_113
  have hlt := foeV_lt hz (r := r) (zSp z - 1)
  refine mX_Standing_lastClashes (gK_ok hG.1.1 (gK_ok hG.1.1 ?_))
  have e5 : nI (zSp z) - 1 = nI (zSp z - 1) := by
    have := nI_pred (zSp z - 1)
    rw [show zSp z - 1 + 1 = zSp z by omega] at this
    exact this
  rw [hs.2.2.2.1, e5]
  refine wX_foesOf hr hz hG hT h hs (by omega) ?_
  show (nI (foeV r z (zSp z - 1)) = 0 → _) ∧ _
  rw [nI_eq0 (by omega)]
  refine ⟨fun c => ⟨Or.inl rfl, ?_⟩, fun c => ⟨Or.inr rfl, ?_⟩⟩
  · have : lastC r z = false := by
      cases hl : lastC r z with
      | false => rfl
      | true =>
        unfold lastC at hl
        rw [List.any_eq_true] at hl
        obtain ⟨j, j1, j2⟩ := hl
        have hb := foeV_bit r z (zSp z - 1) j
        rw [c, Nat.zero_testBit, decide_eq_true (show zSp z - 1 < zSp z by omega), decide_eq_true (List.mem_range.mp j1), j2] at hb
        cases hb
    rw [this] at hx
    exact hx
  · obtain ⟨j, hj⟩ := Nat.exists_testBit_of_ne_zero c
    rw [foeV_bit, Bool.and_eq_true, Bool.and_eq_true, decide_eq_true_eq, decide_eq_true_eq] at hj
    have : lastC r z = true := by
      unfold lastC
      rw [List.any_eq_true]
      exact ⟨j, List.mem_range.mpr hj.2.1, hj.2.2⟩
    rw [this] at hx
    exact hx
theorem wM_doesLastClash (hn : ∀ v w, v < rWd r → w < rWd r → rCl r v w = rCl r w v) (hr : okR r) (hz : okZ r z) (h : RM r S) (hs : stM r z (ga S 1032) 0) (hx : Q (.int (bB (lastC r z))) S) : aWM (d + 3) 70 [.ref 1000] S Q := by
  have hsp := hz.2.2.1
  have e3 : ga S 1032 3 = nI (zSp z) := hs.2.2.2.1
  refine mM_doesLastClash ?_
  have loop : ∀ m k, k + m = zSp z → (∀ j, j < k → clS r z (zSp z - 1) j = false) → aBM (d + 2) 70 Q 2 [some (.ref 1000), some (.int (nI k))] [] S := by
    intro m
    induction m with
    | zero =>
      intro k hk hf
      refine bM_doesLastClash_2 ?_
      rw [c3, e3]
      refine ⟨vin (by decide), fun _ => ⟨Or.inl rfl, ?_⟩, fun q => absurd (nI_le (by omega) (by omega)) q⟩
      have : lastC r z = false := by
        cases hl : lastC r z with
        | false => rfl
        | true =>
          unfold lastC at hl
          rw [List.any_eq_true] at hl
          obtain ⟨j, j1, j2⟩ := hl
          rw [hf j (by have := List.mem_range.mp j1; omega)] at j2
          cases j2
      rw [this] at hx
      exact hx
    | succ m ih =>
      intro k hk hf
      have e5 : nI (zSp z) - 1 = nI (zSp z - 1) := by
        have := nI_pred (zSp z - 1)
        rw [show zSp z - 1 + 1 = zSp z by omega] at this
        exact this
      refine bM_doesLastClash_2 ?_
      rw [c3, e3, e5, nI_1]
      refine ⟨vin (by decide), fun q => absurd q (nI_ge (by omega) (by omega)), fun _ => ⟨vin (by decide), wM_doClash hr hz h hs (by omega) (by omega) ?_⟩⟩
      rw [clS_comm hn hz (show k < zSp z by omega) (show zSp z - 1 < zSp z by omega)]
      cases hb : clS r z (zSp z - 1) k with
      | true =>
        refine ⟨fun q => absurd q (by decide), fun _ => ⟨Or.inr rfl, ?_⟩⟩
        have : lastC r z = true := by
          unfold lastC
          rw [List.any_eq_true]
          exact ⟨k, List.mem_range.mpr (by omega), hb⟩
        rw [this] at hx
        exact hx
      | false =>
        refine ⟨fun _ => ih (k + 1) (by omega) (fun j hj => ?_), fun q => absurd rfl q⟩
        rcases Nat.lt_or_ge j k with q | q
        · exact hf j q
        · rw [show j = k by omega]; exact hb
  exact loop (zSp z) 0 (by omega) (fun j hj => absurd hj (Nat.not_lt_zero _))
end
abbrev zJ : Type := zS × Option Nat × Option Nat
/-- a whole came by this line -/
def cameL (r : zR) (z : zS) (l : zL) : Bool := (lineZ r z l).2 && (decide (l.1 = 0) && decide (zWr (lineZ r z l).1 = 0))
def jStep (r : zR) (k : Nat) (l : zL) (x : zJ) : zJ := ((lineZ r x.1 l).1, (if (lineZ r x.1 l).2 = true then x.2.1 else x.2.1.or (some k)), (if (cameL r x.1 l && lastC r (lineZ r x.1 l).1) = true then x.2.2.or (some k) else x.2.2))
def jAll (r : zR) : List zL → Nat → zJ → zJ
  | [], _, x => x
  | l :: t, k, x => jAll r t (k + 1) (jStep r k l x)
theorem came_sp {r : zR} {z : zS} {l : zL} (h : cameL r z l = true) : 1 ≤ zSp (lineZ r z l).1 := by
  unfold cameL at h
  rw [Bool.and_eq_true, Bool.and_eq_true, decide_eq_true_eq, decide_eq_true_eq] at h
  obtain ⟨h1, h2, h3⟩ := h
  unfold lineZ at h1 h3 ⊢
  rw [if_pos h2] at h1 h3 ⊢
  by_cases e : canW r z l.2 = true
  · rw [if_pos e] at h3 ⊢
    have h4 : zWr (zPut r z l.2) = 0 := h3
    rw [zPut_wr] at h4
    show 1 ≤ zSp (zPut r z l.2)
    unfold zPut
    by_cases q : zWr z + 1 < rFo r
    · rw [if_pos q] at h4
      cases h4
    · rw [if_neg q]
      exact Nat.le_add_left 1 _
  · rw [if_neg e] at h1
    cases h1
