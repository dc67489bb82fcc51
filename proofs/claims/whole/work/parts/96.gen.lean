/-! generations by draws: both sides -/
def whoZ (r : zR) (z : zS) : Option Nat := wWho r (zSe z) (zWr z)
def allZ (r : zR) (z : zS) : Nat := alV r z (whoZ r z) (zWr z) (ahV r z)
/-- the likely ones together, of the first k words -/
def lkS (r : zR) (z : zS) (k : Nat) : Nat := nSum (fun w => if rFd r w = zWr z then lkV r (whoZ r z) (zLe z w) w (ahV r z) else 0) k
def drN (r : zR) (z : zS) (dd w : Nat) : Prop := w < rWd r ∧ dd < lkS r z (w + 1) ∧ ∀ k, k ≤ w → lkS r z k ≤ dd
theorem drN_ex {r : zR} {z : zS} {dd : Nat} (h : dd < allZ r z) : ∃ w, drN r z dd w := by
  have h' : dd < lkS r z (rWd r) := h
  obtain ⟨k, k1, k2⟩ := pk_least (fun k => dd < lkS r z k) ⟨rWd r, h'⟩
  have k0 : k ≠ 0 := fun q => by
    rw [q] at k1
    exact absurd k1 (Nat.not_lt_zero _)
  refine ⟨k - 1, ?_, ?_, fun j hj => ?_⟩
  · rcases Nat.lt_or_ge (rWd r) k with q | q
    · exact absurd h' (k2 _ q)
    · omega
  · rw [show k - 1 + 1 = k by omega]; exact k1
  · exact Nat.le_of_not_lt (k2 j (by omega))
theorem drN_can {r : zR} {z : zS} {dd w : Nat} (h : drN r z dd w) : rFd r w = zWr z ∧ 0 < zLe z w ∧ canW r z w = true := by
  obtain ⟨h1, h2, h3⟩ := h
  have h4 := h3 w (Nat.le_refl _)
  have h5 : lkS r z (w + 1) = lkS r z w + (if rFd r w = zWr z then lkV r (whoZ r z) (zLe z w) w (ahV r z) else 0) := rfl
  by_cases c : rFd r w = zWr z
  · rw [if_pos c] at h5
    have : 0 < zLe z w := by
      rcases Nat.eq_zero_or_pos (zLe z w) with e | e
      · unfold lkV at h5
        rw [if_pos e] at h5
        omega
      · exact e
    refine ⟨c, this, ?_⟩
    unfold canW
    rw [decide_eq_true c, decide_eq_true this]
    rfl
  · rw [if_neg c] at h5
    omega
theorem lkS_le {r : zR} (hr : okR r) (z : zS) (k : Nat) (hk : k ≤ rWd r) : lkS r z k ≤ 1188 := by
  have h1 := nSum_mono (f := fun w => if rFd r w = zWr z then lkV r (whoZ r z) (zLe z w) w (ahV r z) else 0) (k := k) (rWd r) hk
  have h2 := alV_le hr z (okW_who (r := r) (zSe z) (zWr z)) (zWr z) (ahV r z)
  unfold lkS
  unfold alV at h2
  unfold whoZ at *
  omega
def gNx (G : Nat) : Nat := (G * 1103515245 + 12345) % 2147483648
def brZ (r : zR) (z : zS) : zS := if zSp z = 0 then z else zBurn r z (zSp z - 1)
def gnR (r : zR) : Nat → zS → Nat → zS → Nat → Prop
  | 0, z, _, z', c => z' = z ∧ c = 0
  | n + 1, z, G, z', c => (allZ r z = 0 ∧ gnR r n (brZ r z) G z' c) ∨ (¬ allZ r z = 0 ∧ ∃ w c', drN r z (gNx G / 65536 % allZ r z) w ∧ gnR r n (zPut r z w) (gNx G) z' c' ∧ c = (if zWr (zPut r z w) = 0 then 1 else 0) + c')
theorem okZ_br {r : zR} {z : zS} (h : okZ r z) : okZ r (brZ r z) := by
  unfold brZ
  by_cases c : zSp z = 0
  · rw [if_pos c]; exact h
  · rw [if_neg c]; exact okZ_burn h (by omega)
theorem gnR_ex {r : zR} (hr : okR r) : ∀ n z G, okZ r z → ∃ z' c, gnR r n z G z' c ∧ okZ r z' ∧ c ≤ n := by
  intro n
  induction n with
  | zero => intro z G hz; exact ⟨z, 0, ⟨rfl, rfl⟩, hz, Nat.le_refl _⟩
  | succ n ih =>
    intro z G hz
    by_cases c : allZ r z = 0
    · obtain ⟨z', c', a1, a2, a3⟩ := ih (brZ r z) G (okZ_br hz)
      exact ⟨z', c', Or.inl ⟨c, a1⟩, a2, by omega⟩
    · obtain ⟨w, hw⟩ := drN_ex (r := r) (z := z) (dd := gNx G / 65536 % allZ r z) (Nat.mod_lt _ (by omega))
      obtain ⟨z', c', a1, a2, a3⟩ := ih (zPut r z w) (gNx G) (okZ_put hr hz hw.1 (drN_can hw).1)
      exact ⟨z', _, Or.inr ⟨c, w, c', hw, a1, rfl⟩, a2, by split <;> omega⟩
theorem gNx_lt (G : Nat) : gNx G < 2147483648 := Nat.mod_lt _ (by decide)
/-- the draw, as both compute it -/
theorem gNx_eq {G : Nat} (hG : G < 2147483648) : ((lN G * 1103515245) + 12345) - ((lN G * 1103515245) + 12345) / 2147483648 * 2147483648 = lN (gNx G) := by
  have e1 : lN G * (1103515245 : Int64) + 12345 = lN (G * 1103515245 + 12345) := by
    rw [show (1103515245 : Int64) = lN 1103515245 from rfl, show (12345 : Int64) = lN 12345 from rfl, lN_mul, lN_add]
  rw [e1, show (2147483648 : Int64) = lN 2147483648 from rfl]
  exact pk_lRem (by omega) (by decide) (by decide)
theorem draw_eq {G m : Nat} (hG : G < 2147483648) (h0 : 0 < m) (hm : m < 2 ^ 31) : ((lN G / 65536) - (lN G / 65536) / (nI m).toInt64 * (nI m).toInt64).toInt32 = nI (G / 65536 % m) := by
  rw [nI_l hm, show (65536 : Int64) = lN 65536 from rfl, pk_lDiv (by omega) (by decide) (by decide), pk_lRem (by have := Nat.div_le_self G 65536; omega) h0 (by omega), lN_i]
def wpC (i : Nat) : Prop := oC i ∨ stC 113 i
theorem wpC_sc : ∀ i, wpC i → scX i := fun i q => q.elim (oC_sc i) (fun e => by
  have := stC_113.mp e
  exact Or.inr (by omega))
theorem wpC_rc {t : Nat} (hT : isT t) : ∀ i, rcX t i → ¬ wpC i := fun i hi q => q.elim (oC_rc hT i hi) (stG_113.rc hT i hi)
theorem st113_re {t : Nat} (hT : isT t) : ∀ i, stC 113 i → ¬ reC t i := by
  intro i hi
  rw [stC_113] at hi
  unfold reC
  rcases hT with rfl | rfl <;> omega
section
variable {d : Nat} {Q : Value → aS → Prop} {S : aS} {r : zR} {z : zS} {t : Nat}
theorem wX_drawn {dd w : Nat} (hr : okR r) (hz : okZ r z) (hT : isT t) (h : RX r S t) (hO : oRow r z (whoZ r z) (zWr z) (ahV r z) S 0) (hw : drN r z dd w) (hd : dd < 2 ^ 31) (hx : Q (.int (nI w)) S) : aWX (d + 3) 27 [.ref 117, .ref t, .int (nI (zWr z)), .int (nI dd)] S Q := by
  have hwd := hr.2.1
  have hwr := hz.2.1
  have hfo := hr.2.2.1.2
  obtain ⟨w1, w2, w3⟩ := hw
  refine mX_Odds_drawnAtBeginning ?_
  have loop : ∀ m k, k + m = w → aBX (d + 2) 27 Q 4 [some (.ref 117), some (.ref t), some (.int (nI (zWr z))), some (.int (nI dd)), some (.int (nI (lkS r z k))), some (.int (nI k))] [] S := by
    have step : ∀ k, k ≤ w → ((lkS r z (k + 1) ≤ dd → aBX (d + 2) 27 Q 4 [some (.ref 117), some (.ref t), some (.int (nI (zWr z))), some (.int (nI dd)), some (.int (nI (lkS r z (k + 1)))), some (.int (nI (k + 1)))] [] S) ∧ (¬ lkS r z (k + 1) ≤ dd → Q (.int (nI k)) S)) → aBX (d + 2) 27 Q 4 [some (.ref 117), some (.ref t), some (.int (nI (zWr z))), some (.int (nI dd)), some (.int (nI (lkS r z k))), some (.int (nI k))] [] S := by
      intro k hk hq
      have hl1 := lkS_le hr z (k + 1) (by omega)
      have hf3 := (hr.2.2.2.2.2.1 k (by omega)).1
      have h5 : lkS r z (k + 1) = lkS r z k + (if rFd r k = zWr z then lkV r (whoZ r z) (zLe z k) k (ahV r z) else 0) := rfl
      refine bX_Odds_drawnAtBeginning_4 ⟨fun q => absurd q (nI_ge (a := k) (b := 12) (by omega) (by decide)), fun _ => wX_foldOf hr hT.re h.1 ?_⟩
      have e1 : pAt (rWd r) (rFd r) (-1) (nI k) = nI (rFd r k) := by unfold pAt; rw [idx_some (by omega) (by omega)]
      rw [e1]
      show (¬ nI (rFd r k) = nI (zWr z) → _) ∧ (nI (rFd r k) = nI (zWr z) → _)
      rw [nI_eq (by omega) (by omega), Int32.add_zero, nI_1]
      refine ⟨fun c => ?_, fun c => wX_likelyBehind (i := 0) (by decide) (by omega) ?_⟩
      · rw [if_neg c] at h5
        have h6 : lkS r z (k + 1) = lkS r z k := h5
        rw [← h6, nI_leI (by omega) hd]
        exact hq
      · rw [if_pos c] at h5
        rw [hO.1 k (by omega) c]
        simp only [aI]
        rw [nI_add, ← h5, nI_leI (by omega) hd]
        exact hq
    intro m
    induction m with
    | zero =>
      intro k hk
      obtain rfl : k = w := by omega
      exact step k (Nat.le_refl _) ⟨fun q => absurd w2 (by omega), fun _ => hx⟩
    | succ m ih =>
      intro k hk
      exact step k (by omega) ⟨fun _ => ih (k + 1) (by omega), fun q => absurd (w3 (k + 1) (by omega)) q⟩
  exact loop w 0 (by omega)
/-- one word lived: the class -/
theorem bX_gen {N wh k c G : Nat} (hr : okR r) (hT : isT t) : ∀ n k c z z' c' G S, k + n = N → N < 200 → G < 2147483648 → gnR r n z G z' c' → okZ r z → gr S 0 2 = t → RX r S t → stX r z S 113 → (∀ S', frY wpC S S' → stX r z' S' 113 → ∀ G', aBX (d + 6) 147 Q 31 [some (.ref 0), none, some (.int (nI N)), some (.int (nI wh)), some (.int (nI (c + c'))), some (.long G'), none, some (.int (nI N)), none] [] S') → aBX (d + 6) 147 Q 31 [some (.ref 0), none, some (.int (nI N)), some (.int (nI wh)), some (.int (nI c)), some (.long (lN G)), none, some (.int (nI k)), none] [] S := by
  have hfo := hr.2.2.1.2
  intro n
  induction n with
  | zero =>
    intro k c z z' c' G S hk hN hG hg hz hgr h hs hx
    obtain ⟨rfl, rfl⟩ := hg
    obtain rfl : k = N := by omega
    exact hx S frY.rf hs (lN G)
  | succ n ih =>
    intro k c z z' c' G S hk hN hG hg hz hgr h hs hx
    have hwr := hz.2.1
    have hsp := hz.2.2.1
    have hal := alV_le hr z (okW_who (r := r) (zSe z) (zWr z)) (zWr z) (ahV r z)
    refine bX_FoldedRealm_generations_31 ⟨fun q => absurd q (nI_ge (by omega) (by omega)), fun _ => ?_⟩
    rw [hgr]
    refine wX_weighNext (d := d + 1) hr hz hT stG_113 h hs (fun S1 hf hO => ?_)
    have hf1 : frY wpC S S1 := hf.le (fun _ q => Or.inl q)
    have h1 := h.kept hT hf1 (wpC_rc hT)
    have hs1 := hs.keptY hf (oC_st stG_113)
    have hgr1 : gr S1 0 2 = t := (hf.gr 0 2).trans hgr
    simp only [aI]
    rw [hgr1, show gi S1 113 5 = nI (zSp z) from hs1.2.2.2.1, show gi S1 113 3 = nI (zWr z) from hs1.2.1, nI_le0 (by omega), nI_le0 (by omega), nI_1 k, gNx_eq hG]
    have hall : alV r z (wWho r (zSe z) (zWr z)) (zWr z) (ahV r z) = allZ r z := rfl
    rw [hall]
    rcases hg with ⟨g1, g2⟩ | ⟨g1, w, c1, g2, g3, g4⟩
    · refine ⟨fun _ => ?_, fun q => absurd g1 q⟩
      unfold brZ at g2
      refine ⟨fun e => ?_, fun e => ?_⟩
      · rw [if_pos e] at g2
        exact ih (k + 1) c z z' c' G S1 (by omega) hN hG g2 hz hgr1 h1 hs1 (fun S2 hf2 hs2 => hx S2 (hf1.tr hf2) hs2)
      · rw [if_neg e] at g2
        have e5 : nI (zSp z) - 1 = nI (zSp z - 1) := by
          have := nI_pred (zSp z - 1)
          rw [show zSp z - 1 + 1 = zSp z by omega] at this
          exact this
        rw [e5]
        refine wX_takeDown (d := d + 3) hr hz stG_113.1 stG_113.2.1 hT (st113_re hT) h1.1 (by omega) hs1 (fun S2 hf2 hs2 => ?_)
        have hf2' : frY wpC S S2 := hf1.tr (hf2.Y.le (fun _ q => Or.inr q))
        exact ih (k + 1) c _ z' c' G S2 (by omega) hN hG g2 (okZ_burn hz (by omega)) ((hf2'.gr 0 2).trans hgr) (h.kept hT hf2' (wpC_rc hT)) hs2 (fun S3 hf3 hs3 => hx S3 (hf2'.tr hf3) hs3)
    · refine ⟨fun q => absurd q g1, fun _ => ⟨by decide, by decide, ?_, ?_⟩⟩
      · rw [nI_l (by omega)]
        intro q
        rw [show (0 : Int64) = lN 0 from rfl, lN_eq (by omega) (by decide)] at q
        exact g1 q
      have hdd : gNx G / 65536 % allZ r z < allZ r z := Nat.mod_lt _ (by omega)
      rw [draw_eq (gNx_lt G) (by omega) (by omega)]
      obtain ⟨w1, w2, w3⟩ := drN_can g2
      refine wX_drawn (d := d + 3) hr hz hT h1 hO g2 (by omega) (wX_put (d := d + 2) hr hz stG_113 hT g2.1 w3 h1 hs1 (fun S2 hf2 hs2 => ?_))
      have hf2' : frY wpC S S2 := hf1.tr (hf2.le (fun i q => q.elim Or.inr (fun e => Or.inl (Or.inl e))))
      have hz2 := okZ_put hr hz g2.1 w1
      have hw2 := hz2.2.1
      show (¬ gi S2 113 3 = 0 → _) ∧ (gi S2 113 3 = 0 → _)
      rw [show gi S2 113 3 = nI (zWr (zPut r z w)) from hs2.2.1, nI_eq0 (by omega), Int32.add_zero, nI_1]
      refine ⟨fun e => ?_, fun e => ?_⟩
      · rw [if_neg e, Nat.zero_add] at g4
        subst g4
        exact ih (k + 1) c _ z' c' (gNx G) S2 (by omega) hN (gNx_lt G) g3 hz2 ((hf2'.gr 0 2).trans hgr) (h.kept hT hf2' (wpC_rc hT)) hs2 (fun S3 hf3 hs3 => hx S3 (hf2'.tr hf3) hs3)
      · rw [if_pos e] at g4
        subst g4
        refine ih (k + 1) (c + 1) _ z' c1 (gNx G) S2 (by omega) hN (gNx_lt G) g3 hz2 ((hf2'.gr 0 2).trans hgr) (h.kept hT hf2' (wpC_rc hT)) hs2 (fun S3 hf3 hs3 => ?_)
        rw [show c + 1 + c1 = c + (1 + c1) by omega]
        exact hx S3 (hf2'.tr hf3) hs3
end
section
variable {d : Nat} {Q : Value → aS → Prop} {S : aS} {r : zR} {z : zS}
theorem frM_e {S' : aS} (hf : frM eC nF S S') : frM trC trF S S' := hf.le (fun _ q => Or.inl (Or.inl q)) (fun _ q => q.elim)
theorem st_e {S' : aS} (hs : stM r z (ga S 1032) 0) (hf : frM eC nF S S') : stM r z (ga S' 1032) 0 := by
  rw [show ga S' 1032 = ga S 1032 from funext fun j => hf.1 1032 j (by unfold eC; omega)]
  exact hs
theorem wM_lives {G : Nat} (hr : okR r) (hz : okZ r z) (h : RM r S) (hs : stM r z (ga S 1032) 0) (hG : G < 2147483648) (hg : gl S 1000 62 = lN G) (h0 : allZ r z = 0 → ∀ S', frM trC trF S S' → stM r (brZ r z) (ga S' 1032) 0 → gl S' 1000 62 = lN G → Q (.int 0) S') (h1 : ¬ allZ r z = 0 → ∀ w, drN r z (gNx G / 65536 % allZ r z) w → ∀ S', frM trC trF S S' → stM r (zPut r z w) (ga S' 1032) 0 → gl S' 1000 62 = lN (gNx G) → Q (.int (if zWr (zPut r z w) = 0 then 1 else 0)) S') : aWM (d + 7) 100 [.ref 1000] S Q := by
  have hwd := hr.2.1
  have hwr := hz.2.1
  have hfo := hr.2.2.1.2
  have hsp := hz.2.2.1
  have hse : zSe z < 6 := by have := hr.1; rcases hz.1 with q | q <;> omega
  have hal := alV_le hr z (okW_who (r := r) (zSe z) (zWr z)) (zWr z) (ahV r z)
  refine mM_livesWord ⟨vin (by decide), vin (by decide), vin (by decide), ?_⟩
  rw [c0, c1, show ga S 1032 0 = nI (zSe z) from hs.1, show ga S 1032 1 = nI (zWr z) from hs.2.1]
  refine wM_writerOf hr h.1 ⟨vin (by decide), ?_⟩
  rw [show ga S 1032 1 = nI (zWr z) from hs.2.1, pWho_eq hr (by omega)]
  refine wM_aheadOf hr hz h hs (wM_allLikely (d := d + 1) hr hz h hs (okW_who _ _) (by omega) (fun S1 hf1 => ?_))
  have hall : alV r z (wWho r (zSe z) (zWr z)) (zWr z) (ahV r z) = allZ r z := rfl
  have hs1 := st_e hs hf1
  have hr1 := trC_rm h (frM_e hf1)
  have hg1 : gl S1 1000 62 = lN G := (hf1.2.2.2 62 (fun q => q)).trans hg
  simp only [aI]
  rw [hall, c3, show ga S1 1032 3 = nI (zSp z) from hs1.2.2.2.1, nI_eq0 (by omega), nI_le0 (by omega)]
  refine ⟨fun e => ?_, fun e => ⟨vin (by decide), fun e2 => ⟨Or.inl trivial, ?_⟩, fun e2 => ⟨vin (by decide), ?_⟩⟩⟩
  · obtain ⟨w, hw⟩ := drN_ex (r := r) (z := z) (dd := gNx G / 65536 % allZ r z) (Nat.mod_lt _ (by omega))
    have hx := h1 e w hw
    have hdd : gNx G / 65536 % allZ r z < allZ r z := Nat.mod_lt _ (by omega)
    obtain ⟨q1, q2, q3⟩ := drN_can hw
    obtain ⟨w1, w2, w3⟩ := hw
    refine mM_draws ?_
    rw [hg1, gNx_eq hG]
    have e62 : gl (sl S1 1000 62 (lN (gNx G))) 1000 62 = lN (gNx G) := by rw [gl_sl, if_pos ⟨rfl, rfl⟩]
    have hf2 : frM trC trF S (sl S1 1000 62 (lN (gNx G))) := (frM_e hf1).tr (frM_sl (Or.inr (Or.inr rfl)))
    have hs2 : stM r z (ga (sl S1 1000 62 (lN (gNx G))) 1032) 0 := hs1
    rw [e62, draw_eq (gNx_lt G) (by omega) (by omega)]
    generalize sl S1 1000 62 (lN (gNx G)) = S2 at *
    have hr2 := trC_rm h hf2
    refine ⟨by decide, by decide, ?_, ?_⟩
    · rw [nI_l (by omega)]
      intro q
      rw [show (0 : Int64) = lN 0 from rfl, lN_eq (by omega) (by decide)] at q
      exact e q
    have loop : ∀ m k S3, k + m = w → frM eC nF S2 S3 → aBM (d + 6) 100 Q 61 [some (.ref 1000), none, some (.int (nI (gNx G / 65536 % allZ r z))), some (.int (nI k)), some (.int (nI (lkS r z (k + 1))))] [] S3 := by
      intro m
      induction m with
      | zero =>
        intro k S3 hk hf3
        obtain rfl : k = w := by omega
        have hl1 := lkS_le hr z (k + 1) (by omega)
        refine bM_livesWord_61 ⟨fun _ => wM_laysWord (d := d) hr hz w1 q1 q2 (trC_rm hr2 (frM_e hf3)) (st_e hs2 hf3) (fun S4 hf4 hs4 => ⟨vin (by decide), ?_⟩), fun q => absurd (nI_lt w2 (by omega)) q⟩
        have hz4 := okZ_put hr hz w1 q1
        have hw4 := hz4.2.1
        have hx4 := hx S4 ((hf2.tr (frM_e hf3)).tr (wr_trC hf4)) hs4 (by
          rw [hf4.2.2.2 62 (by unfold pF; omega), hf3.2.2.2 62 (fun q => q)]
          exact e62)
        rw [c1, show ga S4 1032 1 = nI (zWr (zPut r z k)) from hs4.2.1, nI_eq0 (by omega)]
        refine ⟨fun e5 => ⟨Or.inl rfl, ?_⟩, fun e5 => ⟨Or.inr rfl, ?_⟩⟩
        · rw [if_neg e5] at hx4; exact hx4
        · rw [if_pos e5] at hx4; exact hx4
      | succ m ih =>
        intro k S3 hk hf3
        have hr3 := trC_rm hr2 (frM_e hf3)
        have hs3 := st_e hs2 hf3
        have hl1 := lkS_le hr z (k + 1) (by omega)
        have hf33 := (hr.2.2.2.2.2.1 (k + 1) (by omega)).1
        have hn : lkS r z (k + 1 + 1) = lkS r z (k + 1) + (if rFd r (k + 1) = zWr z then lkV r (whoZ r z) (zLe z (k + 1)) (k + 1) (ahV r z) else 0) := rfl
        refine bM_livesWord_61 ⟨fun q => absurd q (nI_nlt (w3 (k + 1) (by omega)) (by omega)), fun _ => ?_⟩
        rw [nI_1, nI_clamp (by omega), hr3.1.2.2.2.2.2.1 (k + 1) (by omega), c1, show ga S3 1032 1 = nI (zWr z) from hs3.2.1, nI_eq (by omega) (by omega), Int32.add_zero]
        refine ⟨nI_in (by omega) (by decide), vin (by decide), fun q => ?_, fun q => wM_likelyNow (d := d + 1) hr hz hr3 hs3 (by omega) (fun S4 hf4 => ?_)⟩
        · have := ih (k + 1) S3 (by omega) hf3
          rw [hn, if_neg q, Nat.add_zero] at this
          exact this
        · have := ih (k + 1) S4 (by omega) (hf3.tr hf4)
          rw [hn, if_pos q, ← nI_add (lkS r z (k + 1))] at this
          exact this
    have hf30 := (hr.2.2.2.2.2.1 0 (by omega)).1
    have hn0 : lkS r z (0 + 1) = 0 + (if rFd r 0 = zWr z then lkV r (whoZ r z) (zLe z 0) 0 (ahV r z) else 0) := rfl
    refine ⟨vin (by decide), vin (by decide), ?_⟩
    rw [hr2.1.2.2.2.2.2.1 0 (by omega), show ga S2 1032 1 = nI (zWr z) from hs2.2.1, nI_eq (by omega) (by omega)]
    refine ⟨fun q => ?_, fun q => wM_likelyNow (d := d + 1) (w := 0) hr hz hr2 hs2 (by omega) (fun S4 hf4 => ?_)⟩
    · have := loop w 0 S2 (by omega) frM.rf
      rw [hn0, if_neg q] at this
      exact this
    · have := loop w 0 S4 (by omega) hf4
      rw [hn0, if_pos q, Nat.zero_add] at this
      exact this
  · unfold brZ at h0
    have := h0 e S1 (frM_e hf1)
    rw [if_pos e2] at this
    exact this hs1 hg1
  · unfold brZ at h0
    have e5 : nI (zSp z) - 1 = nI (zSp z - 1) := by
      have := nI_pred (zSp z - 1)
      rw [show zSp z - 1 + 1 = zSp z by omega] at this
      exact this
    rw [e5]
    refine wM_burns (d := d + 4) hr hz (by omega) hr1.1 hs1 (fun S2 hf2 hs2 => ⟨Or.inl trivial, ?_⟩)
    have := h0 e S2 ((frM_e hf1).tr (hf2.le (fun _ q => Or.inr q) (fun _ q => q.elim)))
    rw [if_neg e2] at this
    exact this hs2 ((hf2.2.2.2 62 (fun q => q)).trans hg1)
theorem bM_gen {N wh : Nat} (hr : okR r) : ∀ n k c z z' c' G S, k + n = N → N < 200 → G < 2147483648 → gnR r n z G z' c' → okZ r z → RM r S → stM r z (ga S 1032) 0 → gl S 1000 62 = lN G → (∀ S', frM trC trF S S' → stM r z' (ga S' 1032) 0 → aBM (d + 7) 101 Q 35 [some (.ref 1000), none, some (.int (nI N)), some (.int (nI wh)), some (.int (nI (c + c'))), some (.int (nI N)), none] [] S') → aBM (d + 7) 101 Q 35 [some (.ref 1000), none, some (.int (nI N)), some (.int (nI wh)), some (.int (nI c)), some (.int (nI k)), none] [] S := by
  intro n
  induction n with
  | zero =>
    intro k c z z' c' G S hk hN hG hg hz h hs hgl hx
    obtain ⟨rfl, rfl⟩ := hg
    obtain rfl : k = N := by omega
    exact hx S frM.rf hs
  | succ n ih =>
    intro k c z z' c' G S hk hN hG hg hz h hs hgl hx
    refine bM_generations_35 ⟨fun q => absurd q (nI_ge (by omega) (by omega)), fun _ => wM_lives hr hz h hs hG hgl (fun e S1 hf1 hs1 hg1 => ?_) (fun e w hw S1 hf1 hs1 hg1 => ?_)⟩
    · rcases hg with ⟨g1, g2⟩ | ⟨g1, -⟩
      · refine ⟨fun _ => ?_, fun q => absurd rfl q⟩
        rw [Int32.add_zero, nI_1]
        exact ih (k + 1) c _ z' c' G S1 (by omega) hN hG g2 (okZ_br hz) (trC_rm h hf1) hs1 hg1 (fun S2 hf2 hs2 => hx S2 (hf1.tr hf2) hs2)
      · exact absurd e g1
    · rcases hg with ⟨g1, -⟩ | ⟨g1, w', c1, g2, g3, g4⟩
      · exact absurd g1 e
      · obtain rfl : w = w' := by
          obtain ⟨a1, a2, a3⟩ := hw
          obtain ⟨b1, b2, b3⟩ := g2
          rcases Nat.lt_trichotomy w w' with q | q | q
          · exact absurd a2 (Nat.not_lt.mpr (b3 (w + 1) q))
          · exact q
          · exact absurd b2 (Nat.not_lt.mpr (a3 (w' + 1) q))
        have hz2 := okZ_put hr hz g2.1 (drN_can g2).1
        by_cases q : zWr (zPut r z w) = 0
        · rw [if_pos q] at g4 ⊢
          subst g4
          refine ⟨fun q => absurd q (by decide), fun _ => ?_⟩
          rw [nI_1, nI_1]
          refine ih (k + 1) (c + 1) _ z' c1 (gNx G) S1 (by omega) hN (gNx_lt G) g3 hz2 (trC_rm h hf1) hs1 hg1 (fun S2 hf2 hs2 => ?_)
          rw [show c + 1 + c1 = c + (1 + c1) by omega]
          exact hx S2 (hf1.tr hf2) hs2
        · rw [if_neg q] at g4 ⊢
          rw [Nat.zero_add] at g4
          subst g4
          refine ⟨fun _ => ?_, fun q => absurd rfl q⟩
          rw [Int32.add_zero, nI_1]
          exact ih (k + 1) c _ z' c' (gNx G) S1 (by omega) hN (gNx_lt G) g3 hz2 (trC_rm h hf1) hs1 hg1 (fun S2 hf2 hs2 => hx S2 (hf1.tr hf2) hs2)
end
theorem tie_generations : ok_generations Rel := by
  intro a b c
  refine tie_q (fun g t ok hT => ?_)
  obtain ⟨okr, okn, ⟨okz, okl, okd⟩, okt⟩ := id ok
  by_cases hok : ((0 : Int32) ≤ a ∧ a ≤ 9999) ∧ ((1 : Int32) ≤ b ∧ b ≤ 99) ∧ ((0 : Int32) ≤ c ∧ c ≤ 2)
  · obtain ⟨⟨a1, a2⟩, ⟨b1, b2⟩, ⟨cc1, cc2⟩⟩ := hok
    obtain ⟨A, hA, rfl⟩ := nI_of2 (n := 9999) (by decide) (Int32.not_lt.mpr a1) a2
    obtain ⟨N, hN, rfl⟩ := nI_of2 (n := 99) (by decide) (Int32.not_lt.mpr (Int32.le_trans (by decide) b1)) b2
    obtain ⟨w, hw, rfl⟩ := nI_of2 (n := 2) (by decide) (Int32.not_lt.mpr cc1) cc2
    obtain ⟨z', c', hg, hz', hc'⟩ := gnR_ex okr N g.2.1.1 A okz
    have hw3 : w = 0 ∨ w = 1 ∨ w = 2 := by omega
    refine ⟨if w = 0 then nI c' else if w = 1 then zGo z' - zGo g.2.1.1 else nI (clN g.1 z' (fun _ => true)), fun S Q h hx => ?_, fun S Q h hx => ?_⟩
    · refine mX_FoldedRealm_generations (d := 99) ⟨fun q => absurd q (nI_pos (by omega)), fun _ => ⟨fun q => absurd q (nI_nlt (a := 9999) (b := A) (by omega) (by decide)), fun _ => ⟨fun q => absurd b1 (Int32.not_le.mpr q), fun _ => ⟨fun q => absurd q (nI_nlt (a := 99) (b := N) (by omega) (by decide)), fun _ => ⟨fun q => absurd q (nI_pos (by omega)), fun _ => ⟨fun _ => wX_copyFrom (d := 98) okr okz stG_113.1 stG_41.1 stD_113 h.2.2.1.1 (fun S1 hf hs => ?_), fun q => absurd cc2 q⟩⟩⟩⟩⟩⟩
      have hf' : frY wpC S S1 := hf.Y.le (fun _ q => Or.inr q)
      rw [nI_l (by omega)]
      refine bX_gen (d := 93) (k := 0) (c := 0) (G := 0) okr hT N 0 0 g.2.1.1 z' c' A S1 (by omega) (by omega) (by omega) hg okz ((hf'.gr 0 2).trans h.1.2.1) (h.2.1.kept hT hf' (wpC_rc hT)) hs (fun S2 hf2 hs2 G' => ?_)
      have hf3 := hf'.tr hf2
      have hx := hx S2 (hf3.le wpC_sc)
      have hs41 : stX g.1 g.2.1.1 S2 41 := h.2.2.1.1.keptY hf3 (fun i hi q => by
        have := stC_41.mp hi
        unfold wpC oC scE at q
        rw [stC_113] at q
        omega)
      refine bX_FoldedRealm_generations_31 ⟨fun _ => ?_, fun q => absurd (nI_le (Nat.le_refl _) (by omega)) q⟩
      rw [hf3.gr, h.1.2.1, show gi S2 113 6 = zGo z' from hs2.2.2.1, show gi S2 41 6 = zGo g.2.1.1 from hs41.2.2.1, Nat.zero_add]
      rcases hw3 with rfl | rfl | rfl
      · exact ⟨fun _ => ⟨fun q => absurd rfl q, fun _ => hx⟩, fun q => absurd q (by decide)⟩
      · exact ⟨fun _ => ⟨fun _ => hx, fun q => absurd q (by decide)⟩, fun q => absurd q (by decide)⟩
      · exact ⟨fun q => absurd rfl q, fun _ => wX_clashCount (d := 94) okr hz' stG_113 hT (h.2.1.kept hT hf3 (wpC_rc hT)) hs2 hx⟩
    · have h' := MM_0 ok h
      refine mM_generations (d := 99) (wM_within (d := 98) ?_)
      rw [if_pos ⟨a1, a2⟩]
      refine ⟨fun q => absurd q (by decide), fun _ => wM_within (d := 98) ?_⟩
      rw [if_pos ⟨b1, b2⟩]
      refine ⟨fun q => absurd q (by decide), fun _ => wM_within (d := 98) ?_⟩
      rw [if_pos ⟨cc1, cc2⟩]
      refine ⟨fun _ => ?_, fun q => absurd q (by decide)⟩
      rw [nI_l (by omega)]
      have hf0 : frM scM scF S (sl (si S 1000 0 0) 1000 62 (lN A)) := frM_0.tr (frM_sl (by unfold scF; omega))
      have hr0 : RM g.1 (sl (si S 1000 0 0) 1000 62 (lN A)) := h.1.kept hf0 (fun i hi => by unfold scM at hi; omega)
      have hs0 : stM g.1 g.2.1.1 (ga (sl (si S 1000 0 0) 1000 62 (lN A)) 1032) 0 := h.2.1.1
      have e62 : gl (sl (si S 1000 0 0) 1000 62 (lN A)) 1000 62 = lN A := by rw [gl_sl, if_pos ⟨rfl, rfl⟩]
      have b32 : ∀ k, ga (sl (si S 1000 0 0) 1000 62 (lN A)) 1032 k = ga S 1032 k := fun _ => rfl
      generalize sl (si S 1000 0 0) 1000 62 (lN A) = S0 at *
      refine wM_copies (d := 98) (p0 := 1032) (a := 0) (p2 := 1033) (b := 0) rfl rfl (by decide) (by decide) (by decide) (by decide) (by decide) ?_
      have hfl : frM (fun i => i = 1033) nF S0 (lay S0 1032 0 1033 0 60) := frM_lay rfl
      have hs1 : stM g.1 g.2.1.1 (ga (lay S0 1032 0 1033 0 60) 1032) 0 := by
        rw [show ga (lay S0 1032 0 1033 0 60) 1032 = ga S0 1032 from funext fun j => hfl.1 1032 j (by omega)]
        exact hs0
      refine bM_gen (d := 92) okr N 0 0 g.2.1.1 z' c' A _ (by omega) (by omega) (by omega) hg okz (hr0.kept hfl (fun i hi => by omega)) hs1 ((hfl.2.2.2 62 (fun q => q)).trans e62) (fun S2 hf2 hs2 => ?_)
      have hr2 := trC_rm (hr0.kept hfl (fun i hi => by omega)) hf2
      have hp := pow10 hz'.2.2.1
      refine bM_generations_35 ⟨fun _ => ⟨vin (by decide), wM_allWholes (d := 98) hz' hs2 (wM_clashesOf (d := 96) okr hz' hr2 hs2 (by omega) (wM_copies (d := 98) (p0 := 1033) (a := 0) (p2 := 1032) (b := 0) rfl rfl (by decide) (by decide) (by decide) (by decide) (by decide) ?_))⟩, fun q => absurd (nI_le (Nat.le_refl _) (by omega)) q⟩
      obtain ⟨k1, k2⟩ := trial_back (S2 := S2) hf2
      have hx := hx _ (hf0.tr k1) (fun k hk => (k2 k hk).trans (b32 k))
      rw [clN_all, Nat.zero_add, c2, show ga S2 1032 2 = zGo z' from hs2.2.2.1]
      have e2 : ga (lay S2 1033 0 1032 0 60) 1032 2 = zGo g.2.1.1 := (k2 2 (by decide)).trans hs0.2.2.1
      simp only [aV]
      rw [e2]
      rcases hw3 with rfl | rfl | rfl
      · exact ⟨fun q => absurd rfl q, fun _ => hx⟩
      · exact ⟨fun _ => ⟨fun q => absurd rfl q, fun _ => ⟨vin (by decide), hx⟩⟩, fun q => absurd q (by decide)⟩
      · exact ⟨fun _ => ⟨fun _ => hx, fun q => absurd q (by decide)⟩, fun q => absurd q (by decide)⟩
  · refine ⟨-1, fun S Q h hx => ?_, fun S Q h hx => ?_⟩
    · have hx := hx S frY.rf
      exact mX_FoldedRealm_generations (d := 99) ⟨fun _ => hx, fun q1 => ⟨fun _ => hx, fun q2 => ⟨fun _ => hx, fun q3 => ⟨fun _ => hx, fun q4 => ⟨fun _ => hx, fun q5 => ⟨fun q6 => absurd ⟨⟨Int32.not_lt.mp q1, Int32.not_lt.mp q2⟩, ⟨Int32.not_lt.mp q3, Int32.not_lt.mp q4⟩, ⟨Int32.not_lt.mp q5, q6⟩⟩ hok, fun _ => hx⟩⟩⟩⟩⟩⟩
    · have hx := hx _ frM_0 (fun _ _ => rfl)
      refine mM_generations (d := 99) (wM_within (d := 98) ?_)
      by_cases q1 : (0 : Int32) ≤ a ∧ a ≤ 9999
      · rw [if_pos q1]
        refine ⟨fun q => absurd q (by decide), fun _ => wM_within (d := 98) ?_⟩
        by_cases q2 : (1 : Int32) ≤ b ∧ b ≤ 99
        · rw [if_pos q2]
          refine ⟨fun q => absurd q (by decide), fun _ => wM_within (d := 98) ?_⟩
          rw [if_neg (fun q3 => hok ⟨q1, q2, q3⟩)]
          exact ⟨fun q => absurd rfl q, fun _ => hx⟩
        · rw [if_neg q2]
          exact ⟨fun _ => hx, fun q => absurd rfl q⟩
      · rw [if_neg q1]
        exact ⟨fun _ => hx, fun q => absurd rfl q⟩
