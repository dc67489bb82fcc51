/-! how likely a word is, what a whole does: the reference; what a whole does: the class -/
def loM (S : aS) (l o n : Nat) : Option zF → Prop
  | some F => ∃ h cs a, eEx o h cs F ∧ h ≤ 6 ∧ ga S 1012 l = nI a ∧ ga S 1013 l = nI (a + cs.length) ∧ a + cs.length ≤ 1000 ∧ cAt S a cs ∧ dep n F
  | none => ga S 1013 l = ga S 1012 l
def RM (r : zR) (S : aS) : Prop := rlM r S ∧ loM S 0 1 5 (rWf r) ∧ loM S 1 6 3 (rDf r) ∧ (∀ v, v < rWd r → ∃ c, clB r v c ∧ ga S 1011 v = nI c) ∧ ∀ w, w < rWd r → gb S 1004 w = lN (enc 27 (rNm r w))
theorem loM.kept {S S' : aS} {l o n : Nat} {f : Option zF} (h : loM S l o n f) (a : ∀ i, 1002 ≤ i → i ≤ 1014 → ∀ k, ga S' i k = ga S i k) : loM S' l o n f := by
  cases f with
  | none =>
    show ga S' 1013 l = ga S' 1012 l
    rw [a 1013 (by decide) (by decide), a 1012 (by decide) (by decide)]
    exact h
  | some F =>
    obtain ⟨hh, ss, b, e1, e2, e3, e4, e5, e6, e7⟩ := h
    exact ⟨hh, ss, b, e1, e2, (a 1012 (by decide) (by decide) _).trans e3, (a 1013 (by decide) (by decide) _).trans e4, e5, fun i c hi => (a 1014 (by decide) (by decide) _).trans (e6 i c hi), e7⟩
theorem RM.kept {r : zR} {S S' : aS} {C F : Nat → Prop} (h : RM r S) (hf : frM C F S S') (hc : ∀ i, C i → i < 1002 ∨ 1014 < i) : RM r S' := by
  have a : ∀ i, 1002 ≤ i → i ≤ 1014 → ∀ k, ga S' i k = ga S i k := fun i h1 h2 k => hf.1 i k (fun q => by have := hc i q; omega)
  obtain ⟨h1, h2, h3, h4, h5⟩ := h
  refine ⟨h1.kept hf (fun i hi => by have := hc i hi; omega), h2.kept a, h3.kept a, fun v hv => ?_, fun w hw => ?_⟩
  · obtain ⟨c, d1, d2⟩ := h4 v hv
    exact ⟨c, d1, (a 1011 (by decide) (by decide) v).trans d2⟩
  · exact (hf.2.1 1004 w (fun q => by have := hc 1004 q; omega)).trans (h5 w hw)
/-- cells in which the reference works an E out -/
def eC (i : Nat) : Prop := 1017 ≤ i ∧ i ≤ 1026
def dsV (r : zR) (sp sum most : Nat) : Nat := match rDf r with
  | some F => cl99 (F (fcs [sum, most, sp]))
  | none => cl99 (nI sum)
theorem dsV_le (r : zR) (sp sum most : Nat) : dsV r sp sum most ≤ 99 := by
  unfold dsV
  cases rDf r <;> exact cl99_le _
theorem cl99_nI {n : Nat} (h : n ≤ 99) : cl99 (nI n) = n := by
  unfold cl99
  rw [if_neg (nI_pos (by omega)), if_neg (show ¬ (99 : Int32) < nI n from nI_nlt (a := 99) (b := n) h (by decide)), nI_clamp (by omega)]
theorem c1 : (1 : Int32).toNatClampNeg = 1 := by decide
theorem c2 : (2 : Int32).toNatClampNeg = 2 := by decide
theorem c3 : (3 : Int32).toNatClampNeg = 3 := by decide
theorem c4 : (4 : Int32).toNatClampNeg = 4 := by decide
theorem c5 : (5 : Int32).toNatClampNeg = 5 := by decide
theorem c6 : (6 : Int32).toNatClampNeg = 6 := by decide
theorem c7 : (7 : Int32).toNatClampNeg = 7 := by decide
theorem c8 : (8 : Int32).toNatClampNeg = 8 := by decide
theorem c0 : (0 : Int32).toNatClampNeg = 0 := by decide
theorem nI_max {a b : Nat} (ha : a < 2 ^ 31) (hb : b < 2 ^ 31) : (if nI a < nI b then nI b else nI a) = nI (max a b) := by
  by_cases c : a < b
  · rw [if_pos (nI_lt c hb), Nat.max_eq_right (by omega)]
  · rw [if_neg (nI_nlt (by omega) ha), Nat.max_eq_left (by omega)]
def nSum (f : Nat → Nat) : Nat → Nat
  | 0 => 0
  | n + 1 => nSum f n + f n
def nMax (f : Nat → Nat) : Nat → Nat
  | 0 => 0
  | n + 1 => max (nMax f n) (f n)
theorem nSum_le {f : Nat → Nat} {m : Nat} : ∀ n, (∀ k, k < n → f k ≤ m) → nSum f n ≤ n * m
  | 0, _ => Nat.zero_le _
  | n + 1, h => by
    have h1 := nSum_le n (fun k hk => h k (by omega))
    have h2 := h n (by omega)
    show nSum f n + f n ≤ (n + 1) * m
    rw [Nat.succ_mul]
    omega
theorem nMax_le {f : Nat → Nat} {m : Nat} : ∀ n, (∀ k, k < n → f k ≤ m) → nMax f n ≤ m
  | 0, _ => Nat.zero_le _
  | n + 1, h => Nat.max_le.mpr ⟨nMax_le n (fun k hk => h k (by omega)), h n (by omega)⟩
theorem nSum_ext {f g : Nat → Nat} : ∀ n, (∀ k, k < n → f k = g k) → nSum f n = nSum g n
  | 0, _ => rfl
  | n + 1, h => by
    show nSum f n + f n = nSum g n + g n
    rw [nSum_ext n (fun k hk => h k (by omega)), h n (by omega)]
theorem nMax_ext {f g : Nat → Nat} : ∀ n, (∀ k, k < n → f k = g k) → nMax f n = nMax g n
  | 0, _ => rfl
  | n + 1, h => by
    show max (nMax f n) (f n) = max (nMax g n) (g n)
    rw [nMax_ext n (fun k hk => h k (by omega)), h n (by omega)]
section
variable {d : Nat} {Q : Value → aS → Prop} {S : aS} {t w a : Nat} {r : zR} {z : zS} {o : Option Nat}
theorem wM_between {v : Int32} (hx : Q (.int (nI (cl99 v))) S) : aWM (d + 1) 2 [.int v, .int 0, .int 99] S Q := by
  refine mM_between ⟨fun c => ⟨fun c2 => ?_, fun c2 => ?_⟩, fun c => ?_⟩
  all_goals unfold cl99 at hx
  · obtain ⟨j, hj, rfl⟩ := nI_of (Int32.not_lt.mpr c)
    rw [if_neg (Int32.not_lt.mpr c), if_neg (Int32.not_lt.mpr c2), nI_clamp hj] at hx
    exact hx
  · rw [if_neg (Int32.not_lt.mpr c), if_pos (Int32.not_le.mp c2)] at hx
    exact hx
  · rw [if_pos (Int32.not_le.mp c)] at hx
    exact hx
theorem wM_likelyBy (hr : okR r) (hz : okZ r z) (h : RM r S) (hs : stM r z (ga S 1032) 0) (hw : w < rWd r) (ho : okW r o) (hx : ∀ S', frM eC nF S S' → Q (.int (nI (lkV r o (zLe z w) w a))) S') : aWM (d + 4) 45 [.ref 1000, .int (nI w), .int (whoI o), .int (nI a)] S Q := by
  have hwd := hr.2.1
  have hwr := hr.1
  have hk3 := kdV_le hr ho
  have hf9 := fdV_le hr ho hw
  obtain ⟨hwe1, hwe, hgo, -⟩ := hr.2.2.2.2.2.1 w hw
  have hle := hz.2.2.2.2.1 w hw
  obtain ⟨h1, h2, h3, h4, h5⟩ := id h
  have e8 : (8 : Int32) + nI w = nI (8 + w) := nI_add 8 w
  have eL : ga S 1032 (8 + w) = nI (zLe z w) := by
    have := hs.2.2.2.2.2.1 w hw
    rw [Nat.zero_add] at this
    exact this
  have k103 : ∀ S1 v, frM eC nF S S1 → ¬ zLe z w = 0 → cl99 v = lkB r o (zLe z w) w a → aBM (d + 3) 45 Q 103 [none, none, none, none, none, some (.int (nI (kdV r o))), some (.int v)] [] S1 := by
    intro S1 v hf h0 hv
    refine bM_likelyBy_103 (wM_between ?_)
    have hb := lkB_le hr ho hw (zLe z w) a
    have hx1 := hx S1 hf
    unfold lkV at hx1
    rw [if_neg h0] at hx1
    rw [hv]
    refine ⟨fun c => ?_, fun c => ?_⟩
    · rw [(sly_eq (by omega) (by omega)).1 c] at hx1; exact hx1
    · rw [(sly_eq (by omega) (by omega)).2 c]; exact hx1
  have k53 : ∀ v0, v0 ≤ 99 → (rWf r = none → v0 = lkB r o (zLe z w) w a) → ¬ zLe z w = 0 → aBM (d + 3) 45 Q 53 [some (.ref 1000), some (.int (nI w)), none, some (.int (nI a)), some (.int (nI (fdV r o w))), some (.int (nI (kdV r o))), none] [.int (nI v0)] S := by
    intro v0 hv99 hv h0
    have i24 : vp_in (nI w) 24 := nI_in (by omega) (by decide)
    refine bM_likelyBy_53 ⟨vin (by decide), vin (by decide), fun q => ?_, fun q => ⟨i24, vin (by decide), vin (by decide), i24, vin (by decide), by rw [e8]; exact nI_in (by omega) (by decide), vin (by decide), vin (by decide), ?_⟩⟩
    · cases hF : rWf r with
      | none => exact k103 S _ frM.rf h0 (by rw [cl99_nI hv99]; exact hv hF)
      | some F =>
        rw [hF] at h2
        obtain ⟨hh, ss, b, e1, e2, e3, e4, e5, e6, e7⟩ := h2
        have := e1.1
        rw [c0, e3, e4] at q
        exact absurd q (nI_ge (by omega) (by omega))
    · cases hF : rWf r with
      | none =>
        rw [hF] at h2
        exact absurd (by rw [c0]; rw [show ga S 1013 0 = ga S 1012 0 from h2]; exact Int32.le_refl _) q
      | some F =>
        rw [hF] at h2
        obtain ⟨hh, ss, b, e1, e2, e3, e4, e5, e6, e7⟩ := h2
        have key : ∀ S1, frM eC nF S S1 → (∀ i, i < 5 → fcM 1 S1 i = fcs [rWe r w, fdV r o w, rGo r w, zLe z w, a] i) → aWM (d + 3) 16 [.ref 1000, .int 0] S1 (fun v1 S2 => aI v1 (fun x3 => aBM (d + 3) 45 Q 103 [none, none, none, none, none, some (.int (nI (kdV r o))), some (.int x3)] [] S2)) := by
          intro S1 hf hfc
          refine wM_worked (l := 0) (a := b) e1 e2 (by decide) ((hf.1 1012 0 (by unfold eC; omega)).trans e3) ((hf.1 1013 0 (by unfold eC; omega)).trans e4) (by omega) (fun i c hi => (hf.1 1014 _ (by unfold eC; omega)).trans (e6 i c hi)) (fun S2 hf2 => ?_)
          refine k103 S2 _ (hf.tr (hf2.le (fun i hi => by unfold wC at hi; unfold eC; omega) (fun _ q => q))) h0 ?_
          unfold lkB
          rw [hF, e7 _ _ hfc]
        refine key _ ?_ ?_
        · exact ((((frM_sa (show eC 1026 by unfold eC; omega)).tr (frM_sa (show eC 1026 by unfold eC; omega))).tr (frM_sa (show eC 1026 by unfold eC; omega))).tr (frM_sa (show eC 1026 by unfold eC; omega))).tr (frM_sa (show eC 1026 by unfold eC; omega))
        · intro i hi
          unfold fcM
          simp only [c1, c2, c3, c4, c5, e8, nI_clamp (show 8 + w < 2 ^ 31 by omega), nI_clamp (show w < 2 ^ 31 by omega), ga_sa]
          match i, hi with
          | 0, _ => simp (decide := true) only [if_true, if_false]; exact h1.2.2.2.2.2.2.1 w hw
          | 1, _ => rfl
          | 2, _ => simp (decide := true) only [if_true, if_false]; exact h1.2.2.2.2.2.2.2.1 w hw
          | 3, _ => simp (decide := true) only [if_true, if_false]; exact eL
          | 4, _ => rfl
          | n + 5, q => exact absurd q (by omega)
  have k30 : ¬ zLe z w = 0 → aBM (d + 3) 45 Q 30 [some (.ref 1000), some (.int (nI w)), none, some (.int (nI a)), some (.int (nI (fdV r o w))), none, none] [.int (nI (kdV r o))] S := by
    intro h0
    have i24 : vp_in (nI w) 24 := nI_in (by omega) (by decide)
    have k2 : nI (kdV r o) = 2 ↔ kdV r o = 2 := by rw [show (2 : Int32) = nI 2 from rfl, nI_eq (by omega) (by decide)]
    have k1 : nI (kdV r o) = 1 ↔ kdV r o = 1 := by rw [show (1 : Int32) = nI 1 from rfl, nI_eq (by omega) (by decide)]
    refine bM_likelyBy_30 ?_
    rw [nI_clamp (show w < 2 ^ 31 by omega), h1.2.2.2.2.2.2.1 w hw, h1.2.2.2.2.2.2.2.1 w hw, nI_add, k2, k1, show (9 : Int32) = nI 9 from rfl, nI_leI (by omega) (by decide)]
    refine ⟨fun q2 => ⟨fun q1 => ⟨i24, k53 _ (by omega) (fun hF => ?_) h0⟩, fun q1 => ⟨i24, fun q9 => ⟨i24, k53 _ (by omega) (fun hF => ?_) h0⟩, fun q9 => k53 0 (by omega) (fun hF => ?_) h0⟩⟩, fun q2 => k53 1 (by omega) (fun hF => ?_) h0⟩
    all_goals
      unfold lkB
      rw [hF]
      dsimp only
    · rw [if_neg q2, if_neg (fun q => q1 q.1)]
    · rw [if_neg q2, if_neg (fun q => by omega)]
    · rw [if_neg q2, if_pos ⟨q1, by omega⟩]
    · rw [if_pos q2]
  refine mM_likelyBy ?_
  rw [e8, nI_clamp (show 8 + w < 2 ^ 31 by omega), eL, nI_eq0 (by omega)]
  refine ⟨nI_in (by omega) (by decide), fun c => ?_, fun c => ?_⟩
  · have k := k30 c
    cases o with
    | none => exact ⟨fun q => absurd q (by decide), fun _ => ⟨fun q => absurd q (by decide), fun _ => k⟩⟩
    | some j =>
      have hj := ho j rfl
      have e12 : (12 : Int32) * nI j + nI w = nI (12 * j + w) := by rw [show (12 : Int32) = nI 12 from rfl, nI_mulN, nI_add]
      have ef : ga S 1010 (12 * j + w) = nI (fdV r (some j) w) := h1.2.2.2.2.2.2.2.2.2 j w hj hw
      have ek : ga S 1005 j = nI (kdV r (some j)) := h1.2.2.2.2.1 j hj
      show ((0 : Int32) ≤ nI j → _) ∧ _
      unfold whoI
      dsimp only
      rw [e12, nI_clamp (show 12 * j + w < 2 ^ 31 by omega), nI_clamp (show j < 2 ^ 31 by omega), ef, ek]
      have p := nI_pos' (show j < 2 ^ 31 by omega)
      exact ⟨fun _ => ⟨nI_in (by omega) (by decide), fun _ => ⟨nI_in (by omega) (by decide), k⟩, fun q => absurd p q⟩, fun q => absurd p q⟩
  · have := hx S frM.rf
    unfold lkV at this
    rw [if_pos c] at this
    exact this
theorem wM_doesBy {sum most : Nat} (h : RM r S) (hs : stM r z (ga S 1032) 0) (hx : ∀ S', frM eC nF S S' → Q (.int (nI (dsV r (zSp z) sum most))) S') : aWM (d + 4) 49 [.ref 1000, .int (nI sum), .int (nI most)] S Q := by
  obtain ⟨h1, h2, h3, h4, h5⟩ := id h
  have eS : ga S 1032 3 = nI (zSp z) := hs.2.2.2.1
  refine mM_doesBy ⟨vin (by decide), vin (by decide), fun q => wM_between ?_, fun q => ⟨vin (by decide), vin (by decide), vin (by decide), vin (by decide), ?_⟩⟩
  · cases hF : rDf r with
    | none =>
      have := hx S frM.rf
      unfold dsV at this
      rw [hF] at this
      exact this
    | some F =>
      rw [hF] at h3
      obtain ⟨hh, ss, b, e1, e2, e3, e4, e5, e6, e7⟩ := h3
      have := e1.1
      rw [c1, e3, e4] at q
      exact absurd q (nI_ge (by omega) (by omega))
  · cases hF : rDf r with
    | none =>
      rw [hF] at h3
      exact absurd (by rw [c1]; rw [show ga S 1013 1 = ga S 1012 1 from h3]; exact Int32.le_refl _) q
    | some F =>
      rw [hF] at h3
      obtain ⟨hh, ss, b, e1, e2, e3, e4, e5, e6, e7⟩ := h3
      have key : ∀ S1, frM eC nF S S1 → (∀ i, i < 3 → fcM 6 S1 i = fcs [sum, most, zSp z] i) → aWM (d + 3) 16 [.ref 1000, .int 1] S1 (fun v4 S5 => aI v4 (fun x6 => aWM (d + 3) 2 [.int x6, .int 0, .int 99] S5 (fun v7 S8 => aI v7 (fun x9 => Q (.int x9) S8)))) := by
        intro S1 hf hfc
        refine wM_worked (l := 1) (a := b) e1 e2 (by decide) ((hf.1 1012 1 (by unfold eC; omega)).trans e3) ((hf.1 1013 1 (by unfold eC; omega)).trans e4) (by omega) (fun i c hi => (hf.1 1014 _ (by unfold eC; omega)).trans (e6 i c hi)) (fun S2 hf2 => ?_)
        refine wM_between ?_
        have := hx S2 (hf.tr (hf2.le (fun i hi => by unfold wC at hi; unfold eC; omega) (fun _ q => q)))
        unfold dsV at this
        rw [hF] at this
        dsimp only at this
        rw [← e7 _ _ hfc] at this
        exact this
      refine key _ ?_ ?_
      · exact ((frM_sa (show eC 1026 by unfold eC; omega)).tr (frM_sa (show eC 1026 by unfold eC; omega))).tr (frM_sa (show eC 1026 by unfold eC; omega))
      · intro i hi
        unfold fcM
        simp only [c3, c6, c7, c8, ga_sa]
        match i, hi with
        | 0, _ => rfl
        | 1, _ => rfl
        | 2, _ => simp (decide := true) only [if_true, if_false]; exact eS
        | n + 3, q => exact absurd q (by omega)
theorem wX_goodOf {p0 fr sp : Nat} {wd : Nat → Nat} (hr : okR r) (hT : isT t) (h : RX r S t) (hp : akd p0 = 20) (hsc : ¬ scE p0) (hl : fr + rFo r ≤ aln p0) (hl2 : aln p0 < 2 ^ 31) (hrow : ∀ i, i < rFo r → ga S p0 (fr + i) = nI (wd i) ∧ wd i < rWd r) (hx : ∀ S', frY scE S S' → Q (.int (nI (dsV r sp (nSum (fun i => rGo r (wd i)) (rFo r)) (nMax (fun i => rGo r (wd i)) (rFo r))))) S') : aWX (d + 3) 74 [.ref t, .ref p0, .int (nI fr), .int (nI sp)] S Q := by
  have ht := hT.re
  have hfo := hr.2.2.1.2
  obtain ⟨h1, h2, h3, h4, h5⟩ := id h
  obtain ⟨f1, f2⟩ := isFo_w hT
  refine mX_Realm_goodOf (gK_ok ht.1 ?_)
  have hgo : ∀ i, i < rFo r → rGo r (wd i) ≤ 20 := fun i hi => (hr.2.2.2.2.2.1 _ (hrow i hi).2).2.2.1
  have loop : ∀ m k, k + m = rFo r → aBX (d + 2) 74 Q 6 [some (.ref t), some (.ref p0), some (.int (nI fr)), some (.int (nI sp)), some (.int (nI (nSum (fun i => rGo r (wd i)) k))), some (.int (nI (nMax (fun i => rGo r (wd i)) k))), some (.int (nI k)), none, none] [] S := by
    intro m
    induction m with
    | zero =>
      intro k hk
      obtain rfl : k = rFo r := by omega
      refine bX_Realm_goodOf_6 (gK_ok ht.1 ?_)
      rw [h1.2.2.1]
      refine ⟨fun _ => gK_ok ht.1 (wX_isTold f2 h3 ?_), fun q => absurd (nI_le (Nat.le_refl _) (by omega)) q⟩
      cases hF : rDf r with
      | none =>
        refine ⟨fun q => absurd rfl q, fun _ => ?_⟩
        rw [cl99_X]
        have := hx S frY.rf
        unfold dsV at this
        rw [hF] at this
        exact this
      | some F =>
        rw [hF] at h3
        obtain ⟨hh, ss, b, e1, e2, e3, e4, e5, e6, e7⟩ := h3
        obtain ⟨⟨a1, a2, a4, a5, a6, a7, a8, a9, a10⟩, ⟨a14, a15⟩, -, ⟨b1, b2, b3⟩⟩ := art_t hT
        have sf : ∀ S1 S2, frY (fun i => i = art (art t 15) 1) S1 S2 → frY scE S1 S2 := fun S1 S2 q => q.le (fun i hi => by
          rw [a15, b1] at hi
          unfold scE
          rcases hT with rfl | rfl <;> omega)
        refine ⟨fun _ => gK_ok ht.1 (wX_setFact (n := 0) f2 (by decide) (fun S1 g1 y1 => ?_)), fun q => absurd q (show ¬ (1 : Int32) = 0 by decide)⟩
        refine bX_Realm_goodOf_53 (gK_ok ht.1 (wX_setFact (n := 1) f2 (by decide) (fun S2 g2 y2 => ?_)))
        refine bX_Realm_goodOf_58 (gK_ok ht.1 (wX_setFact (n := 2) f2 (by decide) (fun S5 g3 y3 => ?_)))
        have q5 := ((sf _ _ g1).tr (sf _ _ g2)).tr (sf _ _ g3)
        have gg : ∀ k, gi S5 (art t 15) k = gi S (art t 15) k := fun k => (q5.1 _ k (rc_sc hT _ (by rw [a15]; exact Or.inr rfl))).1
        have ga' : ∀ k, ga S5 (art (art t 15) 3) k = ga S (art (art t 15) 3) k := fun k => (q5.1 _ k (rc_sc hT _ (by rw [a15, b3]; exact Or.inl ⟨by omega, by omega⟩))).2.1
        refine bX_Realm_goodOf_63 (gK_ok ht.1 (wX_held e1 e2 f2 ((gg 4).trans e3) ((gg 5).trans e4) (by omega) (fun i c hi => (ga' _).trans (e6 i c hi)) (fun S6 g6 => ?_)))
        have ef : F (fcX (art t 15) S5) = F (fcs [nSum (fun i => rGo r (wd i)) (rFo r), nMax (fun i => rGo r (wd i)) (rFo r), sp]) := by
          refine e7 _ _ (fun i hi => ?_)
          unfold fcX
          rw [y3, y2, y1]
          match i, hi with
          | 0, _ => rfl
          | 1, _ => rfl
          | 2, _ => rfl
          | n + 3, q => exact absurd q (by omega)
        rw [ef]
        have := hx S6 (q5.tr (g6.Y.le (fun i hi => by
          rw [a15, b2] at hi
          unfold scE
          rcases hT with rfl | rfl <;> omega)))
        unfold dsV at this
        rw [hF] at this
        exact this
    | succ m ih =>
      intro k hk
      obtain ⟨e1, e2⟩ := hrow k (by omega)
      have h20 := hgo k (by omega)
      have hS := nSum_le (f := fun i => rGo r (wd i)) (m := 20) k (fun i hi => hgo i (by omega))
      have hM := nMax_le (f := fun i => rGo r (wd i)) (m := 20) k (fun i hi => hgo i (by omega))
      refine bX_Realm_goodOf_6 (gK_ok ht.1 ?_)
      rw [h1.2.2.1, nI_add, nI_clamp (show fr + k < 2 ^ 31 by omega), e1]
      refine ⟨fun q => absurd q (nI_ge (by omega) (by omega)), fun _ => ⟨fun q => absurd q (nI_pos (by omega)), fun _ => gK_ok hp ⟨fun q => absurd q (nI_ge (a := fr + k) (b := aln p0) (by omega) hl2), fun _ => gK_ok hp ⟨nI_in (by omega) hl2, wX_goodOfWord hr ht h1 ?_⟩⟩⟩⟩
      have e3 : pAt (rWd r) (rGo r) 0 (nI (wd k)) = nI (rGo r (wd k)) := by
        unfold pAt
        rw [idx_some (by have := hr.2.1; omega) e2]
      rw [e3]
      refine bX_Realm_goodOf_27 ?_
      rw [nI_add, nI_max (by omega) (by omega), nI_1]
      exact ih (k + 1) (by omega)
  exact loop (rFo r) 0 (by omega)
end
