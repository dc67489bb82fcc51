/-! which wholes clash: both sides -/
def clS (r : zR) (z : zS) (i j : Nat) : Bool := (List.range (rFo r)).any fun f => (List.range (rFo r)).any fun g => rCl r (zSk z i f) (zSk z j g)
theorem clS_iff {r : zR} {z : zS} {i j : Nat} : clS r z i j = true ↔ ∃ f g, f < rFo r ∧ g < rFo r ∧ rCl r (zSk z i f) (zSk z j g) = true := by
  unfold clS
  rw [List.any_eq_true]
  constructor
  · rintro ⟨f, hf, h⟩
    rw [List.any_eq_true] at h
    obtain ⟨g, hg, h⟩ := h
    exact ⟨f, g, List.mem_range.mp hf, List.mem_range.mp hg, h⟩
  · rintro ⟨f, g, hf, hg, h⟩
    exact ⟨f, List.mem_range.mpr hf, by rw [List.any_eq_true]; exact ⟨g, List.mem_range.mpr hg, h⟩⟩
def bB (b : Bool) : Int32 := cond b 1 0
theorem bB_t : bB true = 1 := rfl
theorem bB_f : bB false = 0 := rfl
def fsB (r : zR) (z : zS) (i : Nat) : Nat → Nat
  | 0 => 0
  | k + 1 => if clS r z i k = true then fsB r z i k ||| 2 ^ k else fsB r z i k
theorem fsB_bit (r : zR) (z : zS) (i : Nat) : ∀ k w, (fsB r z i k).testBit w = (decide (w < k) && clS r z i w)
  | 0, w => by
    show (0 : Nat).testBit w = _
    rw [Nat.zero_testBit, decide_eq_false (Nat.not_lt_zero w), Bool.false_and]
  | k + 1, w => by
    unfold fsB
    by_cases c : clS r z i k = true
    · rw [if_pos c, Nat.testBit_or, fsB_bit r z i k w, Nat.testBit_two_pow]
      by_cases e : k = w
      · subst e
        rw [decide_eq_true rfl, decide_eq_true (Nat.lt_succ_self k), c, Bool.or_true]
        rfl
      · rw [decide_eq_false e, Bool.or_false]
        congr 1
        exact decide_eq_decide.mpr (by omega)
    · rw [if_neg c, fsB_bit r z i k w]
      by_cases e : k = w
      · subst e
        rw [Bool.not_eq_true] at c
        rw [c, Bool.and_false, Bool.and_false]
      · congr 1
        exact decide_eq_decide.mpr (by omega)
theorem fsB_lt (r : zR) (z : zS) (i k : Nat) : fsB r z i k < 2 ^ k := Nat.lt_pow_two_of_testBit _ (fun j hj => by rw [fsB_bit, decide_eq_false (by omega), Bool.false_and])
/-- clashes among these wholes -/
def clN (r : zR) (z : zS) (P : Nat → Bool) : Nat := nSum (fun a => nSum (fun b => if (P a && P b && clS r z a b) = true then 1 else 0) (a + 1)) (zSp z)
theorem clN_ext {r : zR} {z : zS} {P P' : Nat → Bool} (h : ∀ k, k < zSp z → P k = P' k) : clN r z P = clN r z P' := nSum_ext _ (fun a ha => nSum_ext _ (fun b hb => by rw [h a ha, h b (by omega)]))
section
variable {d : Nat} {Q : Value → aS → Prop} {S : aS} {r : zR} {z : zS} {t p i j : Nat}
theorem wX_doClash {v w : Nat} (hr : okR r) (hT : isT t) (h : RX r S t) (hv : v < rWd r) (hw : w < rWd r) (hx : Q (.int (bB (rCl r v w))) S) : aWX (d + 2) 66 [.ref t, .int (nI v), .int (nI w)] S Q := by
  have hwd := hr.2.1
  have ht := hT.re
  obtain ⟨c, ⟨hc1, hc2⟩, e⟩ := h.2.2.2.1 v hv
  refine mX_Realm_doClash (gK_ok ht.1 (wX_hasWord hr ht h.1 ?_))
  rw [idx_some (by omega) hv]
  refine ⟨fun q => absurd q bI_some, fun _ => wX_hasWord hr ht h.1 ?_⟩
  rw [idx_some (by omega) hw]
  refine ⟨fun q => absurd q bI_some, fun _ => gK_ok ht.1 (gK_ok ht.2.2.2.2.2.2.2.1 ⟨by rw [ht.2.2.2.2.2.2.2.2]; exact nI_in (by omega) (by decide), ?_⟩)⟩
  rw [nI_clamp (by omega), e, bitAt (by omega) (by omega), hc2 w, decide_eq_true hw, Bool.true_and]
  cases hb : rCl r v w with
  | true => rw [hb] at hx; exact ⟨fun q => absurd rfl q, fun _ => ⟨Or.inr rfl, hx⟩⟩
  | false => rw [hb] at hx; exact ⟨fun _ => ⟨Or.inl rfl, hx⟩, fun q => absurd q (by decide)⟩
theorem wX_areClashing (hr : okR r) (hz : okZ r z) (hG : stG p) (hT : isT t) (h : RX r S t) (hs : stX r z S p) (hi : i < 16) (hj : j < zSp z) (hx : Q (.int (bB (decide (i < zSp z) && clS r z i j))) S) : aWX (d + 3) 100 [.ref p, .ref t, .int (nI i), .int (nI j)] S Q := by
  have hwd := hr.2.1
  have hfo := hr.2.2.1.2
  have hsp := hz.2.2.1
  have ht := hT.re
  refine mX_Standing_areClashing (gK_ok hG.1.1 ?_)
  have k2 : ∀ m f, f + m = rFo r → (∀ f' g, f' < f → g < rFo r → i < zSp z → rCl r (zSk z i f') (zSk z j g) = false) → aBX (d + 2) 100 Q 2 [some (.ref p), some (.ref t), some (.int (nI i)), some (.int (nI j)), some (.int (nI f)), none] [] S := by
    intro m
    induction m with
    | zero =>
      intro f hf hn
      refine bX_Standing_areClashing_2 (gK_ok ht.1 ?_)
      rw [h.1.2.2.1]
      refine ⟨fun _ => ⟨Or.inl rfl, ?_⟩, fun q => absurd (nI_le (by omega) (by omega)) q⟩
      have : (decide (i < zSp z) && clS r z i j) = false := by
        by_cases c : i < zSp z
        · rw [decide_eq_true c, Bool.true_and]
          cases hc : clS r z i j with
          | false => rfl
          | true =>
            obtain ⟨f', g, a1, a2, a3⟩ := clS_iff.mp hc
            rw [hn f' g (by omega) a2 c] at a3
            cases a3
        · rw [decide_eq_false c, Bool.false_and]
      rw [this] at hx
      exact hx
    | succ m ih =>
      intro f hf hn
      refine bX_Standing_areClashing_2 (gK_ok ht.1 ?_)
      rw [h.1.2.2.1]
      refine ⟨fun q => absurd q (nI_ge (by omega) (by omega)), fun _ => ?_⟩
      have k8 : ∀ m2 g, g + m2 = rFo r → (∀ g', g' < g → i < zSp z → rCl r (zSk z i f) (zSk z j g') = false) → aBX (d + 2) 100 Q 8 [some (.ref p), some (.ref t), some (.int (nI i)), some (.int (nI j)), some (.int (nI f)), some (.int (nI g))] [] S := by
        intro m2
        induction m2 with
        | zero =>
          intro g hg hn2
          refine bX_Standing_areClashing_8 (gK_ok ht.1 ?_)
          rw [h.1.2.2.1]
          refine ⟨fun _ => ?_, fun q => absurd (nI_le (by omega) (by omega)) q⟩
          rw [nI_1]
          refine ih (f + 1) (by omega) (fun f' g' a1 a2 a3 => ?_)
          rcases Nat.lt_or_ge f' f with q | q
          · exact hn f' g' q a2 a3
          · rw [show f' = f by omega]; exact hn2 g' (by omega) a3
        | succ m2 ih2 =>
          intro g hg hn2
          refine bX_Standing_areClashing_8 (gK_ok ht.1 ?_)
          rw [h.1.2.2.1]
          refine ⟨fun q => absurd q (nI_ge (by omega) (by omega)), fun _ => wX_spikeAt hr hz hG.1 hs (nI_lt (by omega) (by omega)) (wX_spikeAt hr hz hG.1 hs (nI_lt (by omega) (by omega)) ?_)⟩
          have e2 : pSpike r z (nI j) (nI g) = nI (zSk z j g) := by
            unfold pSpike
            rw [idx_some (by omega) hj, idx_some (by omega) (show g < rFo r by omega)]
          rw [e2, nI_1]
          by_cases c : i < zSp z
          · have e1 : pSpike r z (nI i) (nI f) = nI (zSk z i f) := by
              unfold pSpike
              rw [idx_some (by omega) c, idx_some (by omega) (show f < rFo r by omega)]
            rw [e1]
            refine wX_doClash hr hT h (hz.2.2.2.2.2 i f c (by omega)).1 (hz.2.2.2.2.2 j g hj (by omega)).1 ?_
            cases hb : rCl r (zSk z i f) (zSk z j g) with
            | true =>
              refine ⟨fun q => absurd q (by decide), fun _ => ⟨Or.inr rfl, ?_⟩⟩
              rw [decide_eq_true c, clS_iff.mpr ⟨f, g, by omega, by omega, hb⟩] at hx
              exact hx
            | false =>
              refine ⟨fun _ => ih2 (g + 1) (by omega) (fun g' a1 a2 => ?_), fun q => absurd rfl q⟩
              rcases Nat.lt_or_ge g' g with q | q
              · exact hn2 g' q a2
              · rw [show g' = g by omega]; exact hb
          · have e1 : pSpike r z (nI i) (nI f) = -1 := by
              unfold pSpike
              rw [idx_none (Or.inr (nI_le (by omega) (by omega)))]
            rw [e1]
            refine mX_Realm_doClash (gK_ok ht.1 (wX_hasWord hr ht h.1 ?_))
            rw [idx_neg]
            refine ⟨fun _ => ⟨Or.inl rfl, ?_⟩, fun q => absurd rfl q⟩
            exact ⟨fun _ => ih2 (g + 1) (by omega) (fun g' a1 a2 => absurd a2 c), fun q => absurd rfl q⟩
      exact k8 (rFo r) 0 (by omega) (fun g' a => absurd a (Nat.not_lt_zero _))
  exact k2 (rFo r) 0 (by omega) (fun f' g a => absurd a (Nat.not_lt_zero _))
def foeV (r : zR) (z : zS) (i : Nat) : Nat := if i < zSp z then fsB r z i (zSp z) else 0
theorem foeV_bit (r : zR) (z : zS) (i w : Nat) : (foeV r z i).testBit w = (decide (i < zSp z) && (decide (w < zSp z) && clS r z i w)) := by
  unfold foeV
  by_cases c : i < zSp z
  · rw [if_pos c, decide_eq_true c, fsB_bit, Bool.true_and]
  · rw [if_neg c, decide_eq_false c, Nat.zero_testBit, Bool.false_and]
theorem foeV_lt {r : zR} {z : zS} (hz : okZ r z) (i : Nat) : foeV r z i < 1024 := by
  have h1 := fsB_lt r z i (zSp z)
  have h2 := Nat.pow_le_pow_right (show 0 < 2 by decide) hz.2.2.1
  unfold foeV
  split <;> omega
theorem wX_foesOf (hr : okR r) (hz : okZ r z) (hG : stG p) (hT : isT t) (h : RX r S t) (hs : stX r z S p) (hi : i < 16) (hx : Q (.int (nI (foeV r z i))) S) : aWX (d + 4) 101 [.ref p, .ref t, .int (nI i)] S Q := by
  have hsp := hz.2.2.1
  refine mX_Standing_foesOf (gK_ok hG.1.1 ?_)
  have loop : ∀ m k, k + m = zSp z → aBX (d + 3) 101 Q 4 [some (.ref p), some (.ref t), some (.int (nI i)), some (.int (nI (if i < zSp z then fsB r z i k else 0))), some (.int (nI k))] [] S := by
    intro m
    induction m with
    | zero =>
      intro k hk
      obtain rfl : k = zSp z := by omega
      refine bX_Standing_foesOf_4 (gK_ok hG.1.1 ?_)
      rw [hs.2.2.2.1]
      exact ⟨fun _ => hx, fun q => absurd (nI_le (Nat.le_refl _) (by omega)) q⟩
    | succ m ih =>
      intro k hk
      have ih := ih (k + 1) (by omega)
      refine bX_Standing_foesOf_4 (gK_ok hG.1.1 ?_)
      rw [hs.2.2.2.1]
      refine ⟨fun q => absurd q (nI_ge (by omega) (by omega)), fun _ => wX_areClashing hr hz hG hT h hs hi (by omega) ?_⟩
      rw [nI_1, (smod12 k (by omega)).2, nI_orN]
      unfold fsB at ih
      by_cases c : i < zSp z
      · rw [if_pos c] at ih ⊢
        rw [decide_eq_true c, Bool.true_and]
        cases hb : clS r z i k with
        | true =>
          rw [hb, if_pos rfl] at ih
          exact ⟨fun q => absurd q (by decide), fun _ => ih⟩
        | false =>
          rw [hb, if_neg (by decide)] at ih
          exact ⟨fun _ => ih, fun q => absurd rfl q⟩
      · rw [if_neg c] at ih ⊢
        rw [decide_eq_false c, Bool.false_and]
        exact ⟨fun _ => ih, fun q => absurd rfl q⟩
  have := loop (zSp z) 0 (by omega)
  rw [show (if i < zSp z then fsB r z i 0 else 0) = 0 by unfold fsB; split <;> rfl] at this
  exact this
theorem two_shl : ∀ k, k < 12 → (2 : Int32) <<< (nI k &&& 31) - 1 = nI (2 ^ (k + 1) - 1) ∧ (1 : Int32) <<< (nI k &&& 31) - 1 = nI (2 ^ k - 1) := by decide +kernel
theorem wX_clashCount (hr : okR r) (hz : okZ r z) (hG : stG p) (hT : isT t) (h : RX r S t) (hs : stX r z S p) (hx : Q (.int (nI (clN r z (fun _ => true)))) S) : aWX (d + 5) 102 [.ref p, .ref t] S Q := by
  have hsp := hz.2.2.1
  refine mX_Standing_clashCount (gK_ok hG.1.1 ?_)
  have loop : ∀ m k, k + m = zSp z → aBX (d + 4) 102 Q 4 [some (.ref p), some (.ref t), some (.int (nI (nSum (fun a => nSum (fun b => if (true && true && clS r z a b) = true then 1 else 0) (a + 1)) k))), some (.int (nI k))] [] S := by
    intro m
    induction m with
    | zero =>
      intro k hk
      obtain rfl : k = zSp z := by omega
      refine bX_Standing_clashCount_4 (gK_ok hG.1.1 ?_)
      rw [hs.2.2.2.1]
      exact ⟨fun _ => hx, fun q => absurd (nI_le (Nat.le_refl _) (by omega)) q⟩
    | succ m ih =>
      intro k hk
      have hp12 : (2 : Nat) ^ (k + 1) ≤ 2 ^ 11 := Nat.pow_le_pow_right (by decide) (by omega)
      have hand : foeV r z k &&& (2 ^ (k + 1) - 1) < 4096 := Nat.lt_of_le_of_lt Nat.and_le_left (by have := foeV_lt hz (r := r) k; omega)
      have hpc : pcN (foeV r z k &&& (2 ^ (k + 1) - 1)) = nSum (fun b => if (true && true && clS r z k b) = true then 1 else 0) (k + 1) := by
        unfold pcN
        rw [nSum_pad (n := k + 1) 12 (by omega) (fun b h1 h2 => if_neg (by rw [Nat.testBit_and, Nat.testBit_two_pow_sub_one, decide_eq_false (show ¬ b < k + 1 by omega), Bool.and_false]; decide))]
        refine nSum_ext _ (fun b hb => ?_)
        rw [Nat.testBit_and, Nat.testBit_two_pow_sub_one, decide_eq_true hb, Bool.and_true, foeV_bit, decide_eq_true (show k < zSp z by omega), decide_eq_true (show b < zSp z by omega)]
        rfl
      refine bX_Standing_clashCount_4 (gK_ok hG.1.1 ?_)
      rw [hs.2.2.2.1]
      refine ⟨fun q => absurd q (nI_ge (by omega) (by omega)), fun _ => wX_foesOf hr hz hG hT h hs (by omega) ?_⟩
      simp only [aI]
      rw [(two_shl k (by omega)).1, nI_andN]
      refine wX_bitCount hand ?_
      simp only [aI]
      rw [hpc, nI_add, nI_1]
      exact ih (k + 1) (by omega)
  exact loop (zSp z) 0 (by omega)
end
def woB (z : zS) (i : Nat) : Nat → Nat
  | 0 => 0
  | f + 1 => woB z i f ||| 2 ^ zSk z i f
theorem woB_bit (z : zS) (i : Nat) : ∀ k w, (woB z i k).testBit w = true ↔ ∃ f, f < k ∧ zSk z i f = w
  | 0, w => by
    show (0 : Nat).testBit w = true ↔ _
    rw [Nat.zero_testBit]
    constructor
    · intro q
      cases q
    · rintro ⟨f, q, -⟩
      exact absurd q (Nat.not_lt_zero _)
  | k + 1, w => by
    unfold woB
    rw [Nat.testBit_or, Bool.or_eq_true, woB_bit z i k w, Nat.testBit_two_pow, decide_eq_true_eq]
    constructor
    · rintro (⟨f, a, b⟩ | q)
      · exact ⟨f, by omega, b⟩
      · exact ⟨k, by omega, q⟩
    · rintro ⟨f, a, b⟩
      rcases Nat.lt_or_ge f k with q | q
      · exact Or.inl ⟨f, q, b⟩
      · rw [show f = k by omega] at b
        exact Or.inr b
section
variable {d : Nat} {Q : Value → aS → Prop} {S : aS} {r : zR} {z : zS} {i j : Nat}
theorem woB_lt (hr : okR r) (hz : okZ r z) (hi : i < zSp z) : ∀ k, k ≤ rFo r → woB z i k < 4096 := by
  intro k hk
  refine Nat.lt_pow_two_of_testBit (n := 12) _ (fun w hw => ?_)
  cases hb : (woB z i k).testBit w with
  | false => rfl
  | true =>
    obtain ⟨f, a, b⟩ := (woB_bit z i k w).mp hb
    have := (hz.2.2.2.2.2 i f hi (by omega)).1
    have := hr.2.1
    omega
theorem wM_wordsOf (hr : okR r) (hz : okZ r z) (h : RM r S) (hs : stM r z (ga S 1032) 0) (hi : i < zSp z) (hx : Q (.int (nI (woB z i (rFo r)))) S) : aWM (d + 1) 65 [.ref 1000, .int (nI i)] S Q := by
  have hwd := hr.2.1
  have hfo := hr.2.2.1.2
  have hsp := hz.2.2.1
  refine mM_wordsOf ?_
  have loop : ∀ m k, k + m = rFo r → aBM d 65 Q 4 [some (.ref 1000), some (.int (nI i)), some (.int (nI (woB z i k))), some (.int (nI k))] [] S := by
    intro m
    induction m with
    | zero =>
      intro k hk
      obtain rfl : k = rFo r := by omega
      refine bM_wordsOf_4 ?_
      rw [c2, h.1.2.2.1]
      exact ⟨vin (by decide), fun _ => hx, fun q => absurd (nI_le (Nat.le_refl _) (by omega)) q⟩
    | succ m ih =>
      intro k hk
      have e4 : (20 : Int32) + 4 * nI i + nI k = nI (20 + 4 * i + k) := by
        rw [show (4 : Int32) = nI 4 from rfl, show (20 : Int32) = nI 20 from rfl, nI_mulN, nI_add, nI_add]
      have e5 : ga S 1032 (20 + 4 * i + k) = nI (zSk z i k) := by
        have := hs.2.2.2.2.2.2 i k hi (by omega)
        rw [Nat.zero_add] at this
        exact this
      have hsk := (hz.2.2.2.2.2 i k hi (by omega)).1
      refine bM_wordsOf_4 ?_
      rw [c2, h.1.2.2.1, e4, nI_clamp (by omega), e5, (smod12 _ (by omega)).2, nI_orN, nI_1]
      exact ⟨vin (by decide), fun q => absurd q (nI_ge (by omega) (by omega)), fun _ => ⟨nI_in (by omega) (by decide), ih (k + 1) (by omega)⟩⟩
  exact loop (rFo r) 0 (by omega)
theorem wM_doClash (hr : okR r) (hz : okZ r z) (h : RM r S) (hs : stM r z (ga S 1032) 0) (hi : i < zSp z) (hj : j < zSp z) (hx : Q (.int (bB (clS r z i j))) S) : aWM (d + 2) 66 [.ref 1000, .int (nI i), .int (nI j)] S Q := by
  have hwd := hr.2.1
  have hfo := hr.2.2.1.2
  refine mM_doClash (wM_wordsOf hr hz h hs hi (wM_wordsOf hr hz h hs hj ?_))
  have ha := woB_lt hr hz hi (rFo r) (Nat.le_refl _)
  have hb := woB_lt hr hz hj (rFo r) (Nat.le_refl _)
  have loop : ∀ m k, k + m = rWd r → (∀ w, w < k → ∀ f g, f < rFo r → g < rFo r → zSk z i f = w → rCl r (zSk z i f) (zSk z j g) = false) → aBM (d + 1) 66 Q 10 [some (.ref 1000), none, none, some (.int (nI (woB z i (rFo r)))), some (.int (nI (woB z j (rFo r)))), some (.int (nI k))] [] S := by
    intro m
    induction m with
    | zero =>
      intro k hk hn
      obtain rfl : k = rWd r := by omega
      refine bM_doClash_10 ?_
      rw [c1, h.1.2.1]
      refine ⟨vin (by decide), fun _ => ⟨Or.inl rfl, ?_⟩, fun q => absurd (nI_le (Nat.le_refl _) (by omega)) q⟩
      cases hc : clS r z i j with
      | false => rw [hc] at hx; exact hx
      | true =>
        obtain ⟨f, g, a1, a2, a3⟩ := clS_iff.mp hc
        rw [hn _ (hz.2.2.2.2.2 i f hi a1).1 f g a1 a2 rfl] at a3
        cases a3
    | succ m ih =>
      intro k hk hn
      obtain ⟨c, ⟨hc1, hc2⟩, e⟩ := h.2.2.2.1 k (by omega)
      refine bM_doClash_10 ?_
      rw [c1, h.1.2.1, bitAt (by omega) (by omega), nI_clamp (by omega), e, nI_andN, nI_eq0 (by have := @Nat.and_le_left c (woB z j (rFo r)); omega), nI_1]
      refine ⟨vin (by decide), fun q => absurd q (nI_ge (by omega) (by omega)), fun _ => ⟨fun q => ih (k + 1) (by omega) (fun w hw f g a1 a2 a3 => ?_), fun q => ⟨nI_in (by omega) (by decide), fun q2 => ih (k + 1) (by omega) (fun w hw f g a1 a2 a3 => ?_), fun q2 => ⟨Or.inr rfl, ?_⟩⟩⟩⟩
      · rcases Nat.lt_or_ge w k with e1 | e1
        · exact hn w e1 f g a1 a2 a3
        · rw [if_pos ((woB_bit z i _ k).mpr ⟨f, a1, by omega⟩)] at q
          exact absurd rfl q
      · rcases Nat.lt_or_ge w k with e1 | e1
        · exact hn w e1 f g a1 a2 a3
        · have hwk : zSk z i f = k := by omega
          cases hcl : rCl r (zSk z i f) (zSk z j g) with
          | false => rfl
          | true =>
            have : (c &&& woB z j (rFo r)).testBit (zSk z j g) = true := by
              rw [Nat.testBit_and, hc2, decide_eq_true (hz.2.2.2.2.2 j g hj a2).1, ← hwk, hcl, (woB_bit z j _ _).mpr ⟨g, a2, rfl⟩]
              rfl
            rw [q2, Nat.zero_testBit] at this
            cases this
      · obtain ⟨w, hw⟩ : ∃ w, (c &&& woB z j (rFo r)).testBit w = true := Nat.exists_testBit_of_ne_zero q2
        rw [Nat.testBit_and, Bool.and_eq_true, hc2, Bool.and_eq_true] at hw
        obtain ⟨⟨w1, w2⟩, w3⟩ := hw
        obtain ⟨g, g1, rfl⟩ := (woB_bit z j _ w).mp w3
        have hbt : (woB z i (rFo r)).testBit k = true := by
          cases hb2 : (woB z i (rFo r)).testBit k with
          | true => rfl
          | false => rw [hb2] at q; exact absurd q (by decide)
        obtain ⟨f, f1, rfl⟩ := (woB_bit z i _ k).mp hbt
        rw [clS_iff.mpr ⟨f, g, f1, g1, w2⟩] at hx
        exact hx
  exact loop (rWd r) 0 (by omega) (fun w hw => absurd hw (Nat.not_lt_zero _))
theorem wM_clashesOf {n : Nat} (hr : okR r) (hz : okZ r z) (h : RM r S) (hs : stM r z (ga S 1032) 0) (hn : n < 2 ^ 31) (hx : Q (.int (nI (clN r z n.testBit))) S) : aWM (d + 3) 67 [.ref 1000, .int (nI n)] S Q := by
  have hsp := hz.2.2.1
  have e3 : ga S 1032 3 = nI (zSp z) := hs.2.2.2.1
  refine mM_clashesOf ?_
  have k4 : ∀ m a, a + m = zSp z → aBM (d + 2) 67 Q 4 [some (.ref 1000), some (.int (nI n)), some (.int (nI (nSum (fun a => nSum (fun b => if (n.testBit a && n.testBit b && clS r z a b) = true then 1 else 0) (a + 1)) a))), some (.int (nI a)), none] [] S := by
    intro m
    induction m with
    | zero =>
      intro a ha
      obtain rfl : a = zSp z := by omega
      refine bM_clashesOf_4 ?_
      rw [c3, e3]
      exact ⟨vin (by decide), fun _ => hx, fun q => absurd (nI_le (Nat.le_refl _) (by omega)) q⟩
    | succ m ih =>
      intro a ha
      refine bM_clashesOf_4 ?_
      rw [c3, e3]
      refine ⟨vin (by decide), fun q => absurd q (nI_ge (by omega) (by omega)), fun _ => ?_⟩
      have k12 : ∀ m2 b, b + m2 = a + 1 → aBM (d + 2) 67 Q 12 [some (.ref 1000), some (.int (nI n)), some (.int (nI (nSum (fun a => nSum (fun b => if (n.testBit a && n.testBit b && clS r z a b) = true then 1 else 0) (a + 1)) a + nSum (fun b => if (n.testBit a && n.testBit b && clS r z a b) = true then 1 else 0) b))), some (.int (nI a)), some (.int (nI b))] [] S := by
        intro m2
        induction m2 with
        | zero =>
          intro b hb
          obtain rfl : b = a + 1 := by omega
          refine bM_clashesOf_12 ⟨fun _ => ?_, fun q => absurd (nI_lt (by omega) (by omega)) q⟩
          rw [nI_1]
          exact ih (a + 1) (by omega)
        | succ m2 ih2 =>
          intro b hb
          have ih2 := ih2 (b + 1) (by omega)
          have hn1 : nSum (fun b => if (n.testBit a && n.testBit b && clS r z a b) = true then 1 else 0) (b + 1) = nSum (fun b => if (n.testBit a && n.testBit b && clS r z a b) = true then 1 else 0) b + (if (n.testBit a && n.testBit b && clS r z a b) = true then 1 else 0) := rfl
          rw [hn1, ← Nat.add_assoc] at ih2
          refine bM_clashesOf_12 ?_
          rw [bitAt hn (show a < 31 by omega), bitAt hn (show b < 31 by omega), nI_1 b, Int32.add_zero]
          generalize nSum (fun a => nSum (fun b => if (n.testBit a && n.testBit b && clS r z a b) = true then 1 else 0) (a + 1)) a + nSum (fun b => if (n.testBit a && n.testBit b && clS r z a b) = true then 1 else 0) b = X at ih2 ⊢
          refine ⟨fun q => absurd (nI_nlt (a := a) (b := b) (by omega) (by omega)) (fun e => e q), fun _ => ?_⟩
          by_cases hA : n.testBit a = true
          · rw [if_pos hA]
            refine ⟨fun q => absurd rfl q, fun _ => ?_⟩
            by_cases hB : n.testBit b = true
            · rw [if_pos hB]
              refine ⟨fun q => absurd rfl q, fun _ => wM_doClash hr hz h hs (by omega) (by omega) ?_⟩
              rw [hA, hB, Bool.true_and, Bool.true_and] at ih2
              cases hC : clS r z a b with
              | true =>
                rw [hC, if_pos rfl] at ih2
                refine ⟨fun q => absurd q (by decide), fun _ => ?_⟩
                rw [nI_1]
                exact ih2
              | false =>
                rw [hC, if_neg (by decide), Nat.add_zero] at ih2
                exact ⟨fun _ => ih2, fun q => absurd rfl q⟩
            · rw [if_neg hB]
              rw [if_neg (by simp [hB]), Nat.add_zero] at ih2
              exact ⟨fun _ => ih2, fun q => absurd q (by decide)⟩
          · rw [if_neg hA]
            rw [if_neg (by simp [hA]), Nat.add_zero] at ih2
            exact ⟨fun _ => ih2, fun q => absurd q (by decide)⟩
      exact k12 (a + 1) 0 (by omega)
  exact k4 (zSp z) 0 (by omega)
theorem wM_allWholes (hz : okZ r z) (hs : stM r z (ga S 1032) 0) (hx : Q (.int (nI (2 ^ zSp z - 1))) S) : aWM (d + 1) 68 [.ref 1000] S Q := by
  have hsp := hz.2.2.1
  refine mM_allWholes ⟨vin (by decide), ?_⟩
  rw [c3, show ga S 1032 3 = nI (zSp z) from hs.2.2.2.1, (two_shl _ (by omega)).2]
  exact hx
theorem clN_all : clN r z (2 ^ zSp z - 1).testBit = clN r z (fun _ => true) := clN_ext (fun k hk => by rw [Nat.testBit_two_pow_sub_one, decide_eq_true hk])
end
theorem pow10 {n : Nat} (h : n ≤ 10) : 2 ^ n - 1 < 1024 := by
  have := Nat.pow_le_pow_right (show 0 < 2 by decide) h
  omega
theorem tie_clashes : ok_clashes Rel := by
  refine tie_q (fun g t ok hT => ⟨nI (clN g.1 g.2.1.1 (fun _ => true)), fun S Q h hx => ?_, fun S Q h hx => ?_⟩)
  · refine mX_FoldedRealm_clashes (d := 99) ?_
    rw [h.1.2.1]
    exact wX_clashCount (d := 94) ok.1 ok.2.2.1.1 stG_41 hT h.2.1 h.2.2.1.1 (hx S frY.rf)
  · have h' := MM_0 ok h
    have hp := pow10 ok.2.2.1.1.2.2.1
    refine mM_clashes (d := 99) (wM_allWholes (d := 98) ok.2.2.1.1 h'.2.1.1 (wM_clashesOf (d := 96) ok.1 ok.2.2.1.1 h'.1 h'.2.1.1 (by omega) ?_))
    rw [clN_all]
    exact hx _ frM_0 (fun _ _ => rfl)
