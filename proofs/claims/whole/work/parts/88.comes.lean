/-! how likely a row is: both sides -/
def bFo (r : zR) (f : Nat) : Nat → Nat
  | 0 => 0
  | k + 1 => if rFd r k = f then bFo r f k ||| 2 ^ k else bFo r f k
theorem bFo_bit (r : zR) (f : Nat) : ∀ k w, (bFo r f k).testBit w = (decide (w < k) && decide (rFd r w = f))
  | 0, w => by
    show (0 : Nat).testBit w = _
    rw [Nat.zero_testBit, decide_eq_false (Nat.not_lt_zero w), Bool.false_and]
  | k + 1, w => by
    unfold bFo
    by_cases c : rFd r k = f
    · rw [if_pos c, Nat.testBit_or, bFo_bit r f k w, Nat.testBit_two_pow]
      by_cases e : k = w
      · subst e
        rw [decide_eq_true rfl, decide_eq_true (Nat.lt_succ_self k), decide_eq_true c, Bool.or_true]
        rfl
      · rw [decide_eq_false e, Bool.or_false]
        congr 1
        exact decide_eq_decide.mpr (by omega)
    · rw [if_neg c, bFo_bit r f k w]
      by_cases e : k = w
      · subst e
        rw [decide_eq_false c, Bool.and_false, Bool.and_false]
      · congr 1
        exact decide_eq_decide.mpr (by omega)
theorem bFo_lt (r : zR) (f k : Nat) : bFo r f k < 2 ^ k := Nat.lt_pow_two_of_testBit _ (fun i hi => by rw [bFo_bit, decide_eq_false (by omega), Bool.false_and])
section
variable {d : Nat} {Q : Value → aS → Prop} {S : aS} {r : zR} {z : zS} {t f f0 : Nat}
theorem wX_bitsOfFold (hr : okR r) (hT : isT t) (h : RX r S t) (hf : f < 100) (hx : Q (.int (nI (bFo r f (rWd r)))) S) : aWX (d + 1) 68 [.ref t, .int (nI f)] S Q := by
  have hwd := hr.2.1
  have ht := hT.re
  refine mX_Realm_bitsOfFold (gK_ok ht.1 ?_)
  have loop : ∀ m k, k + m = rWd r → aBX d 68 Q 4 [some (.ref t), some (.int (nI f)), some (.int (nI (bFo r f k))), some (.int (nI k))] [] S := by
    intro m
    induction m with
    | zero =>
      intro k hk
      obtain rfl : k = rWd r := by omega
      refine bX_Realm_bitsOfFold_4 (gK_ok ht.1 ?_)
      rw [h.1.2.1]
      exact ⟨fun _ => hx, fun q => absurd (nI_le (Nat.le_refl _) (by omega)) q⟩
    | succ m ih =>
      intro k hk
      have hf3 := (hr.2.2.2.2.2.1 k (by omega)).1
      refine bX_Realm_bitsOfFold_4 (gK_ok ht.1 ?_)
      rw [h.1.2.1, nI_clamp (by omega), h.1.2.2.2.2.2.1 k (by omega), nI_eq (by omega) (by omega), (smod12 k (by omega)).2, nI_orN, nI_1]
      have ih := ih (k + 1) (by omega)
      unfold bFo at ih
      refine ⟨fun q => absurd q (nI_ge (by omega) (by omega)), fun _ => ⟨fun q => absurd q (nI_ge (a := k) (b := 12) (by omega) (by decide)), fun _ => gK_ok ht.1 (gK_ok ht.2.2.1.1 ⟨by rw [ht.2.2.1.2]; exact nI_in (by omega) (by decide), fun c => ?_, fun c => ?_⟩)⟩⟩
      · rw [if_neg c] at ih
        exact ih
      · rw [if_pos c] at ih
        exact ih
  exact loop (rWd r) 0 (by omega)
theorem wX_bitCount {n : Nat} (hn : n < 4096) (hx : Q (.int (nI (pcN n))) S) : aWX (d + 1) 150 [.int (nI n)] S Q := by
  refine mX_Integer_bitCount ?_
  rw [← bcX_pc n hn] at hx
  exact hx
theorem wX_isRow {x : Int32} (hr : okR r) (hT : isT t) (h : RX r S t) (hf0 : f0 < rFo r) (h1 : rowB r (bq x) f0 → Q (.int 1) S) (h0 : ¬ rowB r (bq x) f0 → Q (.int 0) S) : aWX (d + 2) 70 [.ref t, .int x, .int (nI f0)] S Q := by
  have hwd := hr.2.1
  have hfo := hr.2.2.1.2
  have ht := hT.re
  refine mX_Realm_isRow (gK_ok ht.1 ?_)
  have loop : ∀ m k rest, k + m = rFo r → f0 ≤ k → (∀ f, f0 ≤ f → f < k → cntB r (bq x) f = 1) → (∀ i, i < 32 → bq rest i = (bq x i && !(decide (i < rWd r) && (decide (f0 ≤ rFd r i) && decide (rFd r i < k))))) → aBX (d + 1) 70 Q 4 [some (.ref t), none, none, some (.int rest), some (.int (nI k)), none] [] S := by
    intro m
    induction m with
    | zero =>
      intro k rest hk hk0 hc hb
      obtain rfl : k = rFo r := by omega
      refine bX_Realm_isRow_4 (gK_ok ht.1 ?_)
      rw [h.1.2.2.1]
      refine ⟨fun _ => ⟨fun c => ⟨Or.inl rfl, h0 (fun q => c (bq_ext (fun i hi => ?_)))⟩, fun c => ⟨Or.inr rfl, h1 ⟨hc, fun i hi hp => ?_⟩⟩⟩, fun q => absurd (nI_le (Nat.le_refl _) (by omega)) q⟩
      · rw [hb i hi, bq_0]
        cases hp : bq x i with
        | false => rfl
        | true =>
          obtain ⟨a1, a2, a3⟩ := q.2 i hi hp
          rw [decide_eq_true a1, decide_eq_true a2, decide_eq_true a3]
          rfl
      · have := hb i hi
        rw [c, bq_0, hp] at this
        by_cases a1 : i < rWd r
        · by_cases a2 : f0 ≤ rFd r i
          · by_cases a3 : rFd r i < rFo r
            · exact ⟨a1, a2, a3⟩
            · rw [decide_eq_false a3, Bool.and_false, Bool.and_false] at this
              cases this
          · rw [decide_eq_false a2, Bool.false_and, Bool.and_false] at this
            cases this
        · rw [decide_eq_false a1, Bool.false_and] at this
          cases this
    | succ m ih =>
      intro k rest hk hk0 hc hb
      refine bX_Realm_isRow_4 (gK_ok ht.1 ?_)
      rw [h.1.2.2.1]
      refine ⟨fun q => absurd q (nI_ge (by omega) (by omega)), fun _ => wX_bitsOfFold hr hT h (by omega) ?_⟩
      have hbF : ∀ i, i < 32 → bq (rest &&& nI (bFo r k (rWd r))) i = (bq x i && (decide (i < rWd r) && decide (rFd r i = k))) := by
        intro i hi
        rw [bq_and, hb i hi, bq_nI, bFo_bit, decide_eq_true hi, Bool.true_and]
        by_cases a1 : i < rWd r
        · by_cases a2 : rFd r i = k
          · rw [decide_eq_true a1, decide_eq_true a2, decide_eq_false (show ¬ rFd r i < k by omega), Bool.and_false, Bool.and_false, Bool.not_false, Bool.and_true]
          · rw [decide_eq_false a2, Bool.and_false, Bool.and_false, Bool.and_false]
        · rw [decide_eq_false a1]
          cases bq x i <;> rfl
      obtain ⟨n, hn, en, bn⟩ := bq_lt (x := rest &&& nI (bFo r k (rWd r))) (m := 12) (by decide) (fun i h1 h2 => by rw [hbF i h2, decide_eq_false (by omega), Bool.false_and, Bool.and_false])
      have hpc : pcN n = cntB r (bq x) k := by
        unfold pcN cntB
        rw [nSum_pad (n := rWd r) 12 hwd (fun i h1 h2 => if_neg (by rw [bn, hbF i (by omega), decide_eq_false (by omega), Bool.false_and, Bool.and_false]; decide))]
        refine nSum_ext _ (fun i hi => ?_)
        rw [bn, hbF i (by omega), decide_eq_true hi, Bool.true_and]
        by_cases a2 : rFd r i = k
        · by_cases a3 : bq x i = true
          · rw [a3, decide_eq_true a2, if_pos (show (true && true) = true from rfl), if_pos ⟨a2, rfl⟩]
          · rw [Bool.not_eq_true] at a3
            rw [a3, if_neg (by simp), if_neg (by simp)]
        · rw [decide_eq_false a2, Bool.and_false, if_neg (by simp), if_neg (fun q => a2 q.1)]
      have hpl := pcN_le n
      show aWX (d + 1) 150 [.int (rest &&& nI (bFo r k (rWd r)))] S (fun v4 S5 => aI v4 (fun x6 => ((x6 = 1 → (aBX (d + 1) 70 Q 4 [some (.ref t), none, none, some (.int (rest &&& ((rest &&& nI (bFo r k (rWd r))) ^^^ -1))), some (.int (nI k + 1)), none] [] S5)) ∧ (¬ x6 = 1 → (((0 : Int32) = 0 ∨ (0 : Int32) = 1) ∧ Q (.int 0) S5)))))
      have hbR : ∀ i, i < 32 → bq (rest &&& ((rest &&& nI (bFo r k (rWd r))) ^^^ -1)) i = (bq x i && !(decide (i < rWd r) && (decide (f0 ≤ rFd r i) && decide (rFd r i < k + 1)))) := by
        intro i hi
        rw [bq_and, bq_not, hbF i hi, hb i hi, decide_eq_true hi, Bool.true_and]
        by_cases a1 : i < rWd r
        · rw [decide_eq_true a1]
          by_cases a2 : rFd r i = k
          · rw [decide_eq_true a2, decide_eq_true (show f0 ≤ rFd r i by omega), decide_eq_true (show rFd r i < k + 1 by omega), decide_eq_false (show ¬ rFd r i < k by omega)]
            cases bq x i <;> rfl
          · rw [decide_eq_false a2, show decide (rFd r i < k + 1) = decide (rFd r i < k) from decide_eq_decide.mpr (by omega)]
            cases bq x i <;> simp
        · rw [decide_eq_false a1]
          cases bq x i <;> rfl
      rw [nI_1]
      revert hbR
      rw [en]
      intro hbR
      refine wX_bitCount hn ?_
      show (nI (pcN n) = 1 → _) ∧ _
      rw [show (1 : Int32) = nI 1 from rfl, nI_eq (by omega) (by decide), hpc]
      refine ⟨fun c => ih (k + 1) _ (by omega) (by omega) (fun f h2 h3 => ?_) hbR, fun c => ⟨Or.inl rfl, h0 (fun q => c (q.1 k hk0 (by omega)))⟩⟩
      rcases Nat.lt_or_ge f k with q | q
      · exact hc f h2 q
      · rw [show f = k by omega]; exact c
  exact loop (rFo r - f0) f0 x (by omega) (Nat.le_refl _) (fun f h1 h2 => absurd h1 (by omega)) (fun i hi => by
    by_cases c : f0 ≤ rFd r i
    · rw [decide_eq_false (show ¬ rFd r i < f0 by omega), Bool.and_false, Bool.and_false, Bool.not_false, Bool.and_true]
    · rw [decide_eq_false c, Bool.false_and, Bool.and_false, Bool.not_false, Bool.and_true])
theorem wX_wordOfFold {n w : Nat} (hr : okR r) (hT : isT t) (h : RX r S t) (hf : f < 100) (hn : n < 2 ^ 31) (hw : w < rWd r) (hfw : rFd r w = f) (hb : n.testBit w = true) (hu : ∀ v, v < rWd r → rFd r v = f → n.testBit v = true → v = w) (hx : Q (.int (nI w)) S) : aWX (d + 1) 69 [.ref t, .int (nI n), .int (nI f)] S Q := by
  have hwd := hr.2.1
  have ht := hT.re
  refine mX_Realm_wordOfFold (gK_ok ht.1 ?_)
  have loop : ∀ m k, k + m = w → aBX d 69 Q 2 [some (.ref t), some (.int (nI n)), some (.int (nI f)), some (.int (nI k))] [] S := by
    intro m
    induction m with
    | zero =>
      intro k hk
      obtain rfl : k = w := by omega
      have hf3 := (hr.2.2.2.2.2.1 k (by omega)).1
      refine bX_Realm_wordOfFold_2 (gK_ok ht.1 ?_)
      rw [h.1.2.1, nI_clamp (by omega), h.1.2.2.2.2.2.1 k (by omega), bitAt hn (by omega), if_pos hb, hfw]
      exact ⟨fun q => absurd q (nI_ge (by omega) (by omega)), fun _ => ⟨fun q => absurd q (nI_ge (a := k) (b := 12) (by omega) (by decide)), fun _ => gK_ok ht.1 (gK_ok ht.2.2.1.1 ⟨by rw [ht.2.2.1.2]; exact nI_in (by omega) (by decide), fun q => absurd rfl q, fun _ => ⟨fun q => absurd rfl q, fun _ => hx⟩⟩)⟩⟩
    | succ m ih =>
      intro k hk
      have hf3 := (hr.2.2.2.2.2.1 k (by omega)).1
      have ih := ih (k + 1) (by omega)
      refine bX_Realm_wordOfFold_2 (gK_ok ht.1 ?_)
      rw [h.1.2.1, nI_clamp (by omega), h.1.2.2.2.2.2.1 k (by omega), bitAt hn (by omega), nI_1, nI_eq (by omega) (by omega)]
      refine ⟨fun q => absurd q (nI_ge (by omega) (by omega)), fun _ => ⟨fun q => absurd q (nI_ge (a := k) (b := 12) (by omega) (by decide)), fun _ => gK_ok ht.1 (gK_ok ht.2.2.1.1 ⟨by rw [ht.2.2.1.2]; exact nI_in (by omega) (by decide), fun _ => ih, fun c => ⟨fun _ => ih, fun c2 => ?_⟩⟩)⟩⟩
      exfalso
      cases hp : n.testBit k with
      | true => exact absurd (hu k (by omega) c hp) (by omega)
      | false => rw [hp] at c2; exact absurd c2 (by decide)
  exact loop w 0 (by omega)
end
/-- the chance of a row from a fold on, so much being above and below -/
def chV (r : zR) (z : zS) (s : Nat) (wd : Nat → Nat) : Nat → Nat → Nat → Nat → Nat → Nat
  | 0, _, _, A, B => A * 1000000 / B
  | n + 1, f, a, A, B => if lkV r (wWho r s f) (zLe z (wd f)) (wd f) a = 0 then 0 else chV r z s wd n (f + 1) (rGo r (wd f)) (A * lkV r (wWho r s f) (zLe z (wd f)) (wd f) a) (B * alV r z (wWho r s f) f a)
theorem lk_le_al {r : zR} (z : zS) {o : Option Nat} {f a w : Nat} (hw : w < rWd r) (hf : rFd r w = f) : lkV r o (zLe z w) w a ≤ alV r z o f a := by
  have := nSum_one (f := fun w => if rFd r w = f then lkV r o (zLe z w) w a else 0) hw
  rw [if_pos hf] at this
  exact this
theorem frM_sl {C F : Nat → Prop} {S : aS} {k : Nat} {v : Int64} (h : F k) : frM C F S (sl S 1000 k v) := by
  refine ⟨fun _ _ _ => rfl, fun _ _ _ => rfl, fun _ _ => rfl, fun m hm => ?_⟩
  rw [gl_sl, if_neg (show ¬ (1000 = 1000 ∧ m = k) from fun q => hm (q.2 ▸ h))]
def abF (k : Nat) : Prop := k = 52 ∨ k = 53
section
variable {d : Nat} {Q : Value → aS → Prop} {S : aS} {r : zR} {z : zS} {t f : Nat}
theorem lNz {n : Nat} (h : n < 2 ^ 63) : lN n ≤ (0 : Int64) ↔ n = 0 := by
  rw [show (0 : Int64) = lN 0 from rfl, pk_lLE h (by decide)]
  omega
theorem wM_goesOn {A B w a : Nat} (hr : okR r) (hz : okZ r z) (h : RM r S) (hs : stM r z (ga S 1032) 0) (hw : w < rWd r) (hf : f < 100) (hA : A ≤ 10 ^ 8) (hgA : gl S 1000 52 = lN A) (hgB : gl S 1000 53 = lN B) (hx : ∀ S', frM eC abF S S' → gl S' 1000 52 = lN (A * lkV r (wWho r (zSe z) f) (zLe z w) w a) → gl S' 1000 53 = lN (B * max 1 (alV r z (wWho r (zSe z) f) f a)) → Q (.int (if A * lkV r (wWho r (zSe z) f) (zLe z w) w a = 0 then 0 else 1)) S') : aWM (d + 6) 72 [.ref 1000, .int (nI f), .int (nI w), .int (nI a)] S Q := by
  have hse : zSe z < 6 := by have := hr.1; rcases hz.1 with q | q <;> omega
  have hlk := lkV_le hr (okW_who (r := r) (zSe z) f) hw (zLe z w) a
  have hal := alV_le hr z (okW_who (r := r) (zSe z) f) f a
  have hAl : A * lkV r (wWho r (zSe z) f) (zLe z w) w a < 2 ^ 63 := by
    have := Nat.mul_le_mul hA hlk
    omega
  refine mM_goesOn ⟨vin (by decide), ?_⟩
  rw [c0, show ga S 1032 0 = nI (zSe z) from hs.1]
  refine wM_writerOf hr h.1 ?_
  rw [pWho_eq hr (by omega)]
  refine wM_likelyBy hr hz h hs hw (okW_who _ _) (fun S1 hf1 => ?_)
  simp only [aI]
  rw [hgA, nI_l (by omega), lN_mul]
  have hf2 : frM eC abF S (sl S1 1000 52 (lN (A * lkV r (wWho r (zSe z) f) (zLe z w) w a))) := (hf1.le (fun _ q => q) (fun _ q => q.elim)).tr (frM_sl (Or.inl rfl))
  have e53 : gl (sl S1 1000 52 (lN (A * lkV r (wWho r (zSe z) f) (zLe z w) w a))) 1000 53 = lN B := by
    rw [gl_sl, if_neg (by decide)]
    exact (hf1.2.2.2 53 (fun q => q)).trans hgB
  refine wM_allLikely hr hz (h.kept hf2 (fun i hi => by unfold eC at hi; omega)) ?_ (okW_who _ _) hf (fun S2 hf3 => ?_)
  · rw [show ga (sl S1 1000 52 (lN (A * lkV r (wWho r (zSe z) f) (zLe z w) w a))) 1032 = ga S 1032 from funext fun j => hf2.1 1032 j (by unfold eC; omega)]
    exact hs
  have em : (if (1 : Int32) < nI (alV r z (wWho r (zSe z) f) f a) then nI (alV r z (wWho r (zSe z) f) f a) else 1) = nI (max 1 (alV r z (wWho r (zSe z) f) f a)) := nI_max (a := 1) (by decide) (by omega)
  simp only [aI]
  rw [e53, em, nI_l (by omega), lN_mul]
  have g52 : gl (sl S2 1000 53 (lN (B * max 1 (alV r z (wWho r (zSe z) f) f a)))) 1000 52 = lN (A * lkV r (wWho r (zSe z) f) (zLe z w) w a) := by
    rw [gl_sl, if_neg (by decide), hf3.2.2.2 52 (fun q => q), gl_sl, if_pos ⟨rfl, rfl⟩]
  rw [g52, lg_cmp_le, lNz hAl]
  have hx1 := hx _ (hf2.tr ((hf3.le (fun _ q => q) (fun _ q => q.elim)).tr (frM_sl (Or.inr rfl)))) g52 (by rw [gl_sl, if_pos ⟨rfl, rfl⟩])
  refine ⟨fun c => ⟨Or.inl trivial, ?_⟩, fun c => ⟨Or.inr trivial, ?_⟩⟩
  · rw [if_pos c] at hx1; exact hx1
  · rw [if_neg c] at hx1; exact hx1
theorem wM_wordIn {n : Nat} (hr : okR r) (h : RM r S) (hn : n < 2 ^ 31) (hf : f < 100) (h1 : ∀ w, w < rWd r → rFd r w = f → n.testBit w = true → cntB r n.testBit f = 1 → Q (.int (nI w)) S) (h0 : ¬ cntB r n.testBit f = 1 → Q (.int (-1)) S) : aWM (d + 1) 73 [.ref 1000, .int (nI n), .int (nI f)] S Q := by
  have hwd := hr.2.1
  refine mM_wordIn ?_
  have loop : ∀ m k v, k + m = rWd r → ((nSum (fun w => if rFd r w = f ∧ n.testBit w = true then 1 else 0) k = 0 ∧ v = -1) ∨ (nSum (fun w => if rFd r w = f ∧ n.testBit w = true then 1 else 0) k = 1 ∧ ∃ w, w < k ∧ v = nI w ∧ rFd r w = f ∧ n.testBit w = true)) → aBM d 73 Q 4 [some (.ref 1000), some (.int (nI n)), some (.int (nI f)), some (.int v), some (.int (nI k))] [] S := by
    intro m
    induction m with
    | zero =>
      intro k v hk hv
      obtain rfl : k = rWd r := by omega
      refine bM_wordIn_4 ?_
      rw [c1, h.1.2.1]
      refine ⟨vin (by decide), fun _ => ?_, fun q => absurd (nI_le (Nat.le_refl _) (by omega)) q⟩
      rcases hv with ⟨a, rfl⟩ | ⟨a, w, b1, rfl, b3, b4⟩
      · exact h0 (fun q => by unfold cntB at q; omega)
      · exact h1 w b1 b3 b4 a
    | succ m ih =>
      intro k v hk hv
      have hf3 := (hr.2.2.2.2.2.1 k (by omega)).1
      have hn1 : nSum (fun w => if rFd r w = f ∧ n.testBit w = true then 1 else 0) (k + 1) = nSum (fun w => if rFd r w = f ∧ n.testBit w = true then 1 else 0) k + (if rFd r k = f ∧ n.testBit k = true then 1 else 0) := rfl
      refine bM_wordIn_4 ?_
      rw [c1, h.1.2.1, nI_clamp (show k < 2 ^ 31 by omega), h.1.2.2.2.2.2.1 k (by omega), bitAt hn (by omega), nI_1, nI_eq (by omega) (by omega)]
      have skip : ¬ (rFd r k = f ∧ n.testBit k = true) → aBM d 73 Q 4 [some (.ref 1000), some (.int (nI n)), some (.int (nI f)), some (.int v), some (.int (nI (k + 1)))] [] S := fun c => ih (k + 1) v (by omega) (by
        rw [hn1, if_neg c, Nat.add_zero]
        exact hv.imp_right (fun ⟨a, w, b1, b2⟩ => ⟨a, w, by omega, b2⟩))
      refine ⟨vin (by decide), fun q => absurd q (nI_ge (by omega) (by omega)), fun _ => ⟨fun c => skip (fun q => ?_), fun c => ⟨nI_in (by omega) (by decide), fun c2 => ?_, fun c2 => skip (fun q => c2 q.1)⟩⟩⟩
      · rw [if_pos q.2] at c
        exact absurd c (by decide)
      · have hb : n.testBit k = true := by
          cases hp : n.testBit k with
          | true => rfl
          | false => rw [hp] at c; exact absurd rfl c
        rcases hv with ⟨a, rfl⟩ | ⟨a, w, b1, rfl, b3, b4⟩
        · refine ⟨fun _ => ih (k + 1) _ (by omega) (Or.inr ⟨?_, k, by omega, rfl, c2, hb⟩), fun q => absurd (by decide) q⟩
          rw [hn1, if_pos ⟨c2, hb⟩, a]
        · refine ⟨fun q => absurd q (nI_pos (by omega)), fun _ => h0 (fun q => ?_)⟩
          have := nSum_mono (f := fun w => if rFd r w = f ∧ n.testBit w = true then 1 else 0) (k := k + 1) (rWd r) (by omega)
          rw [hn1, if_pos ⟨c2, hb⟩, a] at this
          unfold cntB at q
          omega
  exact loop (rWd r) 0 (-1) (by omega) (Or.inl ⟨rfl, rfl⟩)
end
