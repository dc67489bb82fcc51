/-! all rows with a chance: the class -/
def rwX (r : zR) (L : List zW) (S : aS) : Prop := gi S 117 6 = nI L.length ∧ ∀ k x, L[k]? = some x → (∀ i, i < rFo r → ga S 121 (4 * k + i) = nI (x.1 i)) ∧ gb S 122 k = lN x.2.1 ∧ gb S 123 k = lN x.2.2
def gx2 (i : Nat) : Prop := i = 117 ∨ (120 ≤ i ∧ i ≤ 123)
theorem oRow.keptF {r : zR} {z : zS} {o : Option Nat} {f a j : Nat} {S S' : aS} {C : Nat → Prop} (h : oRow r z o f a S j) (hf : frY C S S') (h1 : ¬ C 118) (h2 : ¬ C 119) : oRow r z o f a S' j := ⟨fun w hw hfd => (hf.1 118 _ h1).2.1.trans (h.1 w hw hfd), (hf.1 119 _ h2).2.1.trans h.2⟩
theorem gx2_rc {t : Nat} (hT : isT t) : ∀ i, rcX t i → ¬ gx2 i := fun i hi q => by
  unfold gx2 at q
  unfold rcX at hi
  rcases hT with rfl | rfl <;> omega
section
variable {d : Nat} {Q : Value → aS → Prop} {S : aS} {r : zR} {z : zS} {t p s : Nat}
theorem wX_keepRow {A B : Nat} {pre : Nat → Nat} {L : List zW} (hr : okR r) (hL : L.length < 81) (hR : rwX r L S) (hp : ∀ i, i < rFo r → ga S 120 i = nI (pre i)) (hx : ∀ S', frY gx2 S S' → rwX r (L ++ [(pre, A, B)]) S' → (∀ j, ga S' 120 j = ga S 120 j) → Q .null S') : aWX (d + 1) 32 [.ref 117, .long (lN A), .long (lN B)] S Q := by
  have hfo := hr.2.2.1.2
  have e4 : nI L.length * 4 = nI (4 * L.length) := by rw [show (4 : Int32) = nI 4 from rfl, nI_mulN, Nat.mul_comm]
  obtain ⟨h1, h2⟩ := hR
  refine mX_Odds_keepRow ?_
  have g1 : gi (scp S 120 0 121 (nI (4 * L.length)) 4) 117 6 = nI L.length := h1
  have g2 : ∀ v, gi (sb (scp S 120 0 121 (nI (4 * L.length)) 4) 122 L.length v) 117 6 = nI L.length := fun _ => h1
  have g3 : ∀ v w, gi (sb (sb (scp S 120 0 121 (nI (4 * L.length)) 4) 122 L.length v) 123 L.length w) 117 6 = nI L.length := fun _ _ => h1
  rw [h1, e4, g1, nI_clamp (show L.length < 2 ^ 31 by omega), g2, nI_clamp (show L.length < 2 ^ 31 by omega), g3, nI_1]
  refine ⟨fun q => absurd q (nI_pos (by omega)), fun _ => ⟨fun q => absurd q (nI_ge (a := L.length) (b := 81) hL (by decide)), fun _ => ⟨⟨rfl, by decide, nI_pos (by omega), by decide, by decide, ?_⟩, nI_in hL (by decide), nI_in hL (by decide), ?_⟩⟩⟩
  · rw [nI_clamp (by omega), c4]
    show 4 * L.length + 4 ≤ 324
    omega
  · have hga : ∀ i k, ga (scp S 120 0 121 (nI (4 * L.length)) 4) i k = if i = 121 then (if 4 * L.length ≤ k ∧ k < 4 * L.length + 4 then ga S 120 (0 + (k - 4 * L.length)) else ga S 121 k) else ga S i k := fun i k => ga_scpN S 120 121 0 (4 * L.length) 4 (by omega) (by omega) (by omega) i k
    refine hx _ ((((frX_scp (C := gx2) (Or.inr (by omega))).Y.tr (frY_sb (Or.inr (by omega)))).tr (frY_sb (Or.inr (by omega)))).tr (frY_si (Or.inl rfl))) ⟨?_, fun k x hk => ?_⟩ (fun j => ?_)
    · rw [gi_si, if_pos ⟨rfl, rfl⟩, List.length_append]
      rfl
    · rcases Nat.lt_trichotomy k L.length with q | q | q
      · rw [List.getElem?_append_left q] at hk
        obtain ⟨b1, b2, b3⟩ := h2 k x hk
        refine ⟨fun i hi => ?_, ?_, ?_⟩
        · rw [ga_si, ga_sb, ga_sb, hga, if_pos rfl, if_neg (by omega)]
          exact b1 i hi
        · rw [gb_si, gb_sb, if_neg (by omega), gb_sb, if_neg (by omega)]
          exact b2
        · rw [gb_si, gb_sb, if_neg (by omega), gb_sb, if_neg (by omega)]
          exact b3
      · rw [List.getElem?_append_right (by omega), q, Nat.sub_self] at hk
        cases hk
        refine ⟨fun i hi => ?_, ?_, ?_⟩
        · rw [ga_si, ga_sb, ga_sb, hga, if_pos rfl, if_pos (by omega), show 0 + (4 * k + i - 4 * L.length) = i by omega]
          exact hp i hi
        · rw [gb_si, gb_sb, if_neg (by omega), gb_sb, if_pos ⟨rfl, q⟩]
        · rw [gb_si, gb_sb, if_pos ⟨rfl, q⟩]
      · rw [List.getElem?_eq_none (by rw [List.length_append]; show L.length + 1 ≤ k; omega)] at hk
        cases hk
    · rw [ga_si, ga_sb, ga_sb, hga, if_neg (by decide)]
theorem wX_extend (hr : okR r) (hT : isT t) (hs20 : s < 20) : ∀ n f i a A B pre L S (Q : Value → aS → Prop), f + n = rFo r → i < 13 → RX r S t → (0 < n → oRow r z (wWho r s f) f a S i) → (∀ v, v < rWd r → f ≤ rFd r v → rFd r v + 1 < rFo r → oRow r z (wWho r s (rFd r v + 1)) (rFd r v + 1) (rGo r v) S (v + 1)) → (∀ j, j < f → ga S 120 j = nI (pre j)) → rwX r L S → L.length + (rowsL r z s n f a A B pre).length ≤ 81 → (∀ S', frY gx2 S S' → rwX r (L ++ rowsL r z s n f a A B pre) S' → (∀ j, j < f → ga S' 120 j = ga S 120 j) → Q .null S') → aWX (d + n + 3) 31 [.ref 117, .ref t, .int (nI f), .int (ahI i), .long (lN A), .long (lN B)] S Q := by
  have hfo := hr.2.2.1.2
  have hwd := hr.2.1
  have ht := hT.re
  intro n
  induction n with
  | zero =>
    intro f i a A B pre L S Q hf hi h _ _ hp hR hL hx
    refine mX_Odds_extend ⟨fun q => absurd q (nI_pos (by omega)), fun _ => gK_ok ht.1 ?_⟩
    rw [h.1.2.2.1]
    refine ⟨fun _ => wX_keepRow (pre := pre) hr ?_ hR (fun j hj => hp j (by omega)) (fun S1 hf1 hR1 hpp => hx S1 hf1 hR1 (fun j _ => hpp j)), fun q => absurd (nI_le (by omega) (by omega)) q⟩
    unfold rowsL at hL
    simp only [List.length_cons, List.length_nil] at hL
    omega
  | succ n ih =>
    intro f i a A B pre L S Q hf hi h hro hrs hp hR hL hx
    have hro := hro (by omega)
    refine mX_Odds_extend ⟨fun q => absurd q (nI_pos (by omega)), fun _ => gK_ok ht.1 ?_⟩
    rw [h.1.2.2.1]
    refine ⟨fun q => absurd q (nI_ge (by omega) (by omega)), fun _ => ⟨fun _ => ?_, fun q => absurd (nI_lt (a := f) (b := 4) (by omega) (by decide)) q⟩⟩
    unfold rowsL at hL hx
    generalize hgg : (fun w => if rFd r w = f ∧ ¬ lkV r (wWho r s f) (zLe z w) w a = 0 then rowsL r z s n (f + 1) (rGo r w) (A * lkV r (wWho r s f) (zLe z w) w a) (B * alV r z (wWho r s f) f a) (pup pre f w) else []) = gg at hL hx
    have hg : ∀ w, gg w = if rFd r w = f ∧ ¬ lkV r (wWho r s f) (zLe z w) w a = 0 then rowsL r z s n (f + 1) (rGo r w) (A * lkV r (wWho r s f) (zLe z w) w a) (B * alV r z (wWho r s f) f a) (pup pre f w) else [] := fun w => by rw [← hgg]
    have hpre : ∀ k, k ≤ rWd r → ((List.range k).flatMap gg).length ≤ ((List.range (rWd r)).flatMap gg).length := by
      intro k hk
      have key : ∀ m, ((List.range k).flatMap gg).length ≤ ((List.range (k + m)).flatMap gg).length := by
        intro m
        induction m with
        | zero => exact Nat.le_refl _
        | succ m ih2 =>
          rw [show k + (m + 1) = (k + m) + 1 by omega, List.range_succ, List.flatMap_append, List.length_append]
          omega
      have := key (rWd r - k)
      rw [show k + (rWd r - k) = rWd r by omega] at this
      exact this
    have loop : ∀ m k S1, k + m = 12 → frY gx2 S S1 → rwX r (L ++ (List.range (min k (rWd r))).flatMap gg) S1 → (∀ j, j < f → ga S1 120 j = ga S 120 j) → aBX (d + (n + 1) + 2) 31 Q 16 [some (.ref 117), some (.ref t), some (.int (nI f)), some (.int (ahI i)), some (.long (lN A)), none, some (.long (lN B)), none, some (.int (nI k)), none] [] S1 := by
      intro m
      induction m with
      | zero =>
        intro k S1 hk hf1 hR1 hpp
        obtain rfl : k = 12 := by omega
        refine bX_Odds_extend_16 ⟨fun _ => hx S1 hf1 ?_ hpp, fun q => absurd (show (12 : Int32) ≤ nI 12 by decide) q⟩
        rw [Nat.min_eq_right hwd] at hR1
        exact hR1
      | succ m ih2 =>
        intro k S1 hk hf1 hR1 hpp
        have h1 := h.kept hT hf1 (gx2_rc hT)
        refine bX_Odds_extend_16 ⟨fun q => absurd q (nI_ge (a := k) (b := 12) (by omega) (by decide)), fun _ => wX_foldOf (d := d + (n + 1)) hr ht h1.1 ?_⟩
        have skip : (k < rWd r → gg k = []) → aBX (d + (n + 1) + 2) 31 Q 16 [some (.ref 117), some (.ref t), some (.int (nI f)), some (.int (ahI i)), some (.long (lN A)), none, some (.long (lN B)), none, some (.int (nI k + 1)), none] [] S1 := by
          intro hgk
          rw [nI_1]
          refine ih2 (k + 1) S1 (by omega) hf1 ?_ hpp
          by_cases c : k < rWd r
          · rw [Nat.min_eq_left (by omega)] at hR1
            rw [Nat.min_eq_left (by omega), List.range_succ, List.flatMap_append, List.flatMap_singleton, hgk c, List.append_nil]
            exact hR1
          · rw [Nat.min_eq_right (by omega)] at hR1
            rw [Nat.min_eq_right (by omega)]
            exact hR1
        by_cases c : k < rWd r
        · have hf3 := (hr.2.2.2.2.2.1 k c).1
          have e1 : pAt (rWd r) (rFd r) (-1) (nI k) = nI (rFd r k) := by unfold pAt; rw [idx_some (by omega) c]
          rw [e1]
          show (¬ nI (rFd r k) = nI f → _) ∧ (nI (rFd r k) = nI f → _)
          rw [nI_eq (by omega) (by omega)]
          refine ⟨fun c2 => bX_Odds_extend_30 ⟨fun _ => skip (fun _ => by rw [hg, if_neg (fun q => c2 q.1)]), fun q => absurd (by decide) q⟩, fun c2 => wX_likelyBehind hi (by omega) ?_⟩
          rw [(hro.keptF hf1 (by unfold gx2; omega) (by unfold gx2; omega)).1 k c c2]
          have hlk := lkV_le hr (okW_who (r := r) s f) c (zLe z k) a
          have hal := alV_le hr z (okW_who (r := r) s f) f a
          refine bX_Odds_extend_30 ?_
          rw [nI_le0 (by omega)]
          refine ⟨fun c3 => skip (fun _ => by rw [hg, if_neg (fun q => q.2 c3)]), fun c3 => ⟨nI_in (by omega) (by decide), wX_totalBehind hi ?_⟩⟩
          rw [nI_clamp (by omega)]
          have hf2 : frY gx2 S (sa S1 120 f (nI k)) := hf1.tr (frY_sa (Or.inr (by omega)))
          rw [(hro.keptF hf2 (by unfold gx2; omega) (by unfold gx2; omega)).2]
          simp only [aI]
          rw [nI_l (by omega), nI_l (by omega), lN_mul, lN_mul, nI_1 f, nI_1 k]
          rw [Nat.min_eq_left (by omega)] at hR1
          have hgk : gg k = rowsL r z s n (f + 1) (rGo r k) (A * lkV r (wWho r s f) (zLe z k) k a) (B * alV r z (wWho r s f) f a) (pup pre f k) := by rw [hg, if_pos ⟨c2, c3⟩]
          have hlen := hpre (k + 1) (by omega)
          rw [List.range_succ, List.flatMap_append, List.length_append, List.flatMap_singleton, hgk] at hlen
          refine ih (f + 1) (k + 1) (rGo r k) _ _ (pup pre f k) (L ++ (List.range k).flatMap gg) (sa S1 120 f (nI k)) _ (by omega) (by omega) (h.kept hT hf2 (gx2_rc hT)) (fun hn => ?_) (fun v hv h2 h3 => (hrs v hv (by omega) h3).keptF hf2 (by unfold gx2; omega) (by unfold gx2; omega)) (fun j hj => ?_) ⟨hR1.1, hR1.2⟩ (by rw [List.length_append]; omega) (fun S2 hf3 hR2 hp2 => ?_)
          · have := (hrs k c (by omega) (by omega)).keptF hf2 (by unfold gx2; omega) (by unfold gx2; omega)
            rw [c2] at this
            exact this
          · unfold pup
            rw [ga_sa]
            by_cases e : j = f
            · rw [if_pos ⟨rfl, e⟩, if_pos e]
            · rw [if_neg (fun q => e q.2), if_neg e, hpp j (by omega)]
              exact hp j (by omega)
          · refine ih2 (k + 1) S2 (by omega) (hf2.tr hf3) ?_ (fun j hj => ?_)
            · rw [Nat.min_eq_left (by omega), List.range_succ, List.flatMap_append, List.flatMap_singleton, hgk, ← List.append_assoc]
              exact hR2
            · rw [hp2 j (by omega), ga_sa, if_neg (by omega)]
              exact hpp j hj
        · have e1 : pAt (rWd r) (rFd r) (-1) (nI k) = -1 := by unfold pAt; rw [idx_none (Or.inr (nI_le (by omega) (by omega)))]
          rw [e1]
          exact ⟨fun _ => bX_Odds_extend_30 ⟨fun _ => skip (fun q => absurd q c), fun q => absurd (by decide) q⟩, fun q => absurd q (m1_ne (by omega))⟩
    refine loop 12 0 S rfl frY.rf ?_ (fun _ _ => rfl)
    rw [Nat.zero_min]
    show rwX r (L ++ []) S
    rw [List.append_nil]
    exact hR
def gxC (i : Nat) : Prop := oC i ∨ gx2 i
theorem gxC_sc : ∀ i, gxC i → scX i := fun i q => by
  rcases q with q | q
  · exact oC_sc i q
  · unfold gx2 at q
    exact Or.inr (by omega)
theorem gxC_rc {t : Nat} (hT : isT t) : ∀ i, rcX t i → ¬ gxC i := fun i hi q => q.elim (oC_rc hT i hi) (gx2_rc hT i hi)
theorem gxC_st {p : Nat} (h : stG p) : ∀ i, stC p i → ¬ gxC i := fun i hi q => q.elim (oC_st h i hi) (fun e => by
  have := h.2.2.1 i hi
  unfold gx2 at e
  omega)
theorem wX_gatherRows (hr : okR r) (hz : okZ r z) (hT : isT t) (hG : stG p) (h : RX r S t) (hs : stX r z S p) (hx : ∀ S', frY gxC S S' → rwX r (rowsZ r z) S' → Q .null S') : aWX (d + 10) 30 [.ref 117, .ref t, .ref p] S Q := by
  have hfo := hr.2.2.1.2
  have hwr := hz.2.1
  have hse : zSe z < 6 := by have := hr.1; rcases hz.1 with q | q <;> omega
  refine mX_Odds_gatherRows (gK_ok hG.1.1 (gK_ok hG.1.1 ?_))
  rw [hs.1, hs.2.1]
  refine wX_weighAll (d := d + 4) hr hz hT hG h hs (by omega) hwr (Or.inr ⟨rfl, rfl⟩) (fun S1 hf hO => ?_)
  have hf1 : frY gxC S (si S1 117 6 0) := (hf.le (fun _ q => Or.inl q)).tr (frY_si (Or.inr (Or.inl rfl)))
  have fin : ∀ S2, frY gx2 (si S1 117 6 0) S2 → gi S2 117 6 = 0 → (∀ j, j < zWr z → ga S2 120 j = nI (zSt z j)) → aWX (d + 9) 31 [.ref 117, .ref t, .int (nI (zWr z)), .int (-1), .long 1, .long 1] S2 (fun v1 S2 => aV v1 (Q .null S2)) := by
    intro S2 hf2 h0 hp
    have hO2 : frY gx2 S1 S2 := (frY_si (Or.inl rfl)).tr hf2
    have key := wX_extend (d := d + 9 - (rFo r - zWr z) - 3) (z := z) hr hT (s := zSe z) (by omega) (rFo r - zWr z) (zWr z) 0 (ahV r z) 1 1 (zSt z) [] S2 (fun v1 S2 => aV v1 (Q .null S2)) (by omega) (by decide) (h.kept hT (hf1.tr (hf2.le (fun _ q => Or.inr q))) (gxC_rc hT)) (fun _ => hO.1.keptF hO2 (by unfold gx2; omega) (by unfold gx2; omega)) (fun v hv h2 h3 => (hO.2 v hv h2 h3).keptF hO2 (by unfold gx2; omega) (by unfold gx2; omega)) hp ⟨h0, fun k x hk => by cases hk⟩ (by rw [List.length_nil, Nat.zero_add]; exact rowsZ_len hr hz) (fun S3 hf3 hR3 _ => hx S3 ((hf1.tr (hf2.le (fun _ q => Or.inr q))).tr (hf3.le (fun _ q => Or.inr q))) hR3)
    rw [show d + 9 - (rFo r - zWr z) - 3 + (rFo r - zWr z) + 3 = d + 9 by omega] at key
    exact key
  have loop : ∀ m k S2, k + m = zWr z → frY gx2 (si S1 117 6 0) S2 → gi S2 117 6 = 0 → (∀ j, j < k → ga S2 120 j = nI (zSt z j)) → aBX (d + 9) 30 Q 15 [some (.ref 117), some (.ref t), some (.ref p), some (.int (nI (zWr z))), some (.int (nI k))] [] S2 := by
    intro m
    induction m with
    | zero =>
      intro k S2 hk hf2 h0 hp
      exact bX_Odds_gatherRows_15 ⟨fun _ => fin S2 hf2 h0 (fun j hj => hp j (by omega)), fun q => absurd (nI_le (by omega) (by omega)) q⟩
    | succ m ih =>
      intro k S2 hk hf2 h0 hp
      have hs2 := hs.keptY (hf1.tr (hf2.le (fun _ q => Or.inr q))) (gxC_st hG)
      refine bX_Odds_gatherRows_15 ⟨fun q => absurd q (nI_ge (by omega) (by omega)), fun _ => ⟨fun q => absurd q (nI_ge (a := k) (b := 4) (by omega) (by decide)), fun _ => wX_stripAt (d := d + 8) hr hz hG.1 hs2 ⟨nI_in (by omega) (by decide), ?_⟩⟩⟩
      have e : pStrip z (nI k) = nI (zSt z k) := by
        unfold pStrip
        rw [if_neg (nI_pos (by omega)), if_neg (nI_ge (by omega) (by omega)), nI_clamp (by omega)]
      rw [e, nI_clamp (by omega), nI_1]
      refine ih (k + 1) _ (by omega) (hf2.tr (frY_sa (Or.inr (by omega)))) h0 (fun j hj => ?_)
      rw [ga_sa]
      by_cases q : j = k
      · rw [if_pos ⟨rfl, q⟩, q]
      · rw [if_neg (fun a => q a.2)]
        exact hp j (by omega)
  exact loop (zWr z) 0 (si S1 117 6 0) (by omega) frY.rf (by rw [gi_si, if_pos ⟨rfl, rfl⟩]) (fun j hj => absurd hj (Nat.not_lt_zero _))
/-- the likeliest row -/
theorem wX_greatestRow {L : List zW} (hL : L.length ≤ 81) (hR : rwX r L S) (h0 : bsS L = none → Q (.int (-1)) S) (h1 : ∀ i x, i < L.length → L[i]? = some x → bsS L = some x → Q (.int (nI i)) S) : aWX (d + 1) 33 [.ref 117] S Q := by
  obtain ⟨g1, g2⟩ := hR
  refine mX_Odds_greatestRow ?_
  have loop : ∀ m k a, k + m = L.length → ((bsS (L.take k) = none ∧ a = -1) ∨ ∃ i x, i < k ∧ L[i]? = some x ∧ bsS (L.take k) = some x ∧ a = nI i) → aBX d 33 Q 4 [some (.ref 117), some (.int a), some (.int (nI k))] [] S := by
    intro m
    induction m with
    | zero =>
      intro k a hk ha
      refine bX_Odds_greatestRow_4 ?_
      rw [g1]
      refine ⟨fun _ => ?_, fun q => absurd (nI_le (by omega) (by omega)) q⟩
      rw [List.take_of_length_le (by omega)] at ha
      rcases ha with ⟨a1, rfl⟩ | ⟨i, x, a1, a2, a3, rfl⟩
      · exact h0 a1
      · exact h1 i x (by omega) a2 a3
    | succ m ih =>
      intro k a hk ha
      obtain ⟨x, hx⟩ : ∃ x, L[k]? = some x := ⟨L[k]'(by omega), List.getElem?_eq_getElem (by omega)⟩
      have ht : L.take (k + 1) = L.take k ++ [x] := by rw [List.take_add_one, hx]; rfl
      obtain ⟨-, x1, x2⟩ := g2 k x hx
      refine bX_Odds_greatestRow_4 ?_
      rw [g1]
      refine ⟨fun q => absurd q (nI_ge (by omega) (by omega)), fun _ => ⟨fun q => absurd q (nI_ge (a := k) (b := 81) (by omega) (by decide)), fun _ => ?_⟩⟩
      rw [nI_1]
      rcases ha with ⟨a1, rfl⟩ | ⟨i, y, a1, a2, a3, rfl⟩
      · refine ⟨fun _ => ih (k + 1) _ (by omega) (Or.inr ⟨k, x, by omega, hx, ?_, rfl⟩), fun q => absurd (by decide) q⟩
        rw [ht, bsS_snoc, a1]
        rfl
      · obtain ⟨-, y1, y2⟩ := g2 i y a2
        refine ⟨fun q => absurd q (nI_pos (by omega)), fun _ => ⟨nI_in (by omega) (by decide), nI_in (by omega) (by decide), nI_in (by omega) (by decide), nI_in (by omega) (by decide), ?_⟩⟩
        rw [nI_clamp (by omega), nI_clamp (by omega), x1, x2, y1, y2, lg_cmp_le]
        refine ⟨fun c => ih (k + 1) _ (by omega) (Or.inr ⟨i, y, by omega, a2, ?_, rfl⟩), fun c => ih (k + 1) _ (by omega) (Or.inr ⟨k, x, by omega, hx, ?_, rfl⟩)⟩
        · rw [ht, bsS_snoc, a3]
          show (if _ then _ else _) = _
          rw [if_pos c]
        · rw [ht, bsS_snoc, a3]
          show (if _ then _ else _) = _
          rw [if_neg c]
  exact loop L.length 0 (-1) (by omega) (Or.inl ⟨rfl, rfl⟩)
theorem wX_hasRow {L : List zW} {i : Nat} (hL : L.length ≤ 81) (hR : rwX r L S) (hi : i < L.length) (hx : Q (.int 1) S) : aWX (d + 1) 34 [.ref 117, .int (nI i)] S Q := by
  refine mX_Odds_hasRow ?_
  rw [hR.1]
  exact ⟨fun q => absurd q (nI_pos (by omega)), fun _ => ⟨fun q => absurd q (nI_ge hi (by omega)), fun _ => ⟨fun q => absurd q (nI_ge (a := i) (b := 81) (by omega) (by decide)), fun _ => ⟨Or.inr rfl, hx⟩⟩⟩⟩
theorem wX_rowMil {L : List zW} {i : Nat} {x : zW} (hL : L.length ≤ 81) (hR : rwX r L S) (hi : L[i]? = some x) (ho : okRw r x) (hx : Q (.int (nI (x.2.1 * 1000000 / x.2.2))) S) : aWX (d + 2) 35 [.ref 117, .int (nI i)] S Q := by
  have hlt : i < L.length := (List.getElem?_eq_some_iff.mp hi).1
  obtain ⟨-, x1, x2⟩ := hR.2 i x hi
  have h4 := ho.2.2.2.1
  have h5 := ho.2.2.2.2
  refine mX_Odds_millionths (wX_hasRow hL hR hlt ⟨fun q => absurd q (by decide), fun _ => ⟨nI_in (by omega) (by decide), nI_in (by omega) (by decide), ?_⟩⟩)
  rw [nI_clamp (by omega), x1, x2]
  exact wX_millionths h4 (by omega) hx
theorem wX_wordOfRow {L : List zW} {i f : Nat} {x : zW} (hr : okR r) (hL : L.length ≤ 81) (hR : rwX r L S) (hi : L[i]? = some x) (hf : f < rFo r) (hx : Q (.int (nI (x.1 f))) S) : aWX (d + 2) 36 [.ref 117, .int (nI i), .int (nI f)] S Q := by
  have hfo := hr.2.2.1.2
  have hlt : i < L.length := (List.getElem?_eq_some_iff.mp hi).1
  obtain ⟨x0, -, -⟩ := hR.2 i x hi
  have e : nI i * 4 + nI f = nI (4 * i + f) := by rw [show (4 : Int32) = nI 4 from rfl, nI_mulN, nI_add, Nat.mul_comm]
  refine mX_Odds_wordOfRow (wX_hasRow hL hR hlt ⟨fun q => absurd q (by decide), fun _ => ⟨fun q => absurd q (nI_pos (by omega)), fun _ => ⟨fun q => absurd q (nI_ge (a := f) (b := 4) (by omega) (by decide)), fun _ => bX_Odds_wordOfRow_12 ⟨fun q => absurd q (by decide), fun _ => ?_⟩⟩⟩⟩)
  rw [e, nI_clamp (by omega), x0 f hf]
  exact ⟨nI_in (by omega) (by decide), hx⟩
end
