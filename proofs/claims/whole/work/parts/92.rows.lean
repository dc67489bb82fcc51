/-! all rows with a chance: the reference -/
def wsI (o : Option Nat) : Int32 := match o with
  | none => -1
  | some m => nI m
def bsM (r : zR) (z : zS) (S : aS) : Option zW → Prop
  | none => gl S 1000 56 = 0 ∧ gl S 1000 57 = 1
  | some y => okRw r y ∧ gl S 1000 56 = lN y.2.1 ∧ gl S 1000 57 = lN y.2.2 ∧ ∀ i, zWr z ≤ i → i < rFo r → ga S 1038 i = nI (y.1 i)
/-- what is found by the rows so far -/
def enM (r : zR) (z : zS) (L : List zW) (S : aS) : Prop := bsM r z S (bsS L) ∧ gi S 1000 58 = wsI (wrS r z L) ∧ gl S 1000 59 = lN (mnS r z L)
def rwC (i : Nat) : Prop := eC i ∨ i = 1037 ∨ i = 1038
def enC (i : Nat) : Prop := eC i ∨ i = 1038
def rwF (k : Nat) : Prop := k = 52 ∨ k = 53 ∨ (56 ≤ k ∧ k ≤ 59)
theorem enM.kept {r : zR} {z : zS} {L : List zW} {S S' : aS} {C F : Nat → Prop} (h : enM r z L S) (hf : frM C F S S') (hC : ¬ C 1038) (hF : ∀ k, 56 ≤ k → k ≤ 59 → ¬ F k) : enM r z L S' := by
  obtain ⟨h1, h2, h3⟩ := h
  refine ⟨?_, (hf.2.2.1 58 (hF 58 (by decide) (by decide))).trans h2, (hf.2.2.2 59 (hF 59 (by decide) (by decide))).trans h3⟩
  cases hb : bsS L with
  | none =>
    rw [hb] at h1
    exact ⟨(hf.2.2.2 56 (hF 56 (by decide) (by decide))).trans h1.1, (hf.2.2.2 57 (hF 57 (by decide) (by decide))).trans h1.2⟩
  | some y =>
    rw [hb] at h1
    exact ⟨h1.1, (hf.2.2.2 56 (hF 56 (by decide) (by decide))).trans h1.2.1, (hf.2.2.2 57 (hF 57 (by decide) (by decide))).trans h1.2.2.1, fun i a b => (hf.1 1038 i hC).trans (h1.2.2.2 i a b)⟩
section
variable {d : Nat} {Q : Value → aS → Prop} {S : aS} {r : zR} {z : zS}
theorem bM_endsRow50 {L : List zW} {x : zW} (ho : okRw r x) (h1 : bsM r z S (bsS (L ++ [x]))) (h2 : gi S 1000 58 = wsI (wrS r z (L ++ [x]))) (h3 : gl S 1000 59 = lN (mnS r z L)) (hA : gl S 1000 52 = lN x.2.1) (hB : gl S 1000 53 = lN x.2.2) (hx : ∀ S', frM enC rwF S S' → enM r z (L ++ [x]) S' → Q .null S') : aBM d 75 Q 50 [some (.ref 1000), none, none, some (.int (nI (dsR r z x)))] [] S := by
  obtain ⟨o1, o2, o3, o4, o5⟩ := ho
  have hd := dsV_le r (zSp z) (nSum (fun i => rGo r (x.1 i)) (rFo r)) (nMax (fun i => rGo r (x.1 i)) (rFo r))
  refine bM_endsRow_50 ?_
  rw [hA, hB, h3, show (1000000 : Int64) = lN 1000000 from rfl, lN_mul, pk_lDiv (by omega) (by omega) (by omega), nI_l (show dsR r z x < 2 ^ 31 by unfold dsR; omega), lN_mul, lN_add]
  refine ⟨fun q => ?_, hx _ (frM_sl (Or.inr (Or.inr (by omega)))) ⟨?_, h2, ?_⟩⟩
  · rw [show (0 : Int64) = lN 0 from rfl, pk_lEQ (by omega) (by decide)] at q
    omega
  · cases hb : bsS (L ++ [x]) with
    | none =>
      rw [hb] at h1
      exact ⟨by rw [gl_sl, if_neg (by decide)]; exact h1.1, by rw [gl_sl, if_neg (by decide)]; exact h1.2⟩
    | some y =>
      rw [hb] at h1
      exact ⟨h1.1, by rw [gl_sl, if_neg (by decide)]; exact h1.2.1, by rw [gl_sl, if_neg (by decide)]; exact h1.2.2.1, h1.2.2.2⟩
  · rw [gl_sl, if_pos ⟨rfl, rfl⟩, mnS_snoc]
theorem bM_endsRow35 {L : List zW} {x : zW} {sum most : Nat} (hr : okR r) (h : RM r S) (hs : stM r z (ga S 1032) 0) (ho : okRw r x) (hsum : sum = nSum (fun i => rGo r (x.1 i)) (rFo r)) (hmost : most = nMax (fun i => rGo r (x.1 i)) (rFo r)) (h1 : bsM r z S (bsS (L ++ [x]))) (h2 : gi S 1000 58 = wsI (wrS r z L)) (h3 : gl S 1000 59 = lN (mnS r z L)) (hA : gl S 1000 52 = lN x.2.1) (hB : gl S 1000 53 = lN x.2.2) (hx : ∀ S', frM enC rwF S S' → enM r z (L ++ [x]) S' → Q .null S') : aBM (d + 4) 75 Q 35 [some (.ref 1000), some (.int (nI sum)), some (.int (nI most)), none] [] S := by
  subst hsum
  subst hmost
  have hd := dsV_le r (zSp z) (nSum (fun i => rGo r (x.1 i)) (rFo r)) (nMax (fun i => rGo r (x.1 i)) (rFo r))
  refine bM_endsRow_35 (wM_doesBy h hs (fun S1 hf => ?_))
  have e58 : gi S1 1000 58 = wsI (wrS r z L) := (hf.2.2.1 58 (fun q => q)).trans h2
  have keep : ∀ S2, frM eC (fun k => k = 58) S S2 → gi S2 1000 58 = wsI (wrS r z (L ++ [x])) → aBM (d + 4) 75 Q 50 [some (.ref 1000), none, none, some (.int (nI (dsR r z x)))] [] S2 := by
    intro S2 hf2 e
    refine bM_endsRow50 ho ?_ e ((hf2.2.2.2 59 (by decide)).trans h3) ((hf2.2.2.2 52 (by decide)).trans hA) ((hf2.2.2.2 53 (by decide)).trans hB) (fun S3 hf3 he => hx S3 ((hf2.le (fun _ q => Or.inl q) (fun k q => Or.inr (Or.inr (by omega)))).tr hf3) he)
    cases hb : bsS (L ++ [x]) with
    | none =>
      rw [hb] at h1
      exact ⟨(hf2.2.2.2 56 (by decide)).trans h1.1, (hf2.2.2.2 57 (by decide)).trans h1.2⟩
    | some y =>
      rw [hb] at h1
      exact ⟨h1.1, (hf2.2.2.2 56 (by decide)).trans h1.2.1, (hf2.2.2.2 57 (by decide)).trans h1.2.2.1, fun i a b => (hf2.1 1038 i (by unfold eC; omega)).trans (h1.2.2.2 i a b)⟩
  have hf' : frM eC (fun k => k = 58) S S1 := hf.le (fun _ q => q) (fun _ q => q.elim)
  have hset : frM eC (fun k => k = 58) S (si S1 1000 58 (nI (dsR r z x))) := hf'.tr (frM_si rfl)
  have eset : gi (si S1 1000 58 (nI (dsR r z x))) 1000 58 = nI (dsR r z x) := by rw [gi_si, if_pos ⟨rfl, rfl⟩]
  simp only [aI]
  rw [e58]
  have hsn := wrS_snoc r z L x
  cases hw : wrS r z L with
  | none =>
    rw [hw] at hsn e58
    refine ⟨fun _ => keep _ hset ?_, fun q => absurd (by decide) q⟩
    exact eset.trans (by rw [hsn]; rfl)
  | some m =>
    have hm := wrS_le r z L m hw
    rw [hw] at hsn e58
    have hdd : dsR r z x ≤ 99 := hd
    unfold wrStep at hsn
    dsimp only at hsn
    show (nI m < 0 → _) ∧ (¬ nI m < 0 → ((nI m ≤ nI (dsR r z x) → _) ∧ (¬ nI m ≤ nI (dsR r z x) → _)))
    rw [nI_leI (by omega) (by omega)]
    refine ⟨fun q => absurd q (nI_pos (by omega)), fun _ => ⟨fun c => keep S1 hf' ?_, fun c => keep _ hset ?_⟩⟩
    · rw [if_pos c] at hsn
      rw [hsn]
      exact e58
    · rw [if_neg c] at hsn
      exact eset.trans (by rw [hsn]; rfl)
theorem wM_endsRow {L : List zW} {x : zW} {sum most : Nat} (hr : okR r) (h : RM r S) (hs : stM r z (ga S 1032) 0) (ho : okRw r x) (hsum : sum = nSum (fun i => rGo r (x.1 i)) (rFo r)) (hmost : most = nMax (fun i => rGo r (x.1 i)) (rFo r)) (he : enM r z L S) (hA : gl S 1000 52 = lN x.2.1) (hB : gl S 1000 53 = lN x.2.2) (hp : ∀ i, zWr z ≤ i → i < rFo r → ga S 1037 i = nI (x.1 i)) (hx : ∀ S', frM enC rwF S S' → enM r z (L ++ [x]) S' → Q .null S') : aWM (d + 5) 75 [.ref 1000, .int (nI sum), .int (nI most)] S Q := by
  obtain ⟨o1, o2, o3, o4, o5⟩ := id ho
  have hfo := hr.2.2.1.2
  obtain ⟨b1, b2, b3⟩ := he
  have fin : ∀ S2, frM (fun i => i = 1038) (fun k => k = 56 ∨ k = 57) S S2 → bsM r z S2 (bsS (L ++ [x])) → aBM (d + 4) 75 Q 35 [some (.ref 1000), some (.int (nI sum)), some (.int (nI most)), none] [] S2 := by
    intro S2 hf2 hb
    exact bM_endsRow35 hr (h.kept hf2 (fun i hi => by omega)) (by rw [show ga S2 1032 = ga S 1032 from funext fun j => hf2.1 1032 j (by omega)]; exact hs) ho hsum hmost hb ((hf2.2.2.1 58 (by decide)).trans b2) ((hf2.2.2.2 59 (by decide)).trans b3) ((hf2.2.2.2 52 (by decide)).trans hA) ((hf2.2.2.2 53 (by decide)).trans hB) (fun S3 hf3 he3 => hx S3 ((hf2.le (fun i q => Or.inr q) (fun k q => Or.inr (Or.inr (by omega)))).tr hf3) he3)
  have hsn := bsS_snoc L x
  have new : bsS (L ++ [x]) = some x → aBM (d + 4) 75 Q 22 [some (.ref 1000), some (.int (nI sum)), some (.int (nI most)), some (.int 0)] [] (sl (sl S 1000 56 (lN x.2.1)) 1000 57 (lN x.2.2)) := by
    intro hb
    have loop : ∀ m k S2, k + m = 4 → frM (fun i => i = 1038) (fun k => k = 56 ∨ k = 57) S S2 → (∀ i, i < k → ga S2 1038 i = ga S 1037 i) → gl S2 1000 56 = lN x.2.1 → gl S2 1000 57 = lN x.2.2 → aBM (d + 4) 75 Q 22 [some (.ref 1000), some (.int (nI sum)), some (.int (nI most)), some (.int (nI k))] [] S2 := by
      intro m
      induction m with
      | zero =>
        intro k S2 hk hf2 hc e56 e57
        obtain rfl : k = 4 := by omega
        refine bM_endsRow_22 ⟨fun _ => fin S2 hf2 ?_, fun q => absurd (show (4 : Int32) ≤ nI 4 by decide) q⟩
        rw [hb]
        exact ⟨ho, e56, e57, fun i a b => (hc i (by omega)).trans (hp i a b)⟩
      | succ m ih =>
        intro k S2 hk hf2 hc e56 e57
        refine bM_endsRow_22 ⟨fun q => absurd q (nI_ge (a := k) (b := 4) (by omega) (by decide)), fun _ => ⟨nI_in (by omega) (by decide), nI_in (by omega) (by decide), ?_⟩⟩
        rw [nI_clamp (by omega), nI_1]
        refine ih (k + 1) _ (by omega) (hf2.tr (frM_sa rfl)) (fun i hi => ?_) e56 e57
        rw [ga_sa]
        by_cases q : i = k
        · rw [if_pos ⟨rfl, q⟩, q]
          exact hf2.1 1037 k (by omega)
        · rw [if_neg (fun a => q a.2)]
          exact hc i (by omega)
    exact loop 4 0 _ rfl ((frM_sl (Or.inl rfl)).tr (frM_sl (Or.inr rfl))) (fun i hi => absurd hi (Nat.not_lt_zero _)) (by rw [gl_sl, if_neg (by decide), gl_sl, if_pos ⟨rfl, rfl⟩]) (by rw [gl_sl, if_pos ⟨rfl, rfl⟩])
  refine mM_endsRow ?_
  have e53 : gl (sl S 1000 56 (lN x.2.1)) 1000 53 = lN x.2.2 := by rw [gl_sl, if_neg (by decide)]; exact hB
  rw [hA, hB, e53, lg_cmp_le]
  cases hb : bsS L with
  | none =>
    rw [hb] at b1 hsn
    rw [b1.1, b1.2, Int64.mul_one, Int64.zero_mul, lNz (by omega)]
    exact ⟨fun q => absurd q (by omega), fun _ => new hsn⟩
  | some y =>
    rw [hb] at b1 hsn
    unfold bsStep at hsn
    dsimp only at hsn
    rw [b1.2.1, b1.2.2.1]
    refine ⟨fun c => fin S frM.rf ?_, fun c => new ?_⟩
    · rw [if_pos c] at hsn
      rw [hsn]
      exact b1
    · rw [if_neg c] at hsn
      exact hsn
/-- sums along a row -/
theorem nSum_pup {pre : Nat → Nat} {f w : Nat} : nSum (fun i => rGo r (pup pre f w i)) (f + 1) = nSum (fun i => rGo r (pre i)) f + rGo r w := by
  show nSum (fun i => rGo r (pup pre f w i)) f + rGo r (pup pre f w f) = _
  rw [nSum_ext (g := fun i => rGo r (pre i)) f (fun k hk => by unfold pup; rw [if_neg (by omega)])]
  unfold pup
  rw [if_pos rfl]
theorem nMax_pup {pre : Nat → Nat} {f w : Nat} : nMax (fun i => rGo r (pup pre f w i)) (f + 1) = max (nMax (fun i => rGo r (pre i)) f) (rGo r w) := by
  show max (nMax (fun i => rGo r (pup pre f w i)) f) (rGo r (pup pre f w f)) = _
  rw [nMax_ext (g := fun i => rGo r (pre i)) f (fun k hk => by unfold pup; rw [if_neg (by omega)])]
  unfold pup
  rw [if_pos rfl]
theorem wM_rows (hr : okR r) (hz : okZ r z) : ∀ n f a A B pre L S (Q : Value → aS → Prop), f + n = rFo r → zWr z ≤ f → (∀ i, i < f → pre i < rWd r ∧ rFd r (pre i) = i) → 0 < A → A ≤ B → A ≤ 99 ^ (4 - n) → B ≤ 1188 ^ (4 - n) → RM r S → stM r z (ga S 1032) 0 → enM r z L S → gl S 1000 52 = lN A → gl S 1000 53 = lN B → (∀ i, zWr z ≤ i → i < f → ga S 1037 i = nI (pre i)) → (∀ S', frM rwC rwF S S' → (∀ i, i < f → ga S' 1037 i = ga S 1037 i) → enM r z (L ++ rowsL r z (zSe z) n f a A B pre) S' → Q .null S') → aWM (d + n + 8) 76 [.ref 1000, .int (nI f), .int (nI a), .int (nI (nSum (fun i => rGo r (pre i)) f)), .int (nI (nMax (fun i => rGo r (pre i)) f))] S Q := by
  have hfo := hr.2.2.1.2
  have hwd := hr.2.1
  intro n
  induction n with
  | zero =>
    intro f a A B pre L S Q hf hwf hpre h0 hAB hA hB h hs he hgA hgB hp hx
    obtain rfl : f = rFo r := by omega
    have e2 : ga S 1002 2 = nI (rFo r) := h.1.2.2.1
    refine mM_rows ?_
    rw [c2, e2]
    simp only [Nat.sub_zero] at hA hB
    refine ⟨vin (by decide), fun q => absurd rfl q, fun _ => wM_endsRow (d := d + 2) (L := L) (x := (pre, A, B)) hr h hs ⟨fun i _ h2 => hpre i h2, h0, hAB, by show A ≤ 10 ^ 8; omega, hB⟩ rfl rfl he hgA hgB (fun i a b => hp i a b) (fun S1 hf1 he1 => hx S1 (hf1.le (fun i q => q.elim Or.inl (fun e => Or.inr (Or.inr e))) (fun _ q => q)) (fun i _ => hf1.1 1037 i (by unfold enC eC; omega)) he1)⟩
  | succ n ih =>
    intro f a A B pre L S Q hf hwf hpre h0 hAB hA hB h hs he hgA hgB hp hx
    have e2 : ga S 1002 2 = nI (rFo r) := h.1.2.2.1
    refine mM_rows ?_
    rw [c2, e2, nI_eq (by omega) (by omega), hgA, hgB]
    refine ⟨vin (by decide), fun _ => ?_, fun q => absurd q (by omega)⟩
    unfold rowsL at hx
    generalize hgg : (fun w => if rFd r w = f ∧ ¬ lkV r (wWho r (zSe z) f) (zLe z w) w a = 0 then rowsL r z (zSe z) n (f + 1) (rGo r w) (A * lkV r (wWho r (zSe z) f) (zLe z w) w a) (B * alV r z (wWho r (zSe z) f) f a) (pup pre f w) else []) = gg at hx
    have hg : ∀ w, gg w = if rFd r w = f ∧ ¬ lkV r (wWho r (zSe z) f) (zLe z w) w a = 0 then rowsL r z (zSe z) n (f + 1) (rGo r w) (A * lkV r (wWho r (zSe z) f) (zLe z w) w a) (B * alV r z (wWho r (zSe z) f) f a) (pup pre f w) else [] := fun w => by rw [← hgg]
    have hA8 : A ≤ 10 ^ 8 := Nat.le_trans hA (Nat.le_trans (Nat.pow_le_pow_right (by decide) (show 4 - (n + 1) ≤ 4 by omega)) (by decide))
    have loop : ∀ m k S1, k + m = rWd r → frM rwC rwF S S1 → (∀ i, i < f → ga S1 1037 i = ga S 1037 i) → gl S1 1000 52 = lN A → gl S1 1000 53 = lN B → enM r z (L ++ (List.range k).flatMap gg) S1 → aBM (d + (n + 1) + 7) 76 Q 19 [some (.ref 1000), some (.int (nI f)), some (.int (nI a)), some (.int (nI (nSum (fun i => rGo r (pre i)) f))), some (.int (nI (nMax (fun i => rGo r (pre i)) f))), some (.long (lN A)), none, some (.long (lN B)), none, some (.int (nI k))] [] S1 := by
      intro m
      induction m with
      | zero =>
        intro k S1 hk hf1 hp1 gA gB he1
        have h1 := h.kept hf1 (fun i hi => by unfold rwC eC at hi; omega)
        obtain rfl : k = rWd r := by omega
        refine bM_rows_19 ?_
        rw [c1, h1.1.2.1]
        exact ⟨vin (by decide), fun _ => hx S1 hf1 hp1 he1, fun q => absurd (nI_le (Nat.le_refl _) (by omega)) q⟩
      | succ m ih2 =>
        intro k S1 hk hf1 hp1 gA gB he1
        have h1 := h.kept hf1 (fun i hi => by unfold rwC eC at hi; omega)
        have hf3 := (hr.2.2.2.2.2.1 k (by omega)).1
        have hg20 := (hr.2.2.2.2.2.1 k (by omega)).2.2.1
        refine bM_rows_19 ?_
        rw [c1, h1.1.2.1, nI_clamp (show k < 2 ^ 31 by omega), h1.1.2.2.2.2.2.1 k (by omega), nI_eq (by omega) (by omega), nI_clamp (show f < 2 ^ 31 by omega), nI_1 k]
        have i24 : vp_in (nI k) 24 := nI_in (by omega) (by decide)
        refine ⟨vin (by decide), fun q => absurd q (nI_ge (by omega) (by omega)), fun _ => ⟨i24, fun c => ⟨nI_in (by omega) (by decide), ?_⟩, fun c => ?_⟩⟩
        · have hf2 : frM rwC rwF S (sa S1 1037 f (nI k)) := hf1.tr (frM_sa (Or.inr (Or.inl rfl)))
          have hs2 : stM r z (ga (sa S1 1037 f (nI k)) 1032) 0 := by
            rw [show ga (sa S1 1037 f (nI k)) 1032 = ga S 1032 from funext fun j => hf2.1 1032 j (by unfold rwC eC; omega)]
            exact hs
          have hlk := lkV_le hr (okW_who (r := r) (zSe z) f) (show k < rWd r by omega) (zLe z k) a
          have hal := alV_le hr z (okW_who (r := r) (zSe z) f) f a
          have hla := lk_le_al z (o := wWho r (zSe z) f) (a := a) (show k < rWd r by omega) c
          refine wM_goesOn (d := d + (n + 1) + 1) hr hz (h.kept hf2 (fun i hi => by unfold rwC eC at hi; omega)) hs2 (by omega) (by omega) hA8 gA gB (fun S2 hfg e52 e53 => ?_)
          have hfg' : frM rwC rwF S S2 := hf2.tr (hfg.le (fun _ q => Or.inl q) (fun k q => by unfold abF at q; unfold rwF; omega))
          have hp2 : ∀ i, i < f → ga S2 1037 i = ga S 1037 i := fun i hi => by
            rw [hfg.1 1037 i (by unfold eC; omega), ga_sa, if_neg (by omega)]
            exact hp1 i hi
          have he2 : enM r z (L ++ (List.range k).flatMap gg) S2 := by
            refine enM.kept (enM.kept he1 (frM_sa (C := fun i => i = 1037) (F := nF) (i := 1037) (k := f) (v := nI k) rfl) (by decide) (fun _ _ _ q => q)) hfg (by unfold eC; omega) (fun k a b => by unfold abF; omega)
          have resets : ∀ S3, frM rwC rwF S S3 → (∀ i, i < f → ga S3 1037 i = ga S 1037 i) → enM r z (L ++ (List.range (k + 1)).flatMap gg) S3 → aBM (d + (n + 1) + 7) 76 Q 19 [some (.ref 1000), some (.int (nI f)), some (.int (nI a)), some (.int (nI (nSum (fun i => rGo r (pre i)) f))), some (.int (nI (nMax (fun i => rGo r (pre i)) f))), some (.long (lN A)), none, some (.long (lN B)), none, some (.int (nI (k + 1)))] [] (sl (sl S3 1000 52 (lN A)) 1000 53 (lN B)) := by
            intro S3 hf4 hp4 he4
            have hab : frM (fun _ => False) abF S3 (sl (sl S3 1000 52 (lN A)) 1000 53 (lN B)) := (frM_sl (Or.inl rfl)).tr (frM_sl (Or.inr rfl))
            exact ih2 (k + 1) _ (by omega) (hf4.tr (hab.le (fun _ q => q.elim) (fun k q => by unfold abF at q; unfold rwF; omega))) hp4 (by rw [gl_sl, if_neg (by decide), gl_sl, if_pos ⟨rfl, rfl⟩]) (by rw [gl_sl, if_pos ⟨rfl, rfl⟩]) (he4.kept hab (fun q => q) (fun k a b => by unfold abF; omega))
          by_cases c3 : lkV r (wWho r (zSe z) f) (zLe z k) k a = 0
          · rw [c3, Nat.mul_zero, if_pos rfl]
            refine ⟨fun _ => resets S2 hfg' hp2 ?_, fun q => absurd rfl q⟩
            rw [List.range_succ, List.flatMap_append, List.flatMap_singleton, hg, if_neg (fun q => q.2 c3), List.append_nil]
            exact he2
          · rw [if_neg (fun q => (Nat.mul_eq_zero.mp q).elim (by omega) c3)]
            have h2 := h.kept hfg' (fun i hi => by unfold rwC eC at hi; omega)
            rw [h2.1.2.2.2.2.2.2.2.1 k (by omega)]
            have hgo20 : ∀ i, i < f → rGo r (pre i) ≤ 20 := fun i hi => (hr.2.2.2.2.2.1 _ (hpre i hi).1).2.2.1
            have hS := nSum_le (f := fun i => rGo r (pre i)) (m := 20) f hgo20
            have hM := nMax_le (f := fun i => rGo r (pre i)) (m := 20) f hgo20
            refine ⟨fun q => absurd q (by decide), fun _ => ⟨i24, i24, i24, ?_⟩⟩
            rw [nI_add, nI_max (by omega) (by omega), nI_1 f, ← nSum_pup (pre := pre), ← nMax_pup (pre := pre)]
            rw [Nat.max_eq_right (by omega)] at e53
            have e4 : 4 - n = (4 - (n + 1)) + 1 := by omega
            have hs3 : stM r z (ga S2 1032) 0 := by
              rw [show ga S2 1032 = ga S 1032 from funext fun j => hfg'.1 1032 j (by unfold rwC eC; omega)]
              exact hs
            refine ih (f + 1) (rGo r k) _ _ (pup pre f k) (L ++ (List.range k).flatMap gg) S2 _ (by omega) (by omega) (fun i hi => ?_) (Nat.mul_pos h0 (by omega)) (Nat.mul_le_mul hAB hla) (by rw [e4, Nat.pow_succ]; exact Nat.mul_le_mul hA hlk) (by rw [e4, Nat.pow_succ]; exact Nat.mul_le_mul hB hal) h2 hs3 he2 e52 e53 (fun i a b => ?_) (fun S3 hf5 hp5 he5 => ?_)
            · unfold pup
              by_cases e : i = f
              · rw [if_pos e]; exact ⟨by omega, by rw [e]; exact c⟩
              · rw [if_neg e]; exact hpre i (by omega)
            · unfold pup
              by_cases e : i = f
              · rw [if_pos e, hfg.1 1037 i (by unfold eC; omega), ga_sa, if_pos ⟨rfl, e⟩]
              · rw [if_neg e, hp2 i (by omega)]
                exact hp i a (by omega)
            · refine resets S3 (hfg'.tr hf5) (fun i hi => (hp5 i (by omega)).trans (hp2 i hi)) ?_
              rw [List.range_succ, List.flatMap_append, List.flatMap_singleton, hg, if_pos ⟨c, c3⟩, ← List.append_assoc]
              exact he5
        · refine ih2 (k + 1) S1 (by omega) hf1 hp1 gA gB ?_
          rw [List.range_succ, List.flatMap_append, List.flatMap_singleton, hg, if_neg (fun q => c q.1), List.append_nil]
          exact he1
    refine loop (rWd r) 0 S (by omega) frM.rf (fun _ _ => rfl) hgA hgB ?_
    show enM r z (L ++ []) S
    rw [List.append_nil]
    exact he
theorem wM_laysRows (hr : okR r) (hz : okZ r z) (h : RM r S) (hs : stM r z (ga S 1032) 0) (hx : ∀ S', frM rwC rwF S S' → enM r z (rowsZ r z) S' → Q .null S') : aWM (d + 14) 77 [.ref 1000] S Q := by
  have hfo := hr.2.2.1.2
  have hwd := hr.2.1
  have hwr := hz.2.1
  refine mM_laysRows ?_
  have hf0 : frM rwC rwF S (sl (sl (sl (si (sl (sl S 1000 56 0) 1000 57 1) 1000 58 (-1)) 1000 59 0) 1000 52 1) 1000 53 1) := ((((((frM_sl (by unfold rwF; omega)).tr (frM_sl (by unfold rwF; omega))).tr (frM_si (by unfold rwF; omega))).tr (frM_sl (by unfold rwF; omega))).tr (frM_sl (by unfold rwF; omega))).tr (frM_sl (by unfold rwF; omega)))
  have e52 : gl (sl (sl (sl (si (sl (sl S 1000 56 0) 1000 57 1) 1000 58 (-1)) 1000 59 0) 1000 52 1) 1000 53 1) 1000 52 = lN 1 := by rw [gl_sl, if_neg (by decide), gl_sl, if_pos ⟨rfl, rfl⟩]; rfl
  have e53 : gl (sl (sl (sl (si (sl (sl S 1000 56 0) 1000 57 1) 1000 58 (-1)) 1000 59 0) 1000 52 1) 1000 53 1) 1000 53 = lN 1 := by rw [gl_sl, if_pos ⟨rfl, rfl⟩]; rfl
  have he0 : enM r z [] (sl (sl (sl (si (sl (sl S 1000 56 0) 1000 57 1) 1000 58 (-1)) 1000 59 0) 1000 52 1) 1000 53 1) := by
    refine ⟨⟨?_, ?_⟩, ?_, ?_⟩
    · rw [gl_sl, if_neg (by decide), gl_sl, if_neg (by decide), gl_sl, if_neg (by decide), gl_si, gl_sl, if_neg (by decide), gl_sl, if_pos ⟨rfl, rfl⟩]
    · rw [gl_sl, if_neg (by decide), gl_sl, if_neg (by decide), gl_sl, if_neg (by decide), gl_si, gl_sl, if_pos ⟨rfl, rfl⟩]
    · rw [gi_sl, gi_sl, gi_sl, gi_si, if_pos ⟨rfl, rfl⟩]; rfl
    · rw [gl_sl, if_neg (by decide), gl_sl, if_neg (by decide), gl_sl, if_pos ⟨rfl, rfl⟩]; rfl
  generalize sl (sl (sl (si (sl (sl S 1000 56 0) 1000 57 1) 1000 58 (-1)) 1000 59 0) 1000 52 1) 1000 53 1 = S1 at *
  have h1 := h.kept hf0 (fun i hi => by unfold rwC eC at hi; omega)
  have hs1 : stM r z (ga S1 1032) 0 := by
    rw [show ga S1 1032 = ga S 1032 from funext fun j => hf0.1 1032 j (by unfold rwC eC; omega)]
    exact hs
  have e1 : ga S1 1032 1 = nI (zWr z) := hs1.2.1
  have loop : ∀ m k, k + m = zWr z → aBM (d + 13) 77 Q 24 [some (.ref 1000), some (.int (nI (nSum (fun i => rGo r (zSt z i)) k))), some (.int (nI (nMax (fun i => rGo r (zSt z i)) k))), some (.int (nI k))] [] S1 := by
    intro m
    induction m with
    | zero =>
      intro k hk
      obtain rfl : k = zWr z := by omega
      refine bM_laysRows_24 ?_
      rw [c1, e1]
      refine ⟨vin (by decide), fun _ => ⟨vin (by decide), vin (by decide), wM_aheadOf hr hz h1 hs1 ?_⟩, fun q => absurd (nI_le (Nat.le_refl _) (by omega)) q⟩
      have key := wM_rows (d := d + 13 - (rFo r - zWr z) - 8) hr hz (rFo r - zWr z) (zWr z) (ahV r z) 1 1 (zSt z) [] S1 (fun v4 S5 => aV v4 (Q .null S5)) (by omega) (Nat.le_refl _) (fun i hi => hz.2.2.2.1 i hi) (by decide) (by decide) (Nat.one_le_pow _ _ (by decide)) (Nat.one_le_pow _ _ (by decide)) h1 hs1 he0 e52 e53 (fun i a b => absurd a (by omega)) (fun S2 hf2 _ he2 => hx S2 (hf0.tr hf2) he2)
      rw [show d + 13 - (rFo r - zWr z) - 8 + (rFo r - zWr z) + 8 = d + 13 by omega] at key
      exact key
    | succ m ih =>
      intro k hk
      obtain ⟨hst, -⟩ := hz.2.2.2.1 k (by omega)
      have hgo : ∀ i, i < zWr z → rGo r (zSt z i) ≤ 20 := fun i hi => (hr.2.2.2.2.2.1 _ (hz.2.2.2.1 i hi).1).2.2.1
      have hS := nSum_le (f := fun i => rGo r (zSt z i)) (m := 20) k (fun i hi => hgo i (by omega))
      have hM := nMax_le (f := fun i => rGo r (zSt z i)) (m := 20) k (fun i hi => hgo i (by omega))
      have hk20 := hgo k (by omega)
      have e4 : (4 : Int32) + nI k = nI (4 + k) := nI_add 4 k
      have es : ga S1 1032 (4 + k) = nI (zSt z k) := by
        have := hs1.2.2.2.2.1 k (by omega)
        rw [Nat.zero_add] at this
        exact this
      refine bM_laysRows_24 ?_
      rw [c1, e1, e4, nI_clamp (show 4 + k < 2 ^ 31 by omega), es, nI_clamp (show zSt z k < 2 ^ 31 by omega), h1.1.2.2.2.2.2.2.2.1 _ hst, nI_add, nI_max (by omega) (by omega), nI_1]
      exact ⟨vin (by decide), fun q => absurd q (nI_ge (by omega) (by omega)), fun _ => ⟨nI_in (by omega) (by decide), nI_in (by omega) (by decide), nI_in (by omega) (by decide), nI_in (by omega) (by decide), ih (k + 1) (by omega)⟩⟩
  exact loop (zWr z) 0 (by omega)
end
