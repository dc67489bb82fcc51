/-! an E worked out, the reference: rows of codes and their values -/
def cAt (S : aS) (k : Nat) (cs : List Int32) : Prop := ∀ i c, cs[i]? = some c → ga S 1014 (k + i) = c
def fcM (o : Nat) (S : aS) : Nat → Int32 := fun i => ga S 1026 (o + i)
theorem cAt.l {S : aS} {k : Nat} {a b : List Int32} (h : cAt S k (a ++ b)) : cAt S k a := fun i c hi => h i c (by rw [List.getElem?_append_left (List.getElem?_eq_some_iff.mp hi).1]; exact hi)
theorem cAt.r {S : aS} {k : Nat} {a b : List Int32} (h : cAt S k (a ++ b)) : cAt S (k + a.length) b := fun i c hi => by
  have := h (a.length + i) c (by rw [List.getElem?_append_right (by omega), Nat.add_sub_cancel_left]; exact hi)
  rw [Nat.add_assoc]
  exact this
theorem cAt.hd {S : aS} {k : Nat} {c : Int32} {b : List Int32} (h : cAt S k (c :: b)) : ga S 1014 k = c := h 0 c rfl
theorem cAt.tl {S : aS} {k : Nat} {c : Int32} {b : List Int32} (h : cAt S k (c :: b)) : cAt S (k + 1) b := fun i c' hi => by
  have := h (i + 1) c' hi
  rw [Nat.add_assoc, Nat.add_comm 1 i]
  exact this
theorem cAt.kept {S S' : aS} {k n dp : Nat} {cs : List Int32} (h : cAt S k cs) (hf : frG n dp S S') (hn : 1015 ≤ n) : cAt S' k cs := fun i c hi => (hf.1 _ _ (by unfold aR; omega)).trans (h i c hi)
theorem lnM.kept {S S' : aS} {l e n dp : Nat} (h : lnM S l e) (hf : frG n dp S S') (hn : 1015 ≤ n) : lnM S' l e := ⟨h.1, (hf.1 _ _ (by unfold aR; omega)).trans h.2.1, h.2.2⟩
theorem fcM_kept {S S' : aS} {o n dp : Nat} (hf : frG n dp S S') : fcM o S' = fcM o S := funext fun i => hf.1 _ _ (by unfold aR; omega)
theorem nB.kept {S S' : aS} {n dp : Nat} (h : nB S dp) (hf : frG n dp S S') : nB S' dp := h.imp_right (fun q z => q ((hf.1 _ _ (by unfold aR; omega)).symm.trans z))
/-- a part: a number, a fact, a not, an E in signs -/
def ePa (o h : Nat) (cs : List Int32) (F : zF) : Prop := 0 < cs.length ∧ ∀ d Q l e dp k S, lnM S l e → k + cs.length ≤ e → dp + h ≤ 6 → cAt S k cs → (∀ S' k', k' + 1 = k + cs.length → frG 1025 dp S S' → wv (d + 2) Q l dp k' (F (fcM o S)) S') → wk (d + 2) Q l dp k S
def eL (n : Nat) (pre : aS → Nat → Prop) (val : aS → Nat → Int32) (o h : Nat) (cs : List Int32) (F : zF) : Prop := 0 < cs.length ∧ ∀ d Q l e dp k S, lnM S l e → k + cs.length ≤ e → dp + h ≤ 6 → cAt S k cs → nB S dp → pre S dp → (∀ S', frG n dp S S' → val S' dp = F (fcM o S) → wk (d + 2) Q l dp (k + cs.length) S') → wk (d + 2) Q l dp k S
def eMu : Nat → Nat → List Int32 → zF → Prop := eL 1023 (fun S dp => ga S 1024 dp = 0) (fun S dp => ga S 1023 dp)
def eSu : Nat → Nat → List Int32 → zF → Prop := eL 1021 sPn rS
def eTs : Nat → Nat → List Int32 → zF → Prop := eL 1019 tPn rT
def eEx : Nat → Nat → List Int32 → zF → Prop := eL 1017 oPn rK
section
variable {o h h' : Nat} {cs cs' : List Int32} {F G : zF}
theorem ePa_num {n : Nat} (hn : n ≤ 9999) : ePa o h [nI (100 + n)] (fun _ => nI n) := ⟨by simp, fun d Q l e dp k S hl hk hd hc hx => wk_num hl (by simp only [List.length_cons, List.length_nil] at hk; omega) hn hc.hd (hx S k (by simp) frG.rf)⟩
theorem ePa_fact {n : Nat} (hn : o + n < 20) : ePa o h [nI (o + n)] (fun f => f n) := ⟨by simp, fun d Q l e dp k S hl hk hd hc hx => wk_fact hl (by simp only [List.length_cons, List.length_nil] at hk; omega) hn hc.hd (hx S k (by simp) frG.rf)⟩
theorem ePa_not (p : ePa o h cs F) : ePa o (h + 1) (30 :: cs) (fun f => if F f = 0 then 1 else 0) := by
  refine ⟨by simp, fun d Q l e dp k S hl hk hd hc hx => ?_⟩
  rw [List.length_cons] at hk
  refine wk_28 (b := 1) hl (by omega) (by omega) hc.hd (Or.inr ⟨rfl, rfl⟩) (fun S1 hf e1 e2 => ?_)
  refine p.2 d Q l e (dp + 1) (k + 1) S1 (hl.kept hf (by omega)) (by omega) (by omega) (hc.tl.kept hf (by omega)) (fun S2 k' hk' hf2 => ?_)
  rw [fcM_kept hf]
  refine wv_not ?_ (by omega) (hx S2 k' (by rw [List.length_cons]; omega) (hf.tr (hf2.le (fun i j q => by unfold aR at q ⊢; omega))))
  rw [hf2.1 _ _ (by unfold aR; omega)]
  exact e1
theorem ePa_E (p : eEx o h cs F) : ePa o (h + 1) (28 :: (cs ++ [29])) F := by
  refine ⟨by simp, fun d Q l e dp k S hl hk hd hc hx => ?_⟩
  rw [List.length_cons, List.length_append, List.length_cons, List.length_nil] at hk
  refine wk_28 (b := 0) hl (by omega) (by omega) hc.hd (Or.inl ⟨rfl, rfl⟩) (fun S1 hf e1 e2 => ?_)
  have hc1 := hc.tl.kept hf (by omega)
  refine p.2 d Q l e (dp + 1) (k + 1) S1 (hl.kept hf (by omega)) (by omega) (by omega) hc1.l (Or.inr (by rw [e1]; decide)) e2 (fun S2 hf2 hv => ?_)
  rw [fcM_kept hf] at hv
  refine wk_29 ((hl.kept hf (by omega)).kept hf2 (by omega)) (by omega) (by omega) (hc1.r.kept hf2 (by omega)).hd (fun S3 hf3 => ?_)
  rw [hv]
  exact hx S3 _ (by rw [List.length_cons, List.length_append, List.length_cons, List.length_nil]; omega) ((hf.tr (hf2.le (fun i j q => by unfold aR at q ⊢; omega))).tr (hf3.le (fun i j q => by unfold aR at q ⊢; omega)))
theorem eMu_P (p : ePa o h cs F) : eMu o h cs F := by
  refine ⟨p.1, fun d Q l e dp k S hl hk hd hc hB hp hx => ?_⟩
  refine p.2 d Q l e dp k S hl hk hd hc (fun S1 k' hk' hf => wv_end (hB.kept hf) (by omega) (fun S2 hf2 e1 => ?_))
  have e3 : ga S1 1024 dp = 0 := (hf.1 _ _ (by unfold aR; omega)).trans hp
  rw [if_pos e3] at e1
  rw [hk']
  exact hx S2 ((hf.le (fun i j q => by unfold aR at q ⊢; omega)).tr hf2) e1
theorem eMu_mul (p : eMu o h cs F) (q : ePa o h' cs' G) : eMu o (max h h') (cs ++ 22 :: cs') (fun f => F f * G f) := by
  refine ⟨by simp only [List.length_append, List.length_cons]; omega, fun d Q l e dp k S hl hk hd hc hB hp hx => ?_⟩
  rw [List.length_append, List.length_cons] at hk
  refine p.2 d Q l e dp k S hl (by omega) (by omega) hc.l hB hp (fun S1 hf hv => ?_)
  have hl1 := hl.kept hf (by omega)
  have hc1 := hc.r.kept hf (by omega)
  refine wk_22 hl1 (by omega) (by omega) hc1.hd (fun S2 hf2 e1 e2 => ?_)
  have hl2 := hl1.kept hf2 (by omega)
  refine q.2 d Q l e dp _ S2 hl2 (by omega) (by omega) (hc1.tl.kept hf2 (by omega)) (fun S3 k' hk' hf3 => ?_)
  refine wv_end ((((hB.kept hf)).kept hf2).kept hf3) (by omega) (fun S4 hf4 e3 => ?_)
  have g1 : ga S3 1024 dp = 22 := (hf3.1 _ _ (by unfold aR; omega)).trans e2
  have g2 : ga S3 1023 dp = F (fcM o S) := ((hf3.1 _ _ (by unfold aR; omega)).trans e1).trans hv
  rw [g1, if_neg (by decide), g2, fcM_kept hf2, fcM_kept hf] at e3
  have hlen : (cs ++ 22 :: cs').length = cs.length + (cs'.length + 1) := by rw [List.length_append, List.length_cons]
  have hk2 : k' + 1 = k + (cs ++ 22 :: cs').length := by rw [hlen]; omega
  rw [hk2]
  exact hx S4 (((hf.tr hf2).tr (hf3.le (fun i j q => by unfold aR at q ⊢; omega))).tr hf4) e3
theorem eSu_M (p : eMu o h cs F) : eSu o h cs F := by
  refine ⟨p.1, fun d Q l e dp k S hl hk hd hc hB hp hx => ?_⟩
  refine p.2 d Q l e dp k S hl hk hd hc hB hp.2.2 (fun S1 hf hv => hx S1 (hf.le (fun i j q => by unfold aR at q ⊢; omega)) ?_)
  unfold rS
  rw [hf.1 1022 dp (by unfold aR; omega), hf.1 1021 dp (by unfold aR; omega), hp.1, hp.2.1, if_neg (by decide), (show ga S1 1023 dp = F (fcM o S) from hv), Int32.zero_add]
theorem eSu_add {c : Int32} (hcc : c = 20 ∨ c = 21) (p : eSu o h cs F) (q : eMu o h' cs' G) : eSu o (max h h') (cs ++ c :: cs') (fun f => if c = 21 then F f - G f else F f + G f) := by
  refine ⟨by simp only [List.length_append, List.length_cons]; omega, fun d Q l e dp k S hl hk hd hc hB hp hx => ?_⟩
  rw [List.length_append, List.length_cons] at hk
  refine p.2 d Q l e dp k S hl (by omega) (by omega) hc.l hB hp (fun S1 hf hv => ?_)
  have hl1 := hl.kept hf (by omega)
  have hc1 := hc.r.kept hf (by omega)
  refine wk_20 hl1 (by omega) (by omega) hc1.hd hcc (fun S2 hf2 e1 e2 e3 => ?_)
  have hl2 := hl1.kept hf2 (by omega)
  refine q.2 d Q l e dp _ S2 hl2 (by omega) (by omega) (hc1.tl.kept hf2 (by omega)) ((hB.kept hf).kept hf2) e3 (fun S3 hf3 hv3 => ?_)
  have hv3 := id hv3
  dsimp only at hv3
  have hlen : (cs ++ c :: cs').length = cs.length + (cs'.length + 1) := by rw [List.length_append, List.length_cons]
  have hk2 : k + cs.length + 1 + cs'.length = k + (cs ++ c :: cs').length := by rw [hlen]; omega
  rw [hk2]
  refine hx S3 ((hf.tr hf2).tr (hf3.le (fun i j q => by unfold aR at q ⊢; omega))) ?_
  unfold rS
  rw [hf3.1 1022 dp (by unfold aR; omega), hf3.1 1021 dp (by unfold aR; omega), e1, e2, hv3, hv, fcM_kept hf2, fcM_kept hf]
theorem eTs_A (p : eSu o h cs F) : eTs o h cs F := by
  refine ⟨p.1, fun d Q l e dp k S hl hk hd hc hB hp hx => ?_⟩
  refine p.2 d Q l e dp k S hl hk hd hc hB hp.2 (fun S1 hf hv => hx S1 (hf.le (fun i j q => by unfold aR at q ⊢; omega)) ?_)
  unfold rT
  rw [hf.1 1020 dp (by unfold aR; omega), hp.1, hv]
  unfold cmpV
  rw [if_neg (by decide), if_neg (by decide)]
theorem eTs_cmp {c : Int32} (hcc : c = 24 ∨ c = 25) (p : eSu o h cs F) (q : eSu o h' cs' G) : eTs o (max h h') (cs ++ c :: cs') (fun f => cmpV c (F f) (G f)) := by
  refine ⟨by simp only [List.length_append, List.length_cons]; omega, fun d Q l e dp k S hl hk hd hc hB hp hx => ?_⟩
  rw [List.length_append, List.length_cons] at hk
  refine p.2 d Q l e dp k S hl (by omega) (by omega) hc.l hB hp.2 (fun S1 hf hv => ?_)
  have hl1 := hl.kept hf (by omega)
  have hc1 := hc.r.kept hf (by omega)
  refine wk_24 hl1 (by omega) (by omega) hc1.hd hcc (fun S2 hf2 e1 e2 e3 => ?_)
  have hl2 := hl1.kept hf2 (by omega)
  refine q.2 d Q l e dp _ S2 hl2 (by omega) (by omega) (hc1.tl.kept hf2 (by omega)) ((hB.kept hf).kept hf2) e3 (fun S3 hf3 hv3 => ?_)
  have hlen : (cs ++ c :: cs').length = cs.length + (cs'.length + 1) := by rw [List.length_append, List.length_cons]
  have hk2 : k + cs.length + 1 + cs'.length = k + (cs ++ c :: cs').length := by rw [hlen]; omega
  rw [hk2]
  refine hx S3 (((hf.le (fun i j q => by unfold aR at q ⊢; omega)).tr hf2).tr (hf3.le (fun i j q => by unfold aR at q ⊢; omega))) ?_
  unfold rT
  rw [hf3.1 1020 dp (by unfold aR; omega), hf3.1 1019 dp (by unfold aR; omega), e1, e2, hv3, hv, fcM_kept hf2, fcM_kept hf]
theorem eEx_T (p : eTs o h cs F) : eEx o h cs F := by
  refine ⟨p.1, fun d Q l e dp k S hl hk hd hc hB hp hx => ?_⟩
  refine p.2 d Q l e dp k S hl hk hd hc hB hp.2 (fun S1 hf hv => hx S1 (hf.le (fun i j q => by unfold aR at q ⊢; omega)) ?_)
  unfold rK
  rw [hf.1 1018 dp (by unfold aR; omega), hp.1, hv]
  unfold joiV
  rw [if_neg (by decide), if_neg (by decide)]
theorem eEx_join {c : Int32} (hcc : c = 26 ∨ c = 27) (p : eEx o h cs F) (q : eTs o h' cs' G) : eEx o (max h h') (cs ++ c :: cs') (fun f => joiV c (F f) (G f)) := by
  refine ⟨by simp only [List.length_append, List.length_cons]; omega, fun d Q l e dp k S hl hk hd hc hB hp hx => ?_⟩
  rw [List.length_append, List.length_cons] at hk
  refine p.2 d Q l e dp k S hl (by omega) (by omega) hc.l hB hp (fun S1 hf hv => ?_)
  have hl1 := hl.kept hf (by omega)
  have hc1 := hc.r.kept hf (by omega)
  refine wk_26 hl1 (by omega) (by omega) hc1.hd hcc (fun S2 hf2 e1 e2 e3 => ?_)
  have hl2 := hl1.kept hf2 (by omega)
  refine q.2 d Q l e dp _ S2 hl2 (by omega) (by omega) (hc1.tl.kept hf2 (by omega)) ((hB.kept hf).kept hf2) e3 (fun S3 hf3 hv3 => ?_)
  have hlen : (cs ++ c :: cs').length = cs.length + (cs'.length + 1) := by rw [List.length_append, List.length_cons]
  have hk2 : k + cs.length + 1 + cs'.length = k + (cs ++ c :: cs').length := by rw [hlen]; omega
  rw [hk2]
  refine hx S3 ((hf.tr hf2).tr (hf3.le (fun i j q => by unfold aR at q ⊢; omega))) ?_
  unfold rK
  rw [hf3.1 1018 dp (by unfold aR; omega), hf3.1 1017 dp (by unfold aR; omega), e1, e2, hv3, hv, fcM_kept hf2, fcM_kept hf]
end
section
variable {d : Nat} {Q : Value → aS → Prop} {S : aS} {o h l a : Nat} {cs : List Int32} {F : zF}
/-- cells in which an E is worked out -/
def wC (i : Nat) : Prop := 1017 ≤ i ∧ i ≤ 1025
theorem frG.M {n dp : Nat} {S S' : aS} (hn : 1017 ≤ n) (hf : frG n dp S S') : frM wC nF S S' := by
  obtain ⟨h1, h2, h3, h4, h5⟩ := hf
  refine ⟨fun i k hi => h1 i k (fun q => hi ?_), fun i k _ => ?_, fun k _ => ?_, fun k _ => ?_⟩
  · unfold aR at q
    unfold wC
    omega
  · show S'.2.2.2.2 i k = S.2.2.2.2 i k
    rw [h5]
  · show S'.1 1000 k = S.1 1000 k
    rw [h2]
  · show S'.2.1 1000 k = S.2.1 1000 k
    rw [h3]
theorem wM_worked (hE : eEx o h cs F) (h6 : h ≤ 6) (hl : l < 4) (hfr : ga S 1012 l = nI a) (hto : ga S 1013 l = nI (a + cs.length)) (h2 : a + cs.length ≤ 2000) (hc : cAt S a cs) (hx : ∀ S', frM wC nF S S' → Q (.int (F (fcM o S))) S') : aWM (d + 3) 16 [.ref 1000, .int (nI l)] S Q := by
  refine mM_worked (wM_opens (dp := 0) (by decide) (fun S1 hf e1 e2 e3 e4 e5 => ⟨nI_in hl (by decide), ?_⟩))
  have hf' : frG 1017 0 S S1 := hf.le (fun i j q => by unfold aR at q ⊢; omega)
  rw [nI_clamp (by omega), hf.1 1012 l (by unfold aR; omega), hfr]
  have hl1 : lnM S1 l (a + cs.length) := ⟨hl, (hf.1 1013 l (by unfold aR; omega)).trans hto, h2⟩
  refine hE.2 d Q l (a + cs.length) 0 a S1 hl1 (Nat.le_refl _) (by omega) (hc.kept hf (by omega)) (Or.inl rfl) ⟨e1, e2, e3, e4, e5⟩ (fun S2 hf2 hv => ?_)
  obtain ⟨l1, l2, l3⟩ := hl1.kept hf2 (by omega)
  refine bM_worked_10 ?_
  rw [nI_clamp (show l < 2 ^ 31 by omega), l2]
  refine ⟨nI_in hl (by decide), fun _ => ?_, fun q => absurd (nI_le (Nat.le_refl _) (by omega)) q⟩
  refine wM_tests (dp := 0) (by decide) (fun S3 hf3 g1 g2 g3 g4 g5 g6 => ⟨vin (by decide), ?_⟩)
  show Q (.int (ga S3 1017 0)) S3
  rw [g1, hv, fcM_kept hf]
  exact hx S3 (((hf'.M (by omega)).tr (hf2.M (by omega))).tr (hf3.M (by omega)))
end
