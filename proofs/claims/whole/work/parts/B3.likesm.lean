/-! likes, clash, folds: the reference -/
section
variable {d : Nat} {Q : Value → aS → Prop} {S : aS} {tp : List Nat} {q c : Nat} {D : zD}
theorem g38 {S : aS} {v : Int32} : gi (si S 1000 38 v) 1000 38 = v := by
  rw [gi_si, if_pos ⟨rfl, rfl⟩]
theorem f38 {S : aS} {v : Int32} : frM noC nwF S (si S 1000 38 v) := frM_si (Or.inr (Or.inl rfl))
theorem wM_needsTold {u n : Nat} {f : Nat → List Nat} (ht : okT tp) (hs : tkM tp q S) (hl : plT tp q) (hu : u ≤ 1) (hn : n ≤ 12) (hc : ga S 1002 (4 * u + 1) = nI n) (hf : ∀ k, k < n → nmS (f k)) (hg : ∀ k, k < n → gb S 1004 (12 * u + k) = lN (enc 27 (f k))) (h1 : srT tp q = 3 → ∀ k, k < n → fdN n f (nmT tp q) = some k → Q (.int 1) (si S 1000 38 (nI k))) (h2 : srT tp q = 3 → fdN n f (nmT tp q) = none → ∀ S', frM noC erF S S' → gi S' 1000 9 = 2 + 16 * nI q → Q (.int 0) S') (h0 : ¬ srT tp q = 3 → ∀ S', frM noC erF S S' → gi S' 1000 9 = 1 + 16 * nI q → Q (.int 0) S') : aWM (d + 2) 24 [.ref 1000, .int (nI u)] S Q := by
  refine mM_needsToldWord (wM_isKept ht hs hl.1 ?_)
  by_cases e : srT tp q = 3
  · rw [decide_eq_false (fun x => x e)]
    refine ⟨fun _ => ?_, fun z => absurd rfl z⟩
    have e7 := hs.2.2.2.2.1 ((srT_n3 ht hl.1).mp e).1
    refine wM_wordNamed hu hn hc hf hg (nm_3 ht hl e) e7 (fun k hk ek hj => ?_) (fun nd => ?_)
    · show ((0 : Int32) ≤ gi (si S 1000 38 (nI k)) 1000 38 → _) ∧ (¬ (0 : Int32) ≤ gi (si S 1000 38 (nI k)) 1000 38 → _)
      rw [g38]
      exact ⟨fun _ => ⟨Or.inr rfl, h1 e k hk (fdN_some hk ek hj)⟩, fun z => absurd (nI_pos' (by omega)) z⟩
    · show ((0 : Int32) ≤ gi (si S 1000 38 (-1)) 1000 38 → _) ∧ (¬ (0 : Int32) ≤ gi (si S 1000 38 (-1)) 1000 38 → _)
      rw [g38]
      refine ⟨fun z => absurd z (by decide), fun _ => wM_fail (tk_si hs (by decide)) ⟨fun _ => ⟨Or.inl rfl, h2 e (fdN_none nd) _ ((er_nw f38).tr frM_err) ?_⟩, fun z => absurd rfl z⟩⟩
      rw [gi_si, if_pos ⟨rfl, rfl⟩]
  · rw [decide_eq_true (show ¬ srT tp q = 3 from e)]
    refine ⟨fun z => absurd z (by decide), fun _ => wM_fail hs ⟨Or.inl rfl, h0 e _ frM_err ?_⟩⟩
    rw [gi_si, if_pos ⟨rfl, rfl⟩]
theorem M_likes (ht : okT tp) (ok : okDr D) (hl : plT tp q) (hq0 : srT tp q ≠ 0) : mL tp 27 [] D q (lkF tp D q) := by
  intro d Q S c h hs hc hE h1 h0
  have h5 := ok.1.1
  have hwd := ok.1.2.1
  have n1 := nx_gt (lt_sr hl hq0)
  have l1 := plT_nx hl
  have l2 : plT tp (nx2 tp q) := plT_nx l1
  have l3 := plT_nx l2
  refine mM_readsLikes (wM_nx ht hs hl (fun S1 f1 t1 => ?_))
  have u1 : frU S S1 := frU_tk f1
  show aWM (d + 5) 17 [.ref 1000] S1 _
  refine wM_isKept ht t1 l1.1 ?_
  by_cases e : srT tp (nxT tp q) = 3
  rotate_left
  · rw [decide_eq_true (show ¬ srT tp (nxT tp q) = 3 from e)]
    exact ⟨fun z => absurd z (by decide), fun _ => wM_fail t1 ⟨Or.inl rfl, hE _ _ (by unfold lkF; rw [tdB_n e]) (frU_9 u1).1 (frU_9 u1).2⟩⟩
  rw [decide_eq_false (fun x => x e)]
  refine ⟨fun _ => ?_, fun z => absurd rfl z⟩
  have e7 := t1.2.2.2.2.1 ((srT_n3 ht l1.1).mp e).1
  refine wM_writerNamed ok (h.tk f1) (nm_3 ht l1 e) e7 (fun a ha ea hj => ⟨fun _ => ?_, fun z => absurd (nI_pos' (by omega)) z⟩) (fun nw => ⟨fun z => absurd z (by decide), fun _ => wM_fail t1 ⟨Or.inl rfl, hE _ _ (by unfold lkF; rw [tdB_0 e (fdN_none nw)]) (frU_9 u1).1 (frU_9 u1).2⟩⟩)
  have fa := fdN_some (f := D.2.1) ha ea hj
  have n2 : nxT tp q < nx2 tp q := nx_gt (lt_sr l1 (by omega))
  refine wM_nx ht t1 l1 (fun S2 f2 t2 => ?_)
  have t2 : tkM tp (nx2 tp q) S2 := t2
  have d2 : dM D c S2 := (h.tk f1).tk f2
  have u2 : frU S S2 := u1.tr (frU_tk f2)
  show aWM (d + 5) 24 [.ref 1000, .int (nI 1)] S2 _
  refine wM_needsTold (u := 1) (n := rWd D.1) (f := rNm D.1) ht t2 l2 (by decide) hwd d2.1.2.1 (fun k hk => nmS_of ok.2.1 hk) (fun k hk => (d2.2.2.1 k hk).2.2.2.2.1) (fun e2 b hb fb => ⟨fun _ => ?_, fun z => absurd z (by decide)⟩) (fun e2 fb S' f' e' => ⟨fun z => absurd rfl z, fun _ => ⟨Or.inl rfl, hE _ _ (by unfold lkF; rw [tdB_1 e fa, tdB_0 e2 fb]) (u2.tr (frU_er f')) e'⟩⟩) (fun e2 S' f' e' => ⟨fun z => absurd rfl z, fun _ => ⟨Or.inl rfl, hE _ _ (by unfold lkF; rw [tdB_1 e fa, tdB_n e2]) (u2.tr (frU_er f')) e'⟩⟩)
  have n3 := nx_gt (lt_sr l2 (by omega))
  have li := ok.1.2.2.2.2.2.2 a b ha hb
  have ek : (60 : Int32) + 12 * nI a + nI b = nI (60 + 12 * a + b) := by
    rw [show (60 : Int32) = nI 60 from rfl, show (12 : Int32) = nI 12 from rfl, nI_mulN, nI_add, nI_add]
  have u3 : frU S (si S2 1000 38 (nI b)) := u2.tr (frU_nw f38)
  have v3 : vp_in (nI (60 + 12 * a + b)) 120 := nI_in (by omega) (by decide)
  rw [g38, ek, nI_clamp (by omega), ga_si, (d2.2.1 a ha).2.2 b (by omega), nI_le0 (by omega)]
  refine ⟨v3, fun c0 => ?_, fun c0 => wM_fail (tk_si t2 (by decide)) ⟨Or.inl rfl, hE _ _ (by unfold lkF; rw [tdB_1 e fa, tdB_1 e2 fb, cI_f c0]) (frU_9 u3).1 (frU_9 u3).2⟩⟩
  refine wM_nx ht (tk_si t2 (by decide)) l2 (fun S4 f4 t4 => ?_)
  have u4 : frU S S4 := u3.tr (frU_tk f4)
  show aWM (d + 5) 20 [.ref 1000, .int (nI 1), .int (nI 9)] S4 _
  refine wM_needsNumber ht t4 l3 (by decide) (by decide) (fun c1 c2 c3 S5 f5 t5 x5 y5 => ⟨fun _ => ⟨v3, ?_⟩, fun z => absurd z (by decide)⟩) (fun c1 c2 => ⟨fun z => absurd rfl z, fun _ => ⟨Or.inl rfl, hE _ _ (by unfold lkF; rw [tdB_1 e fa, tdB_1 e2 fb, cI_t c0, nmB_4 c1 c2]) (frU_9 u4).1 (frU_9 u4).2⟩⟩) (fun c1 => ⟨fun z => absurd rfl z, fun _ => ⟨Or.inl rfl, hE _ _ (by unfold lkF; rw [tdB_1 e fa, tdB_1 e2 fb, cI_t c0, nmB_n c1]) (frU_9 u4).1 (frU_9 u4).2⟩⟩)
  have n4 : nxT tp (nx2 tp q) < nx2 tp (nx2 tp q) := nx_gt (lt_sr l3 (by omega))
  have t5 : tkM tp (nx2 tp (nx2 tp q)) S5 := t5
  rw [x5]
  have d5 : dM D c S5 := ((d2.nw f38).tk f4).nw f5
  have out : lkF tp D q = .inr (setL D a b (nvT tp (nxT tp (nx2 tp q))), nx2 tp (nx2 tp q)) := by
    unfold lkF
    rw [tdB_1 e fa, tdB_1 e2 fb, cI_t c0, nmB_1 c1 c2 c3]
  refine wM_close ht (plT_nx l3) (tk_sa t5 (by decide)) ((u4.tr (frU_nw f5)).tr (frU_sa (by unfold upA; omega))) (D := setL D a b (nvT tp (nxT tp (nx2 tp q)))) (c := c) ?_ (fun z S' y1 y2 y3 => h1 _ _ S' c out z y1 y2 (by omega) y3) (fun z S' y1 y2 => h0 _ _ S' out z y1 y2)
  obtain ⟨p1, q1, q2, q3, q4, q5, q6⟩ := d5
  have A0 : ∀ i, i ≠ 1010 → ∀ k, ga (sa S5 1010 (60 + 12 * a + b) (nI (nvT tp (nxT tp (nx2 tp q))))) i k = ga S5 i k := fun i hi k => by
    rw [ga_sa, if_neg (fun z => hi z.1)]
  refine ⟨?_, fun j hj => ⟨?_, ?_, fun w hw => ?_⟩, fun w hw => ?_, q3.kept (fun i _ _ => A0 i (by omega)), q4.kept (fun i _ _ => A0 i (by omega)), ?_, ?_⟩
  · simp only [A0 1002 (by decide)]
    exact p1
  · rw [A0 1005 (by decide)]
    exact (q1 j hj).1
  · rw [gb_sa]
    exact (q1 j hj).2.1
  · show _ = nI (if j = a ∧ w = b then _ else rLi D.1 j w)
    rw [ga_sa]
    by_cases z : j = a ∧ w = b
    · rw [if_pos ⟨rfl, by omega⟩, if_pos z]
    · rw [if_neg (by omega), if_neg z]
      exact (q1 j hj).2.2 w hw
  · simp only [A0 1006 (by decide), A0 1007 (by decide), A0 1008 (by decide), A0 1009 (by decide), A0 1011 (by decide), gb_sa]
    exact q2 w hw
  · rw [gi_sa]; exact q5
  · rw [gi_sa]; exact q6
theorem M_clash (ht : okT tp) (ok : okDr D) (hl : plT tp q) (hq0 : srT tp q ≠ 0) : mL tp 28 [] D q (clF tp D q) := by
  intro d Q S c h hs hc hE h1 h0
  have hwd := ok.1.2.1
  have n1 := nx_gt (lt_sr hl hq0)
  have l1 := plT_nx hl
  have l2 : plT tp (nx2 tp q) := plT_nx l1
  refine mM_readsClash (wM_nx ht hs hl (fun S1 f1 t1 => ?_))
  have u1 : frU S S1 := frU_tk f1
  have d1 : dM D c S1 := h.tk f1
  show aWM (d + 5) 24 [.ref 1000, .int (nI 1)] S1 _
  refine wM_needsTold (u := 1) (n := rWd D.1) (f := rNm D.1) ht t1 l1 (by decide) hwd d1.1.2.1 (fun k hk => nmS_of ok.2.1 hk) (fun k hk => (d1.2.2.1 k hk).2.2.2.2.1) (fun e a ha fa => ⟨fun _ => ?_, fun z => absurd z (by decide)⟩) (fun e fa S' f' e' => ⟨fun z => absurd rfl z, fun _ => ⟨Or.inl rfl, hE _ _ (by unfold clF; rw [tdB_0 e fa]) (u1.tr (frU_er f')) e'⟩⟩) (fun e S' f' e' => ⟨fun z => absurd rfl z, fun _ => ⟨Or.inl rfl, hE _ _ (by unfold clF; rw [tdB_n e]) (u1.tr (frU_er f')) e'⟩⟩)
  have n2 : nxT tp q < nx2 tp q := nx_gt (lt_sr l1 (by omega))
  refine wM_nx ht (tk_si t1 (by decide)) l1 (fun S3 f3 t3 => ?_)
  have t3 : tkM tp (nx2 tp q) S3 := t3
  have d3 : dM D c S3 := (d1.nw f38).tk f3
  have u3 : frU S S3 := (u1.tr (frU_nw f38)).tr (frU_tk f3)
  show aWM (d + 5) 24 [.ref 1000, .int (nI 1)] S3 _
  refine wM_needsTold (u := 1) (n := rWd D.1) (f := rNm D.1) ht t3 l2 (by decide) hwd d3.1.2.1 (fun k hk => nmS_of ok.2.1 hk) (fun k hk => (d3.2.2.1 k hk).2.2.2.2.1) (fun e2 b hb fb => ⟨fun _ => ?_, fun z => absurd z (by decide)⟩) (fun e2 fb S' f' e' => ⟨fun z => absurd rfl z, fun _ => ⟨Or.inl rfl, hE _ _ (by unfold clF; rw [tdB_1 e fa, tdB_0 e2 fb]) (u3.tr (frU_er f')) e'⟩⟩) (fun e2 S' f' e' => ⟨fun z => absurd rfl z, fun _ => ⟨Or.inl rfl, hE _ _ (by unfold clF; rw [tdB_1 e fa, tdB_n e2]) (u3.tr (frU_er f')) e'⟩⟩)
  have n3 := nx_gt (lt_sr l2 (by omega))
  obtain ⟨ca, xa, ya⟩ := (d3.2.2.1 a ha).2.2.2.2.2
  obtain ⟨cb, xb, yb⟩ := (d3.2.2.1 b hb).2.2.2.2.2
  have u4 : frU S (si S3 1000 38 (nI b)) := u3.tr (frU_nw f38)
  have t4 : tkM tp (nx2 tp q) (si S3 1000 38 (nI b)) := tk_si t3 (by decide)
  have ea : (12 : Int32) + nI a = nI (12 + a) := nI_add 12 a
  have eb : (12 : Int32) + nI b = nI (12 + b) := nI_add 12 b
  have va : vp_in (nI (12 + a)) 24 := nI_in (by omega) (by decide)
  have vb : vp_in (nI (12 + b)) 24 := nI_in (by omega) (by decide)
  rw [g38, g38, nI_eq (show a < 2 ^ 31 by omega) (show b < 2 ^ 31 by omega)]
  refine ⟨fun c0 => wM_fail t4 ⟨Or.inl rfl, hE _ _ (by unfold clF; rw [tdB_1 e fa, tdB_1 e2 fb, cI_t (Or.inl c0)]) (frU_9 u4).1 (frU_9 u4).2⟩, fun c0 => ?_⟩
  rw [gi_sa, g38, ea, eb, nI_clamp (show 12 + a < 2 ^ 31 by omega), nI_clamp (show 12 + b < 2 ^ 31 by omega), ga_si, ya, bitAt (by have := xa.1; omega) (by omega), xa.2 b, decide_eq_true hb, Bool.true_and]
  refine ⟨va, ?_⟩
  cases hcl : rCl D.1 a b with
  | true => exact ⟨fun z => absurd rfl z, fun _ => wM_fail t4 ⟨Or.inl rfl, hE _ _ (by unfold clF; rw [tdB_1 e fa, tdB_1 e2 fb, cI_t (Or.inr hcl)]) (frU_9 u4).1 (frU_9 u4).2⟩⟩
  | false =>
    have c1 : ¬ (a = b ∨ rCl D.1 a b = true) := fun z => z.elim c0 (fun y => by rw [hcl] at y; cases y)
    refine ⟨fun _ => ⟨va, va, vb, vb, vin (by decide), vin (by decide), ?_⟩, fun z => absurd z (by decide)⟩
    rw [(smod12 a (by omega)).2, (smod12 b (by omega)).2, nI_orN, ga_sa, if_neg (by omega), ga_si, yb, nI_orN, c7, ga_sa, if_neg (by omega), ga_sa, if_neg (by omega), ga_si, d3.1.2.2.2, nI_1]
    have u5 : frU S (sa (sa (sa (si S3 1000 38 (nI b)) 1011 (12 + a) (nI (ca ||| 2 ^ b))) 1011 (12 + b) (nI (cb ||| 2 ^ a))) 1002 7 (nI (rPa D.1 + 1))) := ((u4.tr (frU_sa (by unfold upA; omega))).tr (frU_sa (by unfold upA; omega))).tr (frU_sa (by unfold upA; omega))
    refine wM_nx ht (tk_sa (tk_sa (tk_sa t4 (by decide)) (by decide)) (by decide)) l2 (fun S5 f5 t5 => ?_)
    show aWM (d + 5) 22 [.ref 1000] S5 _
    have out : clF tp D q = .inr (setC D a b, nxT tp (nx2 tp q)) := by
      unfold clF
      rw [tdB_1 e fa, tdB_1 e2 fb, cI_f c1]
    refine wM_close ht (plT_nx l2) t5 (u5.tr (frU_tk f5)) (D := setC D a b) (c := c) ?_ (fun z S' y1 y2 y3 => h1 _ _ S' c out z y1 y2 (by omega) y3) (fun z S' y1 y2 => h0 _ _ S' out z y1 y2)
    obtain ⟨⟨p1, p2, p3, p4⟩, q1, q2, q3, q4, q5, q6⟩ := d3
    have A0 : ∀ i, i ≠ 1002 → i ≠ 1011 → ∀ k, ga S5 i k = ga S3 i k := fun i hi hi2 k => by
      rw [f5.1 i k (fun z => z), ga_sa, if_neg (fun z => hi z.1), ga_sa, if_neg (fun z => hi2 z.1), ga_sa, if_neg (fun z => hi2 z.1), ga_si]
    have AN : ∀ k, k ≠ 7 → ga S5 1002 k = ga S3 1002 k := fun k hk => by
      rw [f5.1 1002 k (fun z => z), ga_sa, if_neg (fun z => hk z.2), ga_sa, if_neg (by omega), ga_sa, if_neg (by omega), ga_si]
    have B0 : ∀ i k, gb S5 i k = gb S3 i k := fun i k => by
      rw [f5.2.1 i k (fun z => z), gb_sa, gb_sa, gb_sa, gb_si]
    refine ⟨⟨?_, ?_, ?_, ?_⟩, fun j hj => ⟨?_, ?_, fun w hw => ?_⟩, fun w hw => ⟨?_, ?_, ?_, ?_, ?_, ?_⟩, q3.kept (fun i _ _ => A0 i (by omega) (by omega)), q4.kept (fun i _ _ => A0 i (by omega) (by omega)), ?_, ?_⟩
    · rw [AN 4 (by decide)]; exact p1
    · rw [AN 5 (by decide)]; exact p2
    · rw [AN 6 (by decide)]; exact p3
    · rw [f5.1 1002 7 (fun z => z), ga_sa, if_pos ⟨rfl, rfl⟩]; rfl
    · rw [A0 1005 (by decide) (by decide)]; exact (q1 j hj).1
    · rw [B0]; exact (q1 j hj).2.1
    · rw [A0 1010 (by decide) (by decide)]; exact (q1 j hj).2.2 w hw
    · rw [A0 1006 (by decide) (by decide)]; exact (q2 w hw).1
    · rw [A0 1007 (by decide) (by decide)]; exact (q2 w hw).2.1
    · rw [A0 1008 (by decide) (by decide)]; exact (q2 w hw).2.2.1
    · rw [A0 1009 (by decide) (by decide)]; exact (q2 w hw).2.2.2.1
    · rw [B0]; exact (q2 w hw).2.2.2.2.1
    · rw [f5.1 1011 _ (fun z => z), ga_sa, if_neg (by omega), ga_sa, ga_sa]
      by_cases z : w = b
      · rw [if_pos ⟨rfl, by omega⟩]
        exact ⟨cb ||| 2 ^ a, clB_or2 ha hwd (by rw [z]; exact xb) z c0, rfl⟩
      · rw [if_neg (by omega)]
        by_cases y : w = a
        · rw [if_pos ⟨rfl, by omega⟩]
          exact ⟨ca ||| 2 ^ b, clB_or hb hwd (by rw [y]; exact xa) y c0, rfl⟩
        · rw [if_neg (by omega), ga_si]
          obtain ⟨x, x1, x2⟩ := (q2 w hw).2.2.2.2.2
          exact ⟨x, clB_no x1 y z, x2⟩
    · rw [f5.2.2.1 23 (by unfold tkF; omega), gi_sa, gi_sa, gi_sa, gi_si, if_neg (by decide)]; exact q5
    · rw [f5.2.2.1 25 (by unfold tkF; omega), gi_sa, gi_sa, gi_sa, gi_si, if_neg (by decide)]; exact q6
theorem M_folds (ht : okT tp) (ok : okDr D) (hl : plT tp q) (hq0 : srT tp q ≠ 0) : mL tp 29 [] D q (foF tp D q) := by
  intro d Q S c h hs hc hE h1 h0
  have n1 := nx_gt (lt_sr hl hq0)
  have l1 := plT_nx hl
  refine mM_readsFolds ?_
  rw [h.2.2.2.2.2.2, gi_bT]
  refine ⟨fun c0 => ⟨Or.inr rfl, ?_⟩, fun c0 => wM_fail hs ⟨Or.inl rfl, hE _ _ (by unfold foF; rw [cI_t (bt_of c0)]) (frU_9 frU.rf).1 (frU_9 frU.rf).2⟩⟩
  have c0' : ¬ D.2.2 = true := fun z => by rw [c0] at z; cases z
  have u0 : frU S (si S 1000 25 1) := frU_si (by unfold upF; omega)
  refine wM_nx ht (tk_si hs (by decide)) hl (fun S1 f1 t1 => ?_)
  have u1 : frU S S1 := u0.tr (frU_tk f1)
  show aWM (d + 5) 20 [.ref 1000, .int (nI 2), .int (nI 4)] S1 _
  refine wM_needsNumber ht t1 l1 (by decide) (by decide) (fun c1 c2 c3 S5 f5 t5 x5 y5 => ⟨fun _ => ⟨vin (by decide), ?_⟩, fun z => absurd z (by decide)⟩) (fun c1 c2 => ⟨fun z => absurd rfl z, fun _ => ⟨Or.inl rfl, hE _ _ (by unfold foF; rw [cI_f c0', nmB_4 c1 c2]) (frU_9 u1).1 (frU_9 u1).2⟩⟩) (fun c1 => ⟨fun z => absurd rfl z, fun _ => ⟨Or.inl rfl, hE _ _ (by unfold foF; rw [cI_f c0', nmB_n c1]) (frU_9 u1).1 (frU_9 u1).2⟩⟩)
  have n2 : nxT tp q < nx2 tp q := nx_gt (lt_sr l1 (by omega))
  have t5 : tkM tp (nx2 tp q) S5 := t5
  rw [x5, c6]
  have out : foF tp D q = .inr (setF D (nvT tp (nxT tp q)), nx2 tp q) := by
    unfold foF
    rw [cI_f c0', nmB_1 c1 c2 c3]
  refine wM_close ht (plT_nx l1) (tk_sa t5 (by decide)) ((u1.tr (frU_nw f5)).tr (frU_sa (by unfold upA; omega))) (D := setF D (nvT tp (nxT tp q))) (c := c) ?_ (fun z S' y1 y2 y3 => h1 _ _ S' c out z y1 y2 (by omega) y3) (fun z S' y1 y2 => h0 _ _ S' out z y1 y2)
  obtain ⟨⟨p1, p2, p3, p4⟩, q1, q2, q3, q4, q5, q6⟩ := h
  have A : ∀ i k, ga S5 i k = ga S i k := fun i k => by
    rw [f5.1 i k (fun z => z), f1.1 i k (fun z => z), ga_si]
  have B : ∀ i k, gb S5 i k = gb S i k := fun i k => by
    rw [f5.2.1 i k (fun z => z), f1.2.1 i k (fun z => z), gb_si]
  have A0 : ∀ i, i ≠ 1002 → ∀ k, ga (sa S5 1002 6 (nI (nvT tp (nxT tp q)))) i k = ga S i k := fun i hi k => by
    rw [ga_sa, if_neg (fun z => hi z.1), A]
  refine ⟨⟨?_, ?_, ?_, ?_⟩, fun j hj => ⟨?_, ?_, fun w hw => ?_⟩, fun w hw => ?_, q3.kept (fun i _ _ => A0 i (by omega)), q4.kept (fun i _ _ => A0 i (by omega)), ?_, ?_⟩
  · rw [ga_sa, if_neg (by decide), A]; exact p1
  · rw [ga_sa, if_neg (by decide), A]; exact p2
  · rw [ga_sa, if_pos ⟨rfl, rfl⟩]; rfl
  · rw [ga_sa, if_neg (by decide), A]; exact p4
  · rw [A0 1005 (by decide)]; exact (q1 j hj).1
  · rw [gb_sa, B]; exact (q1 j hj).2.1
  · rw [A0 1010 (by decide)]; exact (q1 j hj).2.2 w hw
  · simp only [A0 1006 (by decide), A0 1007 (by decide), A0 1008 (by decide), A0 1009 (by decide), A0 1011 (by decide), gb_sa, B]
    exact q2 w hw
  · rw [gi_sa, f5.2.2.1 23 (by unfold nwF tkF; omega), f1.2.2.1 23 (by unfold tkF; omega), gi_si, if_neg (by decide)]; exact q5
  · rw [gi_sa, f5.2.2.1 25 (by unfold nwF tkF; omega), f1.2.2.1 25 (by unfold tkF; omega), gi_si, if_pos ⟨rfl, rfl⟩]; rfl
end
