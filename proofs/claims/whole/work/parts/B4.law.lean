/-! a line that tells a law -/
def lwO (D : zD) (w : Bool) : Option zF := if w = true then rWf D.1 else rDf D.1
def wL (w : Bool) : Nat := if w = true then 0 else 1
theorem wL_le (w : Bool) : wL w ≤ 1 := by
  cases w <;> decide
theorem wL_2 (w : Bool) : (2 : Int32) + bT (!w) = nI (2 + wL w) := by
  cases w <;> rfl
theorem frU_R {c : Nat} {S S' : aS} (hc : 1000 ≤ c) (h : frR c 0 0 S S') : frU S S' := by
  refine ⟨fun i k hi => ?_, fun i k hi => ?_, fun k hk => h.1.2.2.1 k (fun z => hk (by unfold flF at z; unfold upF; omega)), fun k hk => h.1.2.2.2 k (fun z => hk (by unfold flF at z; unfold upF; omega))⟩
  · by_cases z : i = 1014
    · subst z
      exact h.2.1 k (by unfold upA at hi; omega)
    · exact h.1.1 i k (fun y => hi (by unfold flC at y; unfold upA; omega))
  · exact h.1.2.1 i k (fun y => hi (by unfold flC at y; unfold upB; omega))
section
variable {tp : List Nat} {q c : Nat} {D : zD} {w : Bool}
theorem dM_lo {S : aS} (h : dM D c S) : loU S (wL w) ((if w = true then 0 else 5) + 1) (if w = true then 5 else 3) c (lwO D w) := by
  cases w
  · exact h.2.2.2.2.1
  · exact h.2.2.2.1
theorem M_lawTold {F : zF} (ht : okT tp) (hl : plT tp q) (hF : lwO D w = some F) : mL tp 30 [.int (bT (!w))] D q (.inl (3 + 16 * nI q)) := by
  intro d Q S c h hs hc hE h1 h0
  have hw := wL_le w
  have h1k := ht.1
  have hlq := hl.1
  have hu := dM_lo (w := w) h
  rw [hF] at hu
  obtain ⟨hh, cs, a, e1, e2, e3, e4, e5, e6, -⟩ := hu
  have e0 := (show eL 1017 oPn rK _ hh cs F from e1).1
  have v : vp_in (nI (2 + wL w)) 4 := nI_in (by omega) (by decide)
  refine mM_readsLaw ?_
  rw [wL_2, nI_clamp (by omega), e3, e4, nI_leI (by omega) (by omega)]
  exact ⟨v, v, fun z => absurd z (by omega), fun _ => wM_fail hs ⟨Or.inl rfl, hE _ _ rfl (frU_9 frU.rf).1 (frU_9 frU.rf).2⟩⟩
theorem M_lawRun {d : Nat} {Q : Value → aS → Prop} {S : aS} (ht : okT tp) (hl : plT tp q) (hn : lwO D w = none) (h : dM D c S) (hs : tkM tp q S) (hrun : ∀ T, MS tp w (nxT tp q) c 0 0 T → ga T 1016 0 = 0 → frU S T → (∀ i k, i ≠ 1012 → i ≠ 1016 → ga T i k = ga S i k) → (∀ k, ga T 1012 k = if k = 2 + wL w then nI c else ga S 1012 k) → (∀ i k, gb T i k = gb S i k) → gi T 1000 25 = gi S 1000 25 → rw1 (d + 2) (fun v3 S4 => aI v3 (fun x5 => ((¬ x5 = 0 → (vp_in (nI (2 + wL w)) 4 ∧ (((1 : Int32) = 0 ∨ (1 : Int32) = 1) ∧ Q (.int 1) (sa S4 1013 (2 + wL w) (gi S4 1000 23))))) ∧ (x5 = 0 → (((0 : Int32) = 0 ∨ (0 : Int32) = 1) ∧ Q (.int 0) S4))))) 0 T) : aWM (d + 6) 30 [.ref 1000, .int (bT (!w))] S Q := by
  have hw := wL_le w
  have hu := dM_lo (w := w) h
  rw [hn] at hu
  have v : vp_in (nI (2 + wL w)) 4 := nI_in (by omega) (by decide)
  refine mM_readsLaw ?_
  rw [wL_2, nI_clamp (by omega), hu.1, hu.2]
  refine ⟨v, v, fun _ => ?_, fun z => absurd (by decide) z⟩
  refine wM_nx ht (tk_si hs (by decide)) hl (fun S1 f1 t1 => ⟨v, ?_⟩)
  have g23 : gi S1 1000 23 = nI c := by
    rw [f1.2.2.1 23 (by unfold tkF; omega), gi_si, if_neg (by decide)]
    exact h.2.2.2.2.2.1
  rw [g23]
  refine mM_reads ⟨vin (by decide), ?_⟩
  rw [c0]
  refine hrun (sa (sa S1 1012 (2 + wL w) (nI c)) 1016 0 (vp_nar .boolean 0)) ⟨tk_sa (tk_sa t1 (by decide)) (by decide), ?_, ?_, Nat.le_refl _, fun j a b => by omega, Or.inl rfl⟩ ?_ ?_ (fun i k hi hi2 => ?_) (fun k => ?_) (fun i k => ?_) ?_
  · rw [gi_sa, gi_sa]
    exact g23
  · rw [gi_sa, gi_sa, f1.2.2.1 24 (by unfold tkF; omega), gi_si, if_pos ⟨rfl, rfl⟩]
  · rw [ga_sa, if_pos ⟨rfl, rfl⟩]
    rfl
  · exact (((frU_si (by unfold upF; omega)).tr (frU_tk f1)).tr (frU_sa (by unfold upA; omega))).tr (frU_sa (by unfold upA; omega))
  · rw [ga_sa, if_neg (fun z => hi2 z.1), ga_sa, if_neg (fun z => hi z.1), f1.1 i k (fun z => z), ga_si]
  · rw [ga_sa, if_neg (by omega), ga_sa, f1.1 1012 k (fun z => z), ga_si]
    by_cases z : k = 2 + wL w
    · rw [if_pos ⟨rfl, z⟩, if_pos z]
    · rw [if_neg (fun y => z y.2), if_neg z]
  · rw [gb_sa, gb_sa, f1.2.1 i k (fun z => z), gb_si]
  · rw [gi_sa, gi_sa, f1.2.2.1 25 (by unfold tkF; omega), gi_si, if_neg (by decide)]
theorem M_lawErr {v : Int32} (ht : okT tp) (hl : plT tp q) (hq0 : srT tp q ≠ 0) (hn : lwO D w = none) (her : erT tp w 0 (nxT tp q) v) : mL tp 30 [.int (bT (!w))] D q (.inl v) := by
  intro d Q S c h hs hc hE h1 h0
  have n1 := nx_gt (lt_sr hl hq0)
  exact M_lawRun ht hl hn h hs (fun T hM h16 fU A A2 B g25 => her.2 (d + 2) _ T c hM h16 (by omega) (fun S' fR e9 => ⟨fun z => absurd rfl z, fun _ => ⟨Or.inl rfl, hE v S' rfl (fU.tr (frU_R hc.1 fR)) e9⟩⟩))
theorem M_lawOk {q' hh : Nat} {cs : List Int32} {F : zF} (ht : okT tp) (hl : plT tp q) (hq0 : srT tp q ≠ 0) (hn : lwO D w = none) (sm : smT tp w 0 (nxT tp q) q' cs) (he : isEnd tp q') (hl' : plT tp q') (hq : nxT tp q + cs.length ≤ q') (hF : eEx ((if w = true then 0 else 5) + 1) hh cs F) (h6 : hh ≤ 6) (hdep : dep (if w = true then 5 else 3) F) : mL tp 30 [.int (bT (!w))] D q (.inr (setW D w F, q')) := by
  intro d Q S c h hs hc hE h1 h0
  have n1 := nx_gt (lt_sr hl hq0)
  have hw := wL_le w
  have v : vp_in (nI (2 + wL w)) 4 := nI_in (by omega) (by decide)
  refine M_lawRun ht hl hn h hs (fun T hM h16 fU A A2 B g25 => sm (d + 2) _ T c hM h16 (by omega) (fun S2 fR hM2 hca hcm => ?_))
  have uR := fU.tr (frU_R hc.1 fR)
  refine rw_stop ht hl' hM2 he hcm (fun e32 S3 f3 t3 => ⟨fun _ => ⟨v, Or.inr rfl, ?_⟩, fun z => absurd z (by decide)⟩) (fun e32 S3 f3 e9 => ⟨fun z => absurd rfl z, fun _ => ⟨Or.inl rfl, h0 _ _ S3 rfl e32 (uR.tr (frU_R (by omega) f3)) e9⟩⟩)
  have g23 : gi S3 1000 23 = nI (c + cs.length) := (f3.2.2.1 23 (by unfold tkF; omega)).trans hM2.2.1
  rw [g23]
  have AU : ∀ i k, i ≠ 1012 → i ≠ 1013 → i ≠ 1014 → i ≠ 1015 → i ≠ 1016 → ga (sa S3 1013 (2 + wL w) (nI (c + cs.length))) i k = ga S i k := fun i k i2 i3 i4 i5 i6 => by
    rw [ga_sa, if_neg (fun z => i3 z.1), f3.1 i k (fun z => z), fR.1.1 i k (by unfold flC; omega), A i k i2 i6]
  have AU2 : ∀ k, ga (sa S3 1013 (2 + wL w) (nI (c + cs.length))) 1012 k = if k = 2 + wL w then nI c else ga S 1012 k := fun k => by
    rw [ga_sa, if_neg (by omega), f3.1 1012 k (fun z => z), fR.1.1 1012 k (by unfold flC; omega), A2]
  have AU3 : ∀ k, ga (sa S3 1013 (2 + wL w) (nI (c + cs.length))) 1013 k = if k = 2 + wL w then nI (c + cs.length) else ga S 1013 k := fun k => by
    rw [ga_sa, f3.1 1013 k (fun z => z), fR.1.1 1013 k (by unfold flC; omega), A 1013 k (by decide) (by decide)]
    by_cases z : k = 2 + wL w
    · rw [if_pos ⟨rfl, z⟩, if_pos z]
    · rw [if_neg (fun y => z y.2), if_neg z]
  have AU4 : ∀ k, k < c → ga (sa S3 1013 (2 + wL w) (nI (c + cs.length))) 1014 k = ga S 1014 k := fun k hk => by
    rw [ga_sa, if_neg (by omega), f3.1 1014 k (fun z => z), fR.2.1 k hk, A 1014 k (by decide) (by decide)]
  have BU : ∀ i, i < 1014 → ∀ k, gb (sa S3 1013 (2 + wL w) (nI (c + cs.length))) i k = gb S i k := fun i hi k => by
    rw [gb_sa, f3.2.1 i k (fun z => z), fR.1.2.1 i k (by unfold flC; omega), B]
  have this' : loU (sa S3 1013 (2 + wL w) (nI (c + cs.length))) (wL w) ((if w = true then 0 else 5) + 1) (if w = true then 5 else 3) (c + cs.length) (some F) := by
    refine ⟨hh, cs, c, hF, h6, ?_, ?_, hc.1, Nat.le_refl _, fun i x hi => ?_, hdep⟩
    · rw [AU2, if_pos rfl]
    · rw [AU3, if_pos rfl]
    · rw [ga_sa, if_neg (by omega), f3.1 1014 _ (fun z => z)]
      exact hca i x hi
  have oth : ∀ (l o n : Nat) (f : Option zF), l ≠ wL w → loU S l o n c f → loU (sa S3 1013 (2 + wL w) (nI (c + cs.length))) l o n (c + cs.length) f := fun l o n f hne hu => by
    cases f with
    | none => exact ⟨by rw [AU2, if_neg (by omega)]; exact hu.1, by rw [AU3, if_neg (by omega)]; exact hu.2⟩
    | some G =>
      obtain ⟨hh', cs', b, e1, e2, e3, e4, e5, e6, e7, e8⟩ := hu
      refine ⟨hh', cs', b, e1, e2, by rw [AU2, if_neg (by omega)]; exact e3, by rw [AU3, if_neg (by omega)]; exact e4, e5, by omega, fun i x hi => ?_, e8⟩
      have := (List.getElem?_eq_some_iff.mp hi).1
      rw [AU4 _ (by omega)]
      exact e7 i x hi
  obtain ⟨⟨p1, p2, p3, p4⟩, q1, q2, q3, q4, q5, q6⟩ := h
  refine h1 (setW D w F) q' _ (c + cs.length) rfl e32 (((uR.tr (frU_tk f3))).tr (frU_sa (by unfold upA; omega))) ⟨⟨?_, ?_, ?_, ?_⟩, fun j hj => ⟨?_, ?_, fun x hx => ?_⟩, fun x hx => ⟨?_, ?_, ?_, ?_, ?_, ?_⟩, ?_, ?_, ?_, ?_⟩ (by omega) (tk_sa t3 (by decide))
  · rw [AU 1002 _ (by decide) (by decide) (by decide) (by decide) (by decide)]; exact p1
  · rw [AU 1002 _ (by decide) (by decide) (by decide) (by decide) (by decide)]; exact p2
  · rw [AU 1002 _ (by decide) (by decide) (by decide) (by decide) (by decide)]; exact p3
  · rw [AU 1002 _ (by decide) (by decide) (by decide) (by decide) (by decide)]; exact p4
  · rw [AU 1005 _ (by decide) (by decide) (by decide) (by decide) (by decide)]; exact (q1 j hj).1
  · rw [BU 1003 (by decide)]; exact (q1 j hj).2.1
  · rw [AU 1010 _ (by decide) (by decide) (by decide) (by decide) (by decide)]; exact (q1 j hj).2.2 x hx
  · rw [AU 1006 _ (by decide) (by decide) (by decide) (by decide) (by decide)]; exact (q2 x hx).1
  · rw [AU 1007 _ (by decide) (by decide) (by decide) (by decide) (by decide)]; exact (q2 x hx).2.1
  · rw [AU 1008 _ (by decide) (by decide) (by decide) (by decide) (by decide)]; exact (q2 x hx).2.2.1
  · rw [AU 1009 _ (by decide) (by decide) (by decide) (by decide) (by decide)]; exact (q2 x hx).2.2.2.1
  · rw [BU 1004 (by decide)]; exact (q2 x hx).2.2.2.2.1
  · rw [AU 1011 _ (by decide) (by decide) (by decide) (by decide) (by decide)]; exact (q2 x hx).2.2.2.2.2
  · cases w
    · exact oth 0 1 5 (rWf D.1) (by decide) q3
    · exact this'
  · cases w
    · exact this'
    · exact oth 1 6 3 (rDf D.1) (by decide) q4
  · rw [gi_sa]; exact g23
  · rw [gi_sa, f3.2.2.1 25 (by unfold tkF; omega), fR.1.2.2.1 25 (by unfold flF; omega), g25]; exact q6
end
/-- which formula -/
def tfW (t : Nat) (w : Bool) : Nat := if w = true then t + 11 else t + 14
section
variable {m : Nat} {Q : Value → aS → Prop} {S : aS} {tp : List Nat} {q t : Nat} {D : zD} {w : Bool}
theorem tfW_ok (hT : isT t) : isDf (tfW t w) ∧ art (tfW t w) 3 = t + 10 ∧ (tfW t w = t + 11 ∨ tfW t w = t + 14) := by
  rcases hT with rfl | rfl <;> cases w
  · exact ⟨Or.inr (Or.inl rfl), by decide, Or.inr rfl⟩
  · exact ⟨Or.inl rfl, by decide, Or.inl rfl⟩
  · exact ⟨Or.inr (Or.inr (Or.inr rfl)), by decide, Or.inr rfl⟩
  · exact ⟨Or.inr (Or.inr (Or.inl rfl)), by decide, Or.inl rfl⟩
theorem lw_lo (g : lwX D q t S) : loX S (tfW t w) (if w = true then 5 else 3) (lwO D w) ∧ gi S (tfW t w) 0 = bT w ∧ ∃ b, gi S (tfW t w) 5 = nI b ∧ b ≤ q := by
  obtain ⟨g1, g2, ⟨b1, b2, g3, g4, g5, g6⟩, g7, g8⟩ := g
  cases w
  · exact ⟨g2, g8, b2, g4, g6⟩
  · exact ⟨g1, g7, b1, g3, g5⟩
theorem X_law (ht : okT tp) (hT : isT t) (ok : okDr D) (h : dwX D t S) (g : lwX D q t S) (hs : tkX tp q S) (hl : plT tp q) (hq0 : srT tp q ≠ 0) (hE : ∀ v S', xE t S S' v → v ≠ 0 → mL tp 30 [.int (bT (!w))] D q (.inl v) → Q (.int 0) S') (hO : ∀ D' q1 S', xO tp t q D' q1 S S' → mL tp 30 [.int (bT (!w))] D q (.inr (D', q1)) → Q (.int 1) S') : aWX (m + 40) 49 [.ref 3, .ref t, .ref (tfW t w)] S Q := by
  have t6 := hT.six.1
  have h1k := ht.1
  obtain ⟨hdf, e10, htf⟩ := tfW_ok (w := w) hT
  obtain ⟨hfo, nf1, nf2, -⟩ := hdf.fo
  obtain ⟨-, ⟨a14, a15⟩, -⟩ := art_t hT
  obtain ⟨fo14, fo15⟩ := isFo_w hT
  have k0 := hT.re.1
  obtain ⟨lo, fl, b0, hb0, hb0q⟩ := lw_lo (w := w) g
  have n1 := nx_gt (lt_sr hl hq0)
  have hlq := hl.1
  have l1 := plT_nx hl
  refine mX_Reader_readFormula (mX_Formula_isTold (gK_ok hfo.1 (gK_ok hfo.1 (gK_ok hfo.1 ?_))))
  cases hlw : lwO D w with
  | some F =>
    rw [hlw] at lo
    obtain ⟨hh, ss, a, e1, e2, e3, e4, e5, e6, e7⟩ := lo
    have e0 := e1.1
    rw [e3, e4, nI_leI (by omega) (by omega)]
    exact ⟨fun z => absurd z (by omega), fun _ => ⟨Or.inr rfl, ⟨fun z => absurd z (by decide), fun _ => wX_fail hs ⟨Or.inl rfl, hE _ _ (xE_fail frZ.rf) (er_ne (k := 3) (by decide) (by decide) (by omega)) (M_lawTold ht hl hlw)⟩⟩⟩⟩
  | none =>
    rw [hlw] at lo
    rw [lo.1, lo.2]
    refine ⟨fun _ => ⟨Or.inl rfl, ⟨fun _ => ?_, fun z => absurd rfl z⟩⟩, fun z => absurd (by decide) z⟩
    refine wX_nx ht hs hl (fun S1 f1 t1 => gK_ok k0 (gK_ok fo14.1 (gK_ok k0 (gK_ok fo15.1 ?_))))
    have s1 : dwX D t S1 := h.kept f1.Z (fun i _ _ (q : i = 1) => by omega)
    have g1 : lwX D (nxT tp q) t S1 := g.kept hT f1.Z (fun i _ (q : i = 1) => by omega) (by omega) rfl rfl
    obtain ⟨x1, x2, ⟨b1, b2, x3, x4, x5, x6⟩, x7, x8⟩ := g
    obtain ⟨y1, y2, -, -, -⟩ := g1
    have x3' : gi S1 (t + 11) 5 = nI b1 := (f1.1 (t + 11) 5 (by omega)).trans x3
    have x4' : gi S1 (t + 14) 5 = nI b2 := (f1.1 (t + 14) 5 (by omega)).trans x4
    have lq := hl.1
    rw [a14, a15, x3', x4', nI_max (by omega) (by omega)]
    have hb1 : b1 ≤ max b1 b2 := Nat.le_max_left _ _
    have hb2 : b2 ≤ max b1 b2 := Nat.le_max_right _ _
    have hbq : max b1 b2 ≤ q := Nat.max_le.mpr ⟨x5, x6⟩
    generalize max b1 b2 = b at hb1 hb2 hbq ⊢
    refine mX_Formula_beginAt (gK_ok hfo.1 (gK_ok hfo.1 (gK_ok hfo.1 ?_)))
    have fz : frZ (fun i => i = tfW t w) S1 (si (si S1 (tfW t w) 4 (nI b)) (tfW t w) 5 (nI b)) := (frZ_si (C := fun i => i = tfW t w) rfl).tr (frZ_si rfl)
    have z2 : ∀ S3, frE (tfW t w) b (si (si S1 (tfW t w) 4 (nI b)) (tfW t w) 5 (nI b)) S3 → frF t S S3 := fun S3 o1 => by
      refine ⟨((f1.Z.le (fun i hi => Or.inl hi)).tr (fz.le (fun i (hi : i = tfW t w) => Or.inr (by unfold rcX; omega)))).tr (o1.Z.le (fun i hi => ?_)), ?_, ?_⟩
      · rcases hi with hi | hi | hi
        · exact Or.inl hi
        · exact Or.inr (by unfold rcX; omega)
        · exact Or.inr (by rw [e10] at hi; unfold rcX; omega)
      · rw [o1.1 _ _ (by omega) (fun z => absurd z.2 (by decide)), gi_si, if_neg (fun z => absurd z.2 (by decide)), gi_si, if_neg (fun z => absurd z.2 (by decide)), f1.1 _ 0 (by omega)]
      · rw [o1.1 _ _ (by omega) (fun z => absurd z.2 (by decide)), gi_si, if_neg (fun z => absurd z.2 (by decide)), gi_si, if_neg (fun z => absurd z.2 (by decide)), f1.1 _ 0 (by omega)]
    show aWX (m + 39) 9 [.ref 5, .ref (tfW t w), .int (nI 0)] _ _
    refine cE_0 (m := m + 1) (w := w) ht hdf _ _ (nxT tp q) b ⟨t1.keptZ fz (by omega) (by omega), l1, ?_, by omega, ?_⟩ (fun S3 v oe er => ⟨Or.inl rfl, hE v S3 ⟨z2 S3 oe.1, oe.2.1⟩ er.1 (M_lawErr ht hl hq0 hlw er)⟩) (fun S3 q' ss cs F o hq v sm he => ⟨Or.inr rfl, ?_⟩)
    · rw [gi_si, if_pos ⟨rfl, rfl⟩]
    · rw [gi_si, if_neg (by omega), gi_si, if_neg (by omega), f1.1 _ 0 (by omega)]
      exact fl
    · obtain ⟨o1, o2, o3, o4, o5, o6, o7, o8⟩ := o
      obtain ⟨⟨hh, v1, v2⟩, ⟨h2, v3, v4, v5⟩, v6⟩ := v
      have o3l := o3.1
      have zE : frZ (fun i => i = 1 ∨ i = tfW t w ∨ i = t + 10) (si (si S1 (tfW t w) 4 (nI b)) (tfW t w) 5 (nI b)) S3 := o1.Z.le (fun i hi => by rw [e10] at hi; exact hi)
      have zE1 : frZ (fun i => i = 1 ∨ i = tfW t w ∨ i = t + 10) S1 S3 := (fz.le (fun i hi => Or.inr (Or.inl hi))).tr zE
      refine hO (setW D w F) q' S3 ⟨z2 S3 o1, ?_, ?_, o2, o3, by omega, ?_, ok_setW ok⟩ (M_lawOk ht hl hq0 hlw sm he o3 hq v2 (by omega) v6)
      · have s3 : dwX D t S3 := s1.kept zE1 (fun i _ _ hi => by omega)
        exact s3
      · have gf : ∀ k, k ≠ 4 → k ≠ 5 → gi S3 (tfW t w) k = gi S1 (tfW t w) k := fun k hk hk5 => by
          rw [o1.1 _ _ nf1 (fun z => hk5 z.2), gi_si, if_neg (fun z => hk5 z.2), gi_si, if_neg (fun z => hk z.2)]
        have g4 : gi S3 (tfW t w) 4 = nI b := by
          rw [o1.1 _ _ nf1 (fun z => absurd z.2 (by decide)), gi_si, if_neg (fun z => absurd z.2 (by decide)), gi_si, if_pos ⟨rfl, rfl⟩]
        have new : loX S3 (tfW t w) (if w = true then 5 else 3) (some F) := ⟨h2, ss, b, v5, by omega, g4, o6, by omega, o7, v6⟩
        have old : ∀ (tg n b' : Nat) (f : Option zF), tg ≠ tfW t w → tg ≠ 1 → art tg 3 = t + 10 → gi S1 tg 5 = nI b' → b' ≤ b → loX S1 tg n f → loX S3 tg n f := fun tg n b' f ne n1 e3 h5 hb' hf => by
          have gg : ∀ k, gi S3 tg k = gi S1 tg k := fun k => by
            rw [o1.1 _ _ n1 (fun z => ne z.1), gi_si, if_neg (fun z => ne z.1), gi_si, if_neg (fun z => ne z.1)]
          cases f with
          | none => exact ⟨(gg 4).trans hf.1, (gg 5).trans hf.2⟩
          | some G =>
            obtain ⟨hh', ss', a', e1, e2, e3', e4, e5, e6, e7⟩ := hf
            have hb5 : a' + ss'.length = b' := (nI_eq (by omega) (by omega)).mp (e4.symm.trans h5)
            refine ⟨hh', ss', a', e1, e2, (gg 4).trans e3', (gg 5).trans e4, e5, fun i x hi => ?_, e7⟩
            have := (List.getElem?_eq_some_iff.mp hi).1
            have ge := e6 i x hi
            rw [e3] at ge ⊢
            rw [o1.2.2.2.1 _ _ (fun z => by omega), ga_si, ga_si]
            exact ge
        obtain ⟨-, -, -, -, -, r3, r4⟩ := rt_c hT
        have gg14 : ∀ tg k, tg ≠ tfW t w → tg ≠ 1 → gi S3 tg k = gi S1 tg k := fun tg k ne n1 => by
          rw [o1.1 _ _ n1 (fun z => ne z.1), gi_si, if_neg (fun z => ne z.1), gi_si, if_neg (fun z => ne z.1)]
        cases w
        · have ne : t + 11 ≠ tfW t false := show t + 11 ≠ t + 14 by omega
          refine ⟨old (t + 11) 5 b1 _ ne (by omega) r3 x3' hb1 y1, new, ⟨b1, b + ss.length, (gg14 _ 5 ne (by omega)).trans x3', o6, by omega, by omega⟩, ?_, ?_⟩
          · rw [gg14 _ 0 ne (by omega), f1.1 _ 0 (by omega)]; exact x7
          · exact (gf 0 (by decide) (by decide)).trans ((f1.1 _ 0 (by omega)).trans fl)
        · have ne : t + 14 ≠ tfW t true := show t + 14 ≠ t + 11 by omega
          refine ⟨new, old (t + 14) 3 b2 _ ne (by omega) r4 x4' hb2 y2, ⟨b + ss.length, b2, o6, (gg14 _ 5 ne (by omega)).trans x4', by omega, by omega⟩, ?_, ?_⟩
          · exact (gf 0 (by decide) (by decide)).trans ((f1.1 _ 0 (by omega)).trans fl)
          · rw [gg14 _ 0 ne (by omega), f1.1 _ 0 (by omega)]; exact x8
      · rw [o5, gi_si, if_neg (by omega), gi_si, if_neg (by omega), f1.1 1 7 (by omega)]
end
