/-! a line that tells a writer -/
def kdT (tp : List Nat) (q : Nat) : Option Nat := if srT tp q = 18 then some 0 else if srT tp q = 19 then some 1 else if srT tp q = 20 then some 2 else if srT tp q = 21 then some 3 else none
def kdI : Option Nat → Int32
  | some k => nI k
  | none => -1
theorem kdT_le {tp : List Nat} {q k : Nat} (h : kdT tp q = some k) : k ≤ 3 := by
  unfold kdT at h
  by_cases c1 : srT tp q = 18
  · rw [if_pos c1] at h; cases h; decide
  · rw [if_neg c1] at h
    by_cases c2 : srT tp q = 19
    · rw [if_pos c2] at h; cases h; decide
    · rw [if_neg c2] at h
      by_cases c3 : srT tp q = 20
      · rw [if_pos c3] at h; cases h; decide
      · rw [if_neg c3] at h
        by_cases c4 : srT tp q = 21
        · rw [if_pos c4] at h; cases h; decide
        · rw [if_neg c4] at h; cases h
theorem kd_lk : ∀ s, s < 33 → lkA (asm (Int32.ofNat (2000 + s - 2000)).toNatClampNeg) (tbX 2) = (if s = 18 then some 7 else if s = 19 then some 9 else if s = 20 then some 11 else if s = 21 then some 13 else none) := by decide +kernel
noncomputable def wrF (tp : List Nat) (D : zD) (q : Nat) : zO := cI (rWr D.1 = 5) (.inl (5 + 16 * nI q)) (cI (srT tp (nxT tp q) = 3) (cI (toldN D (nmT tp (nxT tp q))) (.inl (3 + 16 * nI (nxT tp q))) (match kdT tp (nxT tp (nxT tp q)) with
  | some k => .inr (addW D k (nmT tp (nxT tp q)), nxT tp (nxT tp (nxT tp q)))
  | none => .inl (1 + 16 * nI (nxT tp (nxT tp q))))) (.inl (1 + 16 * nI (nxT tp q))))
theorem isT.six {t : Nat} (h : isT t) : 6 ≤ t ∧ t ≤ 23 := by
  rcases h with rfl | rfl <;> decide
section
variable {d m : Nat} {Q : Value → aS → Prop} {S : aS} {tp : List Nat} {q c t : Nat} {D : zD}
theorem wX_kindTold (hs : tkX tp q S) (h : Q (.int (kdI (kdT tp q))) S) : aWX (d + 1) 43 [.ref 3] S Q := by
  refine mX_Reader_kindTold ?_
  rw [hs.2.2.2.1]
  have hl := @srT_le tp q
  have hk := kd_lk (srT tp q) (by omega)
  refine gE_ok hl ⟨?_, ?_⟩
  · rw [show 2000 + srT tp q - 2000 = srT tp q by omega]
    exact nI_in (by omega) (by decide)
  · unfold kdT at h
    by_cases c1 : srT tp q = 18
    · rw [if_pos c1] at h hk
      exact asw_hit _ hk (bX_Reader_kindTold_7 h)
    · rw [if_neg c1] at h hk
      by_cases c2 : srT tp q = 19
      · rw [if_pos c2] at h hk
        exact asw_hit _ hk (bX_Reader_kindTold_9 h)
      · rw [if_neg c2] at h hk
        by_cases c3 : srT tp q = 20
        · rw [if_pos c3] at h hk
          exact asw_hit _ hk (bX_Reader_kindTold_11 h)
        · rw [if_neg c3] at h hk
          by_cases c4 : srT tp q = 21
          · rw [if_pos c4] at h hk
            exact asw_hit _ hk (bX_Reader_kindTold_13 h)
          · rw [if_neg c4] at h hk
            exact asw_mis _ hk (bX_Reader_kindTold_15 h)
theorem X_writer (ht : okT tp) (hT : isT t) (ok : okDr D) (h : dwX D t S) (g : lwX D q t S) (hs : tkX tp q S) (hl : plT tp q) (hq0 : srT tp q ≠ 0) (hE : ∀ v S', wrF tp D q = .inl v → xE t S S' v → Q (.int 0) S') (hO : ∀ D' q1 S', wrF tp D q = .inr (D', q1) → xO tp t q D' q1 S S' → Q (.int 1) S') : aWX (m + 40) 42 [.ref 3, .ref t] S Q := by
  have hwr := ok.1.1
  obtain ⟨k0, k1, k2, -⟩ := rt_k hT
  obtain ⟨⟨a1, a2, -⟩, -⟩ := art_t hT
  obtain ⟨-, r1, -⟩ := hT.re
  have t6 := hT.six.1
  have hlt := lt_sr hl hq0
  have n1 := nx_gt hlt
  have l1 := plT_nx hl
  have l2 := plT_nx l1
  refine mX_Reader_readWriter (gK_ok k0 ?_)
  rw [h.1.1, show nI (rWr D.1) < (5 : Int32) ↔ rWr D.1 < 5 from nI_ltI (a := rWr D.1) (b := 5) (by omega) (by decide)]
  refine ⟨fun c5 => ?_, fun c5 => wX_fail hs ⟨Or.inl rfl, hE _ _ ?_ (xE_fail frZ.rf)⟩⟩
  rotate_left
  · have c5' : rWr D.1 = 5 := by omega
    unfold wrF
    rw [cI_t c5']
  have c5' : ¬ rWr D.1 = 5 := by omega
  refine wX_nx ht hs hl (fun S1 f1 t1 => ?_)
  have s1 : dwX D t S1 := h.kept f1.Z (fun i _ _ (q : i = 1) => by omega)
  have g1 : lwX D (nxT tp q) t S1 := g.kept hT f1.Z (fun i _ (q : i = 1) => by omega) (by omega) rfl rfl
  show aWX (m + 39) 53 [.ref 3, .ref t] S1 _
  refine wX_isNewName ht hT ok (dX_of hT ok s1 g1) t1 l1 (fun e nt => ⟨fun _ => gK_ok k0 (gK_ok k1 ⟨?_, ?_⟩), fun q => absurd q (by decide)⟩) (fun e tt => ⟨fun q => absurd rfl q, fun _ => ⟨Or.inl rfl, hE _ _ (by unfold wrF; rw [cI_f c5', cI_t e, cI_t tt]) (xE_fail (frZ_K f1))⟩⟩) (fun e => ⟨fun q => absurd rfl q, fun _ => ⟨Or.inl rfl, hE _ _ (by unfold wrF; rw [cI_f c5', cI_f e]) (xE_fail (frZ_K f1))⟩⟩)
  · rw [k2]
    exact nI_in (by omega) (by decide)
  have hn := nm_3 ht l1 e
  have hlt1 := lt_sr l1 (by omega)
  have n2 := nx_gt hlt1
  rw [nI_clamp (by omega), a2, t1.2.2.2.2.2 e]
  have fb : frZ (fun i => i = t + 2) S1 (sb S1 (t + 2) (rWr D.1) (lN (enc 32 (nmT tp (nxT tp q))))) := frZ_sb rfl
  have fbd : frZ (drC t) S1 (sb S1 (t + 2) (rWr D.1) (lN (enc 32 (nmT tp (nxT tp q))))) := fb.le (fun i hi => Or.inr (by unfold dwC; omega))
  refine wX_nx ht (t1.keptZ fb (by omega) (by omega)) l1 (fun S2 f2 t2 => ?_)
  show aWX (m + 39) 43 [.ref 3] S2 _
  refine wX_kindTold t2 ?_
  have z2 : frZ (drC t) S S2 := ((frZ_K f1).tr fbd).tr (frZ_K f2)
  cases hk : kdT tp (nxT tp (nxT tp q)) with
  | none => exact ⟨fun c => absurd rfl c, fun _ => wX_fail t2 ⟨Or.inl rfl, hE _ _ (by unfold wrF; rw [cI_f c5', cI_t e, cI_f nt, hk]) (xE_fail z2)⟩⟩
  | some k =>
    have k3 := kdT_le hk
    have s0 : srT tp (nxT tp (nxT tp q)) ≠ 0 := fun z => by
      unfold kdT at hk
      rw [if_neg (by omega), if_neg (by omega), if_neg (by omega), if_neg (by omega)] at hk
      cases hk
    have hlt2 := lt_sr l2 s0
    have n3 := nx_gt hlt2
    refine ⟨fun _ => gK_ok k0 (gK_ok r1.1 ⟨?_, gK_ok k0 (gK_ok k0 ?_)⟩), fun c => absurd c.symm (m1_ne (by omega))⟩
    · rw [r1.2]
      exact nI_in (by omega) (by decide)
    rw [a1]
    have g2 : gi (sa S2 (t + 1) (rWr D.1) (kdI (some k))) t 0 = nI (rWr D.1) := by
      rw [gi_sa, f2.1 t 0 (by omega), gi_sb, f1.1 t 0 (by omega)]
      exact h.1.1
    rw [g2, nI_1]
    have f3 : frZ (fun i => i = t ∨ i = t + 1) S2 (si (sa S2 (t + 1) (rWr D.1) (kdI (some k))) t 0 (nI (rWr D.1 + 1))) := (frZ_sa (Or.inr rfl)).tr (frZ_si (Or.inl rfl))
    have f3d : frZ (drC t) S2 (si (sa S2 (t + 1) (rWr D.1) (kdI (some k))) t 0 (nI (rWr D.1 + 1))) := f3.le (fun i hi => Or.inr (by unfold dwC; omega))
    refine wX_nx ht (t2.keptZ f3 (by omega) (by omega)) l2 (fun S3 f4 t3 => ⟨Or.inr rfl, ?_⟩)
    have G : ∀ j, j ≠ 0 → gi S3 t j = gi S t j := fun j c => by
      rw [f4.1 t j (by omega), gi_si, if_neg (fun z => c z.2), gi_sa, f2.1 t j (by omega), gi_sb, f1.1 t j (by omega)]
    have A1 : ∀ j, ga S3 (t + 1) j = if j = rWr D.1 then nI k else ga S (t + 1) j := fun j => by
      rw [f4.2.2.2.1, ga_si, ga_sa, f2.2.2.2.1, ga_sb, f1.2.2.2.1]
      by_cases c : j = rWr D.1
      · rw [if_pos ⟨rfl, c⟩, if_pos c]
        rfl
      · rw [if_neg (fun z => c z.2), if_neg c]
    have A0 : ∀ i, i ≠ t + 1 → ∀ j, ga S3 i j = ga S i j := fun i hi j => by
      rw [f4.2.2.2.1, ga_si, ga_sa, if_neg (fun z => hi z.1), f2.2.2.2.1, ga_sb, f1.2.2.2.1]
    have B1 : ∀ j, gb S3 (t + 2) j = if j = rWr D.1 then lN (enc 32 (nmT tp (nxT tp q))) else gb S (t + 2) j := fun j => by
      rw [f4.2.2.2.2, gb_si, gb_sa, f2.2.2.2.2, gb_sb, f1.2.2.2.2]
      by_cases c : j = rWr D.1
      · rw [if_pos ⟨rfl, c⟩, if_pos c]
      · rw [if_neg (fun z => c z.2), if_neg c]
    have B0 : ∀ i, i ≠ t + 2 → ∀ j, gb S3 i j = gb S i j := fun i hi j => by
      rw [f4.2.2.2.2, gb_si, gb_sa, f2.2.2.2.2, gb_sb, if_neg (fun z => hi z.1), f1.2.2.2.2]
    refine hO (addW D k (nmT tp (nxT tp q))) (nxT tp (nxT tp (nxT tp q))) S3 (by unfold wrF; rw [cI_f c5', cI_t e, cI_f nt, hk]) ⟨frF_of ((z2.tr f3d).tr (frZ_K f4)), ⟨⟨?_, ?_, ?_, ?_, ?_⟩, fun j hj => ?_, fun w hw => ?_, fun j w hj hw => ?_, fun v hv => ?_⟩, ?_, t3, plT_nx l2, by omega, ?_, ok_addW ok (by omega) k3 hn⟩
    · rw [f4.1 t 0 (by omega), gi_si, if_pos ⟨rfl, rfl⟩]
      rfl
    · rw [G 3 (by decide)]; exact h.1.2.1
    · rw [G 12 (by decide)]; exact h.1.2.2.1
    · rw [G 11 (by decide)]; exact h.1.2.2.2.1
    · rw [G 13 (by decide)]; exact h.1.2.2.2.2
    · have hj : j < rWr D.1 + 1 := hj
      show ga S3 (t + 1) j = nI (if j = rWr D.1 then k else rKi D.1 j) ∧ gb S3 (t + 2) j = lN (enc 32 (if j = rWr D.1 then nmT tp (nxT tp q) else D.2.1 j))
      rw [A1, B1]
      by_cases c : j = rWr D.1
      · exact ⟨by rw [if_pos c, if_pos c], by rw [if_pos c, if_pos c]⟩
      · simp only [if_neg c]
        exact h.2.1 j (by omega)
    · simp only [A0 (t + 3) (by omega), A0 (t + 4) (by omega), A0 (t + 5) (by omega), A0 (t + 6) (by omega), B0 (t + 7) (by omega)]
      exact h.2.2.1 w hw
    · rw [A0 (t + 8) (by omega)]
      exact h.2.2.2.1 j w hj hw
    · rw [A0 (t + 9) (by omega)]
      exact h.2.2.2.2 v hv
    · have f5 : frZ (fun i => i ≤ t + 9) S S3 := ((((f1.Z.le (fun i (q : i = 1) => by omega)).tr (fb.le (fun i (q : i = t + 2) => by omega))).tr (f2.Z.le (fun i (q : i = 1) => by omega))).tr (f3.le (fun i (q : i = t ∨ i = t + 1) => by omega))).tr (f4.Z.le (fun i (q : i = 1) => by omega))
      exact g.kept hT f5 (fun i hi (q : i ≤ t + 9) => by omega) (by omega) rfl rfl
    · rw [f4.1 1 7 (by omega), gi_si, if_neg (by omega), gi_sa, f2.1 1 7 (by omega), gi_sb, f1.1 1 7 (by omega)]
theorem M_writer (ht : okT tp) (ok : okDr D) (hl : plT tp q) (hq0 : srT tp q ≠ 0) : mL tp 25 [] D q (wrF tp D q) := by
  intro d Q S c h hs hc hE h1 h0
  have hwr := ok.1.1
  have n1 := nx_gt (lt_sr hl hq0)
  have e5 : (5 : Int32) + ga S 1002 (4 : Int32).toNatClampNeg = nI (5 + rWr D.1) := by
    rw [c4, h.1.1]
    exact nI_add 5 _
  refine mM_readsWriter ⟨vin (by decide), ?_⟩
  rw [e5, show nI (5 + rWr D.1) = (10 : Int32) ↔ rWr D.1 = 5 from (nI_eq (a := 5 + rWr D.1) (b := 10) (by omega) (by decide)).trans (by omega)]
  refine ⟨fun c5 => ?_, fun c5 => wM_fail hs ⟨Or.inl rfl, hE _ _ (by unfold wrF; rw [cI_t c5]) (frU_9 frU.rf).1 (frU_9 frU.rf).2⟩⟩
  have l1 := plT_nx hl
  have l2 := plT_nx l1
  refine wM_nx ht hs hl (fun S1 f1 t1 => ?_)
  show aWM (d + 5) 23 [.ref 1000] S1 _
  refine wM_needsNew ht ok (h.tk f1) t1 l1 (fun e nt S2 f2 t2 w2 => ⟨fun _ => ?_, fun q => absurd q (by decide)⟩) (fun e tt => ⟨fun q => absurd rfl q, fun _ => ⟨Or.inl rfl, hE _ _ (by unfold wrF; rw [cI_f c5, cI_t e, cI_t tt]) (frU_9 (frU_tk f1)).1 (frU_9 (frU_tk f1)).2⟩⟩) (fun e => ⟨fun q => absurd rfl q, fun _ => ⟨Or.inl rfl, hE _ _ (by unfold wrF; rw [cI_f c5, cI_f e]) (frU_9 (frU_tk f1)).1 (frU_9 (frU_tk f1)).2⟩⟩)
  have n2 := nx_gt (lt_sr l1 (by omega))
  have u2 : frU S S2 := (frU_tk f1).tr (frU_nw f2)
  have d2 : dM D c S2 := (h.tk f1).nw f2
  have v5 : vp_in (nI (5 + rWr D.1)) 10 := nI_in (by omega) (by decide)
  have cl5 : (nI (5 + rWr D.1)).toNatClampNeg = 5 + rWr D.1 := nI_clamp (by omega)
  have leaf : ∀ (x : Int32) (k : Nat), x = nI k → k ≤ 3 → kdT tp (nxT tp (nxT tp q)) = some k → (vp_in (nI (5 + rWr D.1)) 10 ∧ (vp_in (nI (5 + rWr D.1)) 10 ∧ (((0 : Int32) ≤ (ga (sa S2 1005 (nI (5 + rWr D.1)).toNatClampNeg x) 1005 (nI (5 + rWr D.1)).toNatClampNeg) → (aWM (d + 5) 6 [.ref 1000] (sa S2 1005 (nI (5 + rWr D.1)).toNatClampNeg x) (fun v18 S19 => aV v18 (aBM (d + 5) 25 Q 63 [some (.ref 1000), some (.int (nI (5 + rWr D.1))), some (.int 0)] [] S19)))) ∧ (¬ (0 : Int32) ≤ (ga (sa S2 1005 (nI (5 + rWr D.1)).toNatClampNeg x) 1005 (nI (5 + rWr D.1)).toNatClampNeg) → (aWM (d + 5) 9 [.ref 1000, .int 1] (sa S2 1005 (nI (5 + rWr D.1)).toNatClampNeg x) (fun v20 S21 => aI v20 (fun x22 => (x22 = 0 ∨ x22 = 1) ∧ Q (.int x22) S21))))))) := by
    intro x k hx hk3 hk
    refine ⟨v5, v5, ?_⟩
    rw [cl5, ga_sa, if_pos ⟨rfl, rfl⟩]
    refine ⟨fun _ => ?_, fun z => absurd (by rw [hx]; exact Int32.not_lt.mp (nI_pos (by omega))) z⟩
    refine wM_nx ht (tk_sa t2 (by decide)) l2 (fun S4 f4 t4 => ?_)
    show aBM (d + 5) 25 Q 63 [some (.ref 1000), some (.int (nI (5 + rWr D.1))), some (.int (nI 0))] [] S4
    have s0 : srT tp (nxT tp (nxT tp q)) ≠ 0 := fun z => by
      unfold kdT at hk
      rw [if_neg (by omega), if_neg (by omega), if_neg (by omega), if_neg (by omega)] at hk
      cases hk
    have n3 := nx_gt (lt_sr l2 s0)
    have loop : ∀ m j T, j + m = 12 → frM (fun i => i = 1010) noC S4 T → (∀ i k, gb T i k = gb S4 i k) → (∀ i, ga T 1010 i = if 60 + 12 * rWr D.1 ≤ i ∧ i < 60 + 12 * rWr D.1 + j then 0 else ga S4 1010 i) → aBM (d + 5) 25 Q 63 [some (.ref 1000), some (.int (nI (5 + rWr D.1))), some (.int (nI j))] [] T := by
      intro m
      induction m with
      | zero =>
        intro j T hj fT bT aT
        obtain rfl : j = 12 := by omega
        have aT0 : ∀ i, i ≠ 1010 → ∀ k, ga T i k = if i = 1005 ∧ k = 5 + rWr D.1 then x else ga S2 i k := fun i hi k => by
          rw [fT.1 i k hi, f4.1 i k (fun q => q), ga_sa]
        have bT0 : ∀ i k, gb T i k = gb S2 i k := fun i k => by
          rw [bT i k, f4.2.1 i k (fun q => q), gb_sa]
        have g39 : gl T 1000 39 = lN (enc 27 (nmT tp (nxT tp q))) := by
          rw [fT.2.2.2 39 (fun q => q), f4.2.2.2 39 (by unfold tkF; omega), gl_sa]
          exact w2
        have gF : ∀ k, ¬ tkF k → gi T 1000 k = gi S2 1000 k := fun k hk => by
          rw [fT.2.2.1 k (fun q => q), f4.2.2.1 k hk, gi_sa]
        have e4 : ga (sb T 1003 (5 + rWr D.1) (lN (enc 27 (nmT tp (nxT tp q))))) 1002 4 + 1 = nI (rWr D.1 + 1) := by
          rw [ga_sb, aT0 1002 (by decide), if_neg (by omega), d2.1.1, nI_1]
        refine bM_readsWriter_63 ⟨fun _ => ⟨v5, vin (by decide), vin (by decide), ?_⟩, fun z => absurd (by decide) z⟩
        rw [cl5, c4, g39, e4]
        have tT : tkM tp (nxT tp (nxT tp (nxT tp q))) (sa (sb T 1003 (5 + rWr D.1) (lN (enc 27 (nmT tp (nxT tp q))))) 1002 4 (nI (rWr D.1 + 1))) := by
          refine tk_sa ?_ (by decide)
          have tT := t4.kept fT (show ¬ (1001 : Nat) = 1010 by decide) (fun k _ _ q => q)
          exact tT
        have uT : frU S (sa (sb T 1003 (5 + rWr D.1) (lN (enc 27 (nmT tp (nxT tp q))))) 1002 4 (nI (rWr D.1 + 1))) := by
          refine (((u2.tr (frU_sa (i := 1005) (k := 5 + rWr D.1) (v := x) (by unfold upA; omega))).tr (frU_tk f4)).tr ?_).tr ((frU_sb (by unfold upB; omega)).tr (frU_sa (by unfold upA; omega)))
          refine ⟨fun i k hi => ?_, fun i k hi => ?_, fun k _ => fT.2.2.1 k (fun q => q), fun k _ => fT.2.2.2 k (fun q => q)⟩
          · by_cases z : i = 1010
            · subst z
              rw [aT, if_neg (fun y => hi (by unfold upA; omega))]
            · exact fT.1 i k z
          · exact bT i k
        refine wM_close ht (plT_nx l2) tT uT (D := addW D k (nmT tp (nxT tp q))) (c := c) ?_ (fun z S' y1 y2 y3 => h1 _ _ S' c (by unfold wrF; rw [cI_f c5, cI_t e, cI_f nt, hk]) z y1 y2 (by omega) y3) (fun z S' y1 y2 => h0 _ _ S' (by unfold wrF; rw [cI_f c5, cI_t e, cI_f nt, hk]) z y1 y2)
        obtain ⟨⟨p1, p2, p3, p4⟩, q1, q2, q3, q4, q5, q6⟩ := d2
        have A : ∀ i, i ≠ 1002 → i ≠ 1010 → i ≠ 1005 → ∀ k, ga (sa (sb T 1003 (5 + rWr D.1) (lN (enc 27 (nmT tp (nxT tp q))))) 1002 4 (nI (rWr D.1 + 1))) i k = ga S2 i k := fun i n2 n10 n5 k => by
          rw [ga_sa, if_neg (fun z => n2 z.1), ga_sb, aT0 i n10, if_neg (fun z => n5 z.1)]
        refine ⟨⟨?_, ?_, ?_, ?_⟩, fun j hj => ⟨?_, ?_, fun w hw => ?_⟩, fun w hw => ?_, q3.kept (fun i _ _ => A i (by omega) (by omega) (by omega)), q4.kept (fun i _ _ => A i (by omega) (by omega) (by omega)), ?_, ?_⟩
        · rw [ga_sa, if_pos ⟨rfl, rfl⟩]; rfl
        · rw [ga_sa, if_neg (by decide), ga_sb, aT0 1002 (by decide), if_neg (by omega)]; exact p2
        · rw [ga_sa, if_neg (by decide), ga_sb, aT0 1002 (by decide), if_neg (by omega)]; exact p3
        · rw [ga_sa, if_neg (by decide), ga_sb, aT0 1002 (by decide), if_neg (by omega)]; exact p4
        · have hj : j < rWr D.1 + 1 := hj
          show _ = nI (if j = rWr D.1 then k else rKi D.1 j)
          rw [ga_sa, if_neg (by omega), ga_sb, aT0 1005 (by decide)]
          by_cases z : j = rWr D.1
          · rw [if_pos ⟨rfl, by omega⟩, if_pos z]
            exact hx
          · rw [if_neg (by omega), if_neg z]
            exact (q1 j (by omega)).1
        · have hj : j < rWr D.1 + 1 := hj
          show _ = lN (enc 27 (if j = rWr D.1 then nmT tp (nxT tp q) else D.2.1 j))
          rw [gb_sa, gb_sb]
          by_cases z : j = rWr D.1
          · rw [if_pos ⟨rfl, by omega⟩, if_pos z]
          · rw [if_neg (by omega), if_neg z, bT0 1003]
            exact (q1 j (by omega)).2.1
        · have hj : j < rWr D.1 + 1 := hj
          show _ = nI (rLi D.1 j w)
          rw [ga_sa, if_neg (by omega), ga_sb, aT]
          by_cases z : j = rWr D.1
          · rw [if_pos (by omega), ok.2.2.2.1 j w (fun y => by omega)]
            rfl
          · rw [if_neg (by omega), f4.1 1010 _ (fun q => q), ga_sa, if_neg (by omega)]
            exact (q1 j (by omega)).2.2 w hw
        · simp only [A 1006 (by decide) (by decide) (by decide), A 1007 (by decide) (by decide) (by decide), A 1008 (by decide) (by decide) (by decide), A 1009 (by decide) (by decide) (by decide), A 1011 (by decide) (by decide) (by decide), gb_sa, gb_sb]
          rw [if_neg (by omega), bT0 1004]
          exact q2 w hw
        · rw [gi_sa, gi_sb, gF 23 (by unfold tkF; omega)]; exact q5
        · rw [gi_sa, gi_sb, gF 25 (by unfold tkF; omega)]; exact q6
      | succ m ih =>
        intro j T hj fT bT aT
        have e12 : (12 : Int32) * nI (5 + rWr D.1) + nI j = nI (60 + 12 * rWr D.1 + j) := by
          rw [show (12 : Int32) = nI 12 from rfl, nI_mulN, nI_add]
          exact congrArg nI (by omega)
        refine bM_readsWriter_63 ⟨fun z => absurd z (nI_ge (a := j) (b := 12) (by omega) (by decide)), fun _ => ?_⟩
        rw [e12, nI_1, nI_clamp (by omega)]
        refine ⟨nI_in (by omega) (by omega), ih (j + 1) _ (by omega) (fT.tr (frM_sa rfl)) (fun i k => by rw [gb_sa]; exact bT i k) (fun i => ?_)⟩
        rw [ga_sa, aT]
        by_cases z : i = 60 + 12 * rWr D.1 + j
        · rw [if_pos ⟨rfl, z⟩, if_pos (by omega)]
        · rw [if_neg (fun y => z y.2)]
          by_cases y : 60 + 12 * rWr D.1 ≤ i ∧ i < 60 + 12 * rWr D.1 + j
          · rw [if_pos y, if_pos (by omega)]
          · rw [if_neg y, if_neg (by omega)]
    exact loop 12 0 S4 (by omega) frM.rf (fun _ _ => rfl) (fun i => by rw [if_neg (by omega)])
  refine wd_is (k := 18) ht t2 l2 (by decide) (by decide) rfl (fun e18 => ⟨fun z => absurd z (by decide), fun _ => leaf 0 0 rfl (by decide) (by unfold kdT; rw [if_pos e18])⟩) (fun e18 => ⟨fun _ => ?_, fun z => absurd rfl z⟩)
  refine wd_is (k := 19) ht t2 l2 (by decide) (by decide) rfl (fun e19 => ⟨fun z => absurd z (by decide), fun _ => leaf 1 1 rfl (by decide) (by unfold kdT; rw [if_neg e18, if_pos e19])⟩) (fun e19 => ⟨fun _ => ?_, fun z => absurd rfl z⟩)
  refine wd_is (k := 20) ht t2 l2 (by decide) (by decide) rfl (fun e20 => ⟨fun z => absurd z (by decide), fun _ => leaf 2 2 rfl (by decide) (by unfold kdT; rw [if_neg e18, if_neg e19, if_pos e20])⟩) (fun e20 => ⟨fun _ => ?_, fun z => absurd rfl z⟩)
  refine wd_is (k := 21) ht t2 l2 (by decide) (by decide) rfl (fun e21 => ⟨fun z => absurd z (by decide), fun _ => leaf 3 3 rfl (by decide) (by unfold kdT; rw [if_neg e18, if_neg e19, if_neg e20, if_pos e21])⟩) (fun e21 => ⟨fun _ => ⟨v5, v5, ?_⟩, fun z => absurd rfl z⟩)
  have hk : kdT tp (nxT tp (nxT tp q)) = none := by
    unfold kdT
    rw [if_neg e18, if_neg e19, if_neg e20, if_neg e21]
  rw [cl5, ga_sa, if_pos ⟨rfl, rfl⟩]
  have u3 : frU S (sa S2 1005 (5 + rWr D.1) (-1)) := u2.tr (frU_sa (by unfold upA; omega))
  exact ⟨fun z => absurd z (by decide), fun _ => wM_fail (tk_sa t2 (by decide)) ⟨Or.inl rfl, hE _ _ (by unfold wrF; rw [cI_f c5, cI_t e, cI_f nt, hk]) (frU_9 u3).1 (frU_9 u3).2⟩⟩
end
