/-! a line that tells a word -/
noncomputable def enB (tp : List Nat) (q k b : Nat) (K : Nat → zO) : zO := cI (srT tp q = k) (cI (srT tp (nxT tp q) = 2) (cI (0 ≤ nvT tp (nxT tp q) ∧ nvT tp (nxT tp q) ≤ b) (K (nvT tp (nxT tp q))) (.inl (4 + 16 * nI (nxT tp q)))) (.inl (1 + 16 * nI (nxT tp q)))) (.inl (1 + 16 * nI q))
theorem enB_O {tp : List Nat} {q k b : Nat} {K : Nat → zO} (h : entO tp q k 0 b) : enB tp q k b K = K (nvT tp (nxT tp q)) := by
  unfold enB
  rw [cI_t h.1, cI_t h.2.1, cI_t h.2.2]
theorem enB_E {tp : List Nat} {q k b : Nat} {K : Nat → zO} {v : Int32} (h : entE tp q k 0 b v) : enB tp q k b K = .inl v := by
  unfold enB
  rcases h with ⟨a, e⟩ | ⟨a, a2, e⟩ | ⟨a, a2, a3, e⟩
  · rw [cI_f a, e]
  · rw [cI_t a, cI_f a2, e]
  · rw [cI_t a, cI_t a2, cI_f a3, e]
def nx2 (tp : List Nat) (q : Nat) : Nat := nxT tp (nxT tp q)
noncomputable def wdF (tp : List Nat) (D : zD) (q : Nat) : zO := cI (rWd D.1 = 12) (.inl (5 + 16 * nI q)) (cI (srT tp (nxT tp q) = 3) (cI (toldN D (nmT tp (nxT tp q))) (.inl (3 + 16 * nI (nxT tp q))) (enB tp (nx2 tp q) 6 3 fun f => enB tp (nx2 tp (nx2 tp q)) 7 9 fun we => enB tp (nx2 tp (nx2 tp (nx2 tp q))) 8 20 fun go => enB tp (nx2 tp (nx2 tp (nx2 tp (nx2 tp q)))) 9 9 fun le => .inr (addD D f we go le (nmT tp (nxT tp q)), nx2 tp (nx2 tp (nx2 tp (nx2 tp (nx2 tp q))))))) (.inl (1 + 16 * nI (nxT tp q))))
theorem clB_addD {D : zD} {f we go le : Nat} {l : List Nat} {v x : Nat} (ok : okDr D) (h : clB D.1 v x) : clB (addD D f we go le l).1 v x := by
  refine ⟨h.1, fun w => ?_⟩
  show x.testBit w = (decide (w < rWd D.1 + 1) && rCl D.1 v w)
  rw [h.2 w]
  by_cases c : w < rWd D.1
  · rw [decide_eq_true c, decide_eq_true (show w < rWd D.1 + 1 by omega)]
  · rw [ok.2.2.2.2 v w (fun z => c z.2), Bool.and_false, Bool.and_false]
theorem clB_new {D : zD} {f we go le : Nat} {l : List Nat} (ok : okDr D) : clB (addD D f we go le l).1 (rWd D.1) 0 := by
  refine ⟨by decide, fun w => ?_⟩
  show (0 : Nat).testBit w = (decide (w < rWd D.1 + 1) && rCl D.1 (rWd D.1) w)
  rw [ok.2.2.2.2 (rWd D.1) w (fun z => absurd z.1 (Nat.lt_irrefl _)), Nat.zero_testBit, Bool.and_false]
/-- an entry laid: all else is as it was -/
def enK (p j : Nat) (v : Int32) (S S' : aS) : Prop := (∀ i k, i ≠ 1 → gi S' i k = gi S i k) ∧ gi S' 1 7 = gi S 1 7 ∧ (∀ i k, ga S' i k = if i = p ∧ k = j then v else ga S i k) ∧ (∀ i k, gb S' i k = gb S i k) ∧ frZ (fun i => i = 1 ∨ i = p) S S'
theorem enK_of {p j : Nat} {v : Int32} {S T S' : aS} (h1 : frK S T) (h2 : frK (sa T p j v) S') : enK p j v S S' := by
  refine ⟨fun i k hi => ?_, ?_, fun i k => ?_, fun i k => ?_, ?_⟩
  · rw [h2.1 i k (fun c => hi c.1), gi_sa, h1.1 i k (fun c => hi c.1)]
  · rw [h2.1 1 7 (by omega), gi_sa, h1.1 1 7 (by omega)]
  · rw [h2.2.2.2.1, ga_sa, h1.2.2.2.1]
  · rw [h2.2.2.2.2, gb_sa, h1.2.2.2.2]
  · exact ((h1.Z.le (fun _ q => Or.inl q)).tr (frZ_sa (C := fun i => i = 1 ∨ i = p) (Or.inr rfl))).tr (h2.Z.le (fun _ q => Or.inl q))
section
variable {d m : Nat} {Q : Value → aS → Prop} {S : aS} {tp : List Nat} {q c t : Nat} {D : zD}
theorem X_entry {k b p j : Nat} (ht : okT tp) (hs : tkX tp q S) (hl : plT tp q) (hk : k ≤ 32) (hb : b < 100) (hp : akd p = 20 ∧ aln p = 12) (hj : j < 12) (hp3 : p ≠ 2) (hO : entO tp q k 0 b → ∀ S', enK p j (nI (nvT tp (nxT tp q))) S S' → tkX tp (nx2 tp q) S' → Q (.int 1) S') (hE : ∀ v, entE tp q k 0 b v → ∀ T, frK S T → Q (.int 0) (si T 1 7 v)) : aWX (d + 4) 45 [.ref 3, .ref (2000 + k), .int (nI b), .ref p, .int (nI j)] S Q := by
  obtain ⟨hp1, hp2⟩ := hp
  exact wX_readEntry ht hs hl hk hb hp1 (by omega) (by omega) hp3 (fun o S' T f1 _ f2 t2 => hO o S' (enK_of f1 f2) t2) hE
theorem ent_lt {k b : Nat} (hl : plT tp q) (hk : 0 < k) (h : entO tp q k 0 b) : q < nx2 tp q ∧ plT tp (nx2 tp q) := by
  have h1 := nx_gt (lt_sr hl (by have := h.1; omega))
  have h2 := nx_gt (lt_sr (plT_nx hl) (by have := h.2.1; omega))
  exact ⟨by unfold nx2; omega, plT_nx (plT_nx hl)⟩
theorem X_word (ht : okT tp) (hT : isT t) (ok : okDr D) (h : dwX D t S) (g : lwX D q t S) (hs : tkX tp q S) (hl : plT tp q) (hq0 : srT tp q ≠ 0) (hE : ∀ v S', wdF tp D q = .inl v → xE t S S' v → Q (.int 0) S') (hO : ∀ D' q1 S', wdF tp D q = .inr (D', q1) → xO tp t q D' q1 S S' → Q (.int 1) S') : aWX (m + 40) 44 [.ref 3, .ref t] S Q := by
  have hwd := ok.1.2.1
  obtain ⟨k0, -, -, k1, k2⟩ := rt_k hT
  obtain ⟨⟨-, -, a4, a5, a6, a7, a8, -⟩, -⟩ := art_t hT
  obtain ⟨-, -, r4, r5, r6, r7, -⟩ := hT.re
  have t6 := hT.six.1
  have n1 := nx_gt (lt_sr hl hq0)
  have l1 := plT_nx hl
  have l2 : plT tp (nx2 tp q) := plT_nx l1
  refine mX_Reader_readWord (gK_ok k0 ?_)
  rw [h.1.2.1, show nI (rWd D.1) < (12 : Int32) ↔ rWd D.1 < 12 from nI_ltI (a := rWd D.1) (b := 12) (by omega) (by decide)]
  refine ⟨fun c5 => ?_, fun c5 => wX_fail hs ⟨Or.inl rfl, hE _ _ ?_ (xE_fail frZ.rf)⟩⟩
  rotate_left
  · have c5' : rWd D.1 = 12 := by omega
    unfold wdF
    rw [cI_t c5']
  have c5' : ¬ rWd D.1 = 12 := by omega
  refine wX_nx ht hs hl (fun S1 f1 t1 => ?_)
  have s1 : dwX D t S1 := h.kept f1.Z (fun i _ _ (q : i = 1) => by omega)
  have g1 : lwX D (nxT tp q) t S1 := g.kept hT f1.Z (fun i _ (q : i = 1) => by omega) (by omega) rfl rfl
  show aWX (m + 39) 53 [.ref 3, .ref t] S1 _
  refine wX_isNewName ht hT ok (dX_of hT ok s1 g1) t1 l1 (fun e nt => ⟨fun _ => gK_ok k0 (gK_ok k1 ⟨?_, ?_⟩), fun q => absurd q (by decide)⟩) (fun e tt => ⟨fun q => absurd rfl q, fun _ => ⟨Or.inl rfl, hE _ _ (by unfold wdF; rw [cI_f c5', cI_t e, cI_t tt]) (xE_fail (frZ_K f1))⟩⟩) (fun e => ⟨fun q => absurd rfl q, fun _ => ⟨Or.inl rfl, hE _ _ (by unfold wdF; rw [cI_f c5', cI_f e]) (xE_fail (frZ_K f1))⟩⟩)
  · rw [k2]
    exact nI_in (by omega) (by decide)
  have hn := nm_3 ht l1 e
  have n2 := nx_gt (lt_sr l1 (by omega))
  have n2' : nxT tp q < nx2 tp q := n2
  rw [nI_clamp (by omega), a8, t1.2.2.2.2.2 e]
  have fb : frZ (fun i => i = t + 7) S1 (sb S1 (t + 7) (rWd D.1) (lN (enc 32 (nmT tp (nxT tp q))))) := frZ_sb rfl
  have fbd : frZ (drC t) S1 (sb S1 (t + 7) (rWd D.1) (lN (enc 32 (nmT tp (nxT tp q))))) := fb.le (fun i hi => Or.inr (by unfold dwC; omega))
  refine wX_nx ht (t1.keptZ fb (by omega) (by omega)) l1 (fun S2 f2 t2 => gK_ok k0 ?_)
  have t2 : tkX tp (nx2 tp q) S2 := t2
  have z2 : frZ (drC t) S S2 := ((frZ_K f1).tr fbd).tr (frZ_K f2)
  have dr : ∀ (p j : Nat) (v : Int32) (T T' : aS), t + 3 ≤ p → p ≤ t + 6 → enK p j v T T' → frZ (drC t) T T' := fun p j v T T' h1 h2 hK => hK.2.2.2.2.le (fun i hi => hi.elim Or.inl (fun z => Or.inr (by unfold dwC; omega)))
  have pre : ∀ o : zO, enB tp (nx2 tp q) 6 3 (fun f => enB tp (nx2 tp (nx2 tp q)) 7 9 fun we => enB tp (nx2 tp (nx2 tp (nx2 tp q))) 8 20 fun go => enB tp (nx2 tp (nx2 tp (nx2 tp (nx2 tp q)))) 9 9 fun le => .inr (addD D f we go le (nmT tp (nxT tp q)), nx2 tp (nx2 tp (nx2 tp (nx2 tp (nx2 tp q)))))) = o → wdF tp D q = o := fun o ho => by
    unfold wdF
    rw [cI_f c5', cI_t e, cI_f nt]
    exact ho
  rw [a4]
  show aWX (m + 39) 45 [.ref 3, .ref (2000 + 6), .int (nI 3), .ref (t + 3), .int (nI (rWd D.1))] S2 _
  refine X_entry ht t2 l2 (by decide) (by decide) (by rw [← a4]; exact r4) (by omega) (by omega) (fun o1 S3 K1 t3 => ⟨fun q => absurd q (by decide), fun _ => gK_ok k0 ?_⟩) (fun v ev T fT => ⟨fun _ => ⟨fun _ => ⟨Or.inl rfl, hE _ _ (pre _ (enB_E ev)) (xE_fail (z2.tr (frZ_K fT)))⟩, fun z => absurd rfl z⟩, fun q => absurd rfl q⟩)
  have z3 := z2.tr (dr _ _ _ _ _ (by omega) (by omega) K1)
  obtain ⟨m3, l3⟩ := ent_lt l2 (by decide) o1
  rw [a5]
  show aWX (m + 39) 45 [.ref 3, .ref (2000 + 7), .int (nI 9), .ref (t + 4), .int (nI (rWd D.1))] S3 _
  refine X_entry ht t3 l3 (by decide) (by decide) (by rw [← a5]; exact r5) (by omega) (by omega) (fun o2 S4 K2 t4 => ⟨fun q => absurd q (by decide), fun _ => gK_ok k0 ?_⟩) (fun v ev T fT => ⟨fun _ => ⟨fun _ => ⟨Or.inl rfl, hE _ _ (pre _ ((enB_O o1).trans (enB_E ev))) (xE_fail (z3.tr (frZ_K fT)))⟩, fun z => absurd rfl z⟩, fun q => absurd rfl q⟩)
  have z4 := z3.tr (dr _ _ _ _ _ (by omega) (by omega) K2)
  obtain ⟨m4, l4⟩ := ent_lt l3 (by decide) o2
  rw [a6]
  show aWX (m + 39) 45 [.ref 3, .ref (2000 + 8), .int (nI 20), .ref (t + 5), .int (nI (rWd D.1))] S4 _
  refine X_entry ht t4 l4 (by decide) (by decide) (by rw [← a6]; exact r6) (by omega) (by omega) (fun o3 S5 K3 t5 => ⟨fun q => absurd q (by decide), fun _ => gK_ok k0 ?_⟩) (fun v ev T fT => ⟨fun _ => ⟨fun _ => ⟨Or.inl rfl, hE _ _ (pre _ ((enB_O o1).trans ((enB_O o2).trans (enB_E ev)))) (xE_fail (z4.tr (frZ_K fT)))⟩, fun z => absurd rfl z⟩, fun q => absurd rfl q⟩)
  have z5 := z4.tr (dr _ _ _ _ _ (by omega) (by omega) K3)
  obtain ⟨m5, l5⟩ := ent_lt l4 (by decide) o3
  rw [a7]
  show aWX (m + 39) 45 [.ref 3, .ref (2000 + 9), .int (nI 9), .ref (t + 6), .int (nI (rWd D.1))] S5 _
  refine X_entry ht t5 l5 (by decide) (by decide) (by rw [← a7]; exact r7) (by omega) (by omega) (fun o4 S6 K4 t6' => ⟨fun q => absurd q (by decide), fun _ => ⟨fun z => absurd z (by decide), fun _ => gK_ok k0 (gK_ok k0 ⟨Or.inr rfl, ?_⟩)⟩⟩) (fun v ev T fT => ⟨fun _ => ⟨fun _ => ⟨Or.inl rfl, hE _ _ (pre _ ((enB_O o1).trans ((enB_O o2).trans ((enB_O o3).trans (enB_E ev))))) (xE_fail (z5.tr (frZ_K fT)))⟩, fun z => absurd rfl z⟩, fun q => absurd rfl q⟩)
  have z6 := z5.tr (dr _ _ _ _ _ (by omega) (by omega) K4)
  obtain ⟨m6, l6⟩ := ent_lt l5 (by decide) o4
  have G : ∀ i j, i ≠ 1 → gi S6 i j = gi S i j := fun i j hi => by
    rw [K4.1 i j hi, K3.1 i j hi, K2.1 i j hi, K1.1 i j hi, f2.1 i j (fun c => hi c.1), gi_sb, f1.1 i j (fun c => hi c.1)]
  have A : ∀ i j, ga S6 i j = if i = t + 6 ∧ j = rWd D.1 then nI (nvT tp (nxT tp (nx2 tp (nx2 tp (nx2 tp (nx2 tp q)))))) else if i = t + 5 ∧ j = rWd D.1 then nI (nvT tp (nxT tp (nx2 tp (nx2 tp (nx2 tp q))))) else if i = t + 4 ∧ j = rWd D.1 then nI (nvT tp (nxT tp (nx2 tp (nx2 tp q)))) else if i = t + 3 ∧ j = rWd D.1 then nI (nvT tp (nxT tp (nx2 tp q))) else ga S i j := fun i j => by
    rw [K4.2.2.1, K3.2.2.1, K2.2.2.1, K1.2.2.1, f2.2.2.2.1, ga_sb, f1.2.2.2.1]
  have A0 : ∀ i, i < t + 3 ∨ t + 6 < i → ∀ j, ga S6 i j = ga S i j := fun i hi j => by
    rw [A, if_neg (by omega), if_neg (by omega), if_neg (by omega), if_neg (by omega)]
  have A3 : ∀ j, ga S6 (t + 3) j = if j = rWd D.1 then nI (nvT tp (nxT tp (nx2 tp q))) else ga S (t + 3) j := fun j => by
    rw [A, if_neg (by omega), if_neg (by omega), if_neg (by omega)]
    by_cases z : j = rWd D.1
    · rw [if_pos ⟨rfl, z⟩, if_pos z]
    · rw [if_neg (fun y => z y.2), if_neg z]
  have A4 : ∀ j, ga S6 (t + 4) j = if j = rWd D.1 then nI (nvT tp (nxT tp (nx2 tp (nx2 tp q)))) else ga S (t + 4) j := fun j => by
    rw [A, if_neg (by omega), if_neg (by omega)]
    by_cases z : j = rWd D.1
    · rw [if_pos ⟨rfl, z⟩, if_pos z]
    · rw [if_neg (fun y => z y.2), if_neg (by omega), if_neg z]
  have A5 : ∀ j, ga S6 (t + 5) j = if j = rWd D.1 then nI (nvT tp (nxT tp (nx2 tp (nx2 tp (nx2 tp q))))) else ga S (t + 5) j := fun j => by
    rw [A, if_neg (by omega)]
    by_cases z : j = rWd D.1
    · rw [if_pos ⟨rfl, z⟩, if_pos z]
    · rw [if_neg (fun y => z y.2), if_neg (by omega), if_neg (by omega), if_neg z]
  have A6 : ∀ j, ga S6 (t + 6) j = if j = rWd D.1 then nI (nvT tp (nxT tp (nx2 tp (nx2 tp (nx2 tp (nx2 tp q)))))) else ga S (t + 6) j := fun j => by
    rw [A]
    by_cases z : j = rWd D.1
    · rw [if_pos ⟨rfl, z⟩, if_pos z]
    · rw [if_neg (fun y => z y.2), if_neg (by omega), if_neg (by omega), if_neg (by omega), if_neg z]
  have B : ∀ i j, gb S6 i j = if i = t + 7 ∧ j = rWd D.1 then lN (enc 32 (nmT tp (nxT tp q))) else gb S i j := fun i j => by
    rw [K4.2.2.2.1, K3.2.2.2.1, K2.2.2.2.1, K1.2.2.2.1, f2.2.2.2.2, gb_sb, f1.2.2.2.2]
  have e3 : gi S6 t 3 + 1 = nI (rWd D.1 + 1) := by
    rw [G t 3 (by omega), h.1.2.1, nI_1]
  rw [e3]
  have fz : frZ (fun i => i = t) S6 (si S6 t 3 (nI (rWd D.1 + 1))) := frZ_si rfl
  refine hO _ _ _ (pre _ ((enB_O o1).trans ((enB_O o2).trans ((enB_O o3).trans (enB_O o4))))) ⟨frF_of (z6.tr (fz.le (fun i hi => Or.inr (by unfold dwC; omega)))), ⟨⟨?_, ?_, ?_, ?_, ?_⟩, fun j hj => ?_, fun w hw => ?_, fun j w hj hw => ?_, fun v hv => ?_⟩, ?_, t6'.keptZ fz (by omega) (by omega), l6, by omega, ?_, ok_addD ok (by omega) o1.2.2.2 o2.2.2.2 o3.2.2.2 o4.2.2.2 hn⟩
  · rw [gi_si, if_neg (by omega), G t 0 (by omega)]; exact h.1.1
  · rw [gi_si, if_pos ⟨rfl, rfl⟩]; rfl
  · rw [gi_si, if_neg (by omega), G t 12 (by omega)]; exact h.1.2.2.1
  · rw [gi_si, if_neg (by omega), G t 11 (by omega)]; exact h.1.2.2.2.1
  · rw [gi_si, if_neg (by omega), G t 13 (by omega)]; exact h.1.2.2.2.2
  · rw [ga_si, gb_si, A0 (t + 1) (by omega), B, if_neg (by omega)]
    exact h.2.1 j hj
  · have hw : w < rWd D.1 + 1 := hw
    show _ = nI (if w = rWd D.1 then _ else rFd D.1 w) ∧ _ = nI (if w = rWd D.1 then _ else rWe D.1 w) ∧ _ = nI (if w = rWd D.1 then _ else rGo D.1 w) ∧ _ = nI (if w = rWd D.1 then _ else rLe D.1 w) ∧ _ = lN (enc 32 (if w = rWd D.1 then _ else rNm D.1 w))
    rw [ga_si, ga_si, ga_si, ga_si, gb_si, A3, A4, A5, A6, B]
    by_cases z : w = rWd D.1
    · exact ⟨by rw [if_pos z, if_pos z], by rw [if_pos z, if_pos z], by rw [if_pos z, if_pos z], by rw [if_pos z, if_pos z], by rw [if_pos ⟨rfl, z⟩, if_pos z]⟩
    · simp only [if_neg z]
      rw [if_neg (fun y => z y.2)]
      exact h.2.2.1 w (by omega)
  · rw [ga_si, A0 (t + 8) (by omega)]
    exact h.2.2.2.1 j w hj hw
  · rw [ga_si, A0 (t + 9) (by omega)]
    obtain ⟨x, x1, x2⟩ := h.2.2.2.2 v hv
    exact ⟨x, clB_addD ok x1, x2⟩
  · have f5 : frZ (fun i => i ≤ t + 9) S S6 := ((((((f1.Z.le (fun i (q : i = 1) => by omega)).tr (fb.le (fun i (q : i = t + 7) => by omega))).tr (f2.Z.le (fun i (q : i = 1) => by omega))).tr (K1.2.2.2.2.le (fun i (q : i = 1 ∨ i = t + 3) => by omega))).tr (K2.2.2.2.2.le (fun i (q : i = 1 ∨ i = t + 4) => by omega))).tr (K3.2.2.2.2.le (fun i (q : i = 1 ∨ i = t + 5) => by omega))).tr (K4.2.2.2.2.le (fun i (q : i = 1 ∨ i = t + 6) => by omega))
    exact g.kept hT (f5.tr (fz.le (fun i (q : i = t) => by omega))) (fun i hi (q : i ≤ t + 9) => by omega) (by omega) rfl rfl
  · rw [gi_si, if_neg (by omega), K4.2.1, K3.2.1, K2.2.1, K1.2.1, f2.1 1 7 (by omega), gi_sb, f1.1 1 7 (by omega)]
theorem M_word (ht : okT tp) (ok : okDr D) (hl : plT tp q) (hq0 : srT tp q ≠ 0) : mL tp 26 [] D q (wdF tp D q) := by
  intro d Q S c h hs hc hE h1 h0
  have hwd := ok.1.2.1
  have n1 := nx_gt (lt_sr hl hq0)
  have e5 : (12 : Int32) + ga S 1002 (5 : Int32).toNatClampNeg = nI (12 + rWd D.1) := by
    rw [c5, h.1.2.1]
    exact nI_add 12 _
  refine mM_readsWord ⟨vin (by decide), ?_⟩
  rw [e5, show nI (12 + rWd D.1) = (24 : Int32) ↔ rWd D.1 = 12 from (nI_eq (a := 12 + rWd D.1) (b := 24) (by omega) (by decide)).trans (by omega)]
  refine ⟨fun c5' => ?_, fun c5' => wM_fail hs ⟨Or.inl rfl, hE _ _ (by unfold wdF; rw [cI_t c5']) (frU_9 frU.rf).1 (frU_9 frU.rf).2⟩⟩
  have l1 := plT_nx hl
  have l2 : plT tp (nx2 tp q) := plT_nx l1
  refine wM_nx ht hs hl (fun S1 f1 t1 => ?_)
  show aWM (d + 5) 23 [.ref 1000] S1 _
  refine wM_needsNew ht ok (h.tk f1) t1 l1 (fun e nt S2 f2 t2 w2 => ⟨fun z => absurd z (by decide), fun _ => ?_⟩) (fun e tt => ⟨fun _ => ⟨Or.inl rfl, hE _ _ (by unfold wdF; rw [cI_f c5', cI_t e, cI_t tt]) (frU_9 (frU_tk f1)).1 (frU_9 (frU_tk f1)).2⟩, fun q => absurd rfl q⟩) (fun e => ⟨fun _ => ⟨Or.inl rfl, hE _ _ (by unfold wdF; rw [cI_f c5', cI_f e]) (frU_9 (frU_tk f1)).1 (frU_9 (frU_tk f1)).2⟩, fun q => absurd rfl q⟩)
  have n2 : nxT tp q < nx2 tp q := nx_gt (lt_sr l1 (by omega))
  have u2 : frU S S2 := (frU_tk f1).tr (frU_nw f2)
  have d2 : dM D c S2 := (h.tk f1).nw f2
  have t2 : tkM tp (nx2 tp q) S2 := t2
  have v5 : vp_in (nI (12 + rWd D.1)) 24 := nI_in (by omega) (by decide)
  have cl5 : (nI (12 + rWd D.1)).toNatClampNeg = 12 + rWd D.1 := nI_clamp (by omega)
  have pre : ∀ o : zO, enB tp (nx2 tp q) 6 3 (fun f => enB tp (nx2 tp (nx2 tp q)) 7 9 fun we => enB tp (nx2 tp (nx2 tp (nx2 tp q))) 8 20 fun go => enB tp (nx2 tp (nx2 tp (nx2 tp (nx2 tp q)))) 9 9 fun le => .inr (addD D f we go le (nmT tp (nxT tp q)), nx2 tp (nx2 tp (nx2 tp (nx2 tp (nx2 tp q)))))) = o → wdF tp D q = o := fun o ho => by
    unfold wdF
    rw [cI_f c5', cI_t e, cI_f nt]
    exact ho
  show aWM (d + 5) 21 [.ref 1000, .long 129361, .int (nI 0), .int (nI 3)] S2 _
  refine wM_needsBoth (k := 6) ht t2 l2 (by decide) (by decide) rfl (by decide) (by decide) (fun o1 S3 f3 t3 x3 y3 => ⟨fun _ => ⟨v5, ?_⟩, fun z => absurd z (by decide)⟩) (fun v ev S' f' e' => ⟨fun z => absurd rfl z, fun _ => ⟨Or.inl rfl, hE _ _ (pre _ (enB_E ev)) (u2.tr (frU_er f')) e'⟩⟩)
  obtain ⟨m3, l3⟩ := ent_lt l2 (by decide) o1
  rw [cl5, x3]
  have u3 : frU S (sa S3 1006 (12 + rWd D.1) (nI (nvT tp (nxT tp (nx2 tp q))))) := (u2.tr (frU_nw f3)).tr (frU_sa (by unfold upA; omega))
  show aWM (d + 5) 21 [.ref 1000, .long 332864552, .int (nI 0), .int (nI 9)] _ _
  refine wM_needsBoth (k := 7) ht (tk_sa t3 (by decide)) l3 (by decide) (by decide) rfl (by decide) (by decide) (fun o2 S4 f4 t4 x4 y4 => ⟨fun _ => bM_readsWord_41 ⟨v5, ?_⟩, fun z => absurd z (by decide)⟩) (fun v ev S' f' e' => ⟨fun z => absurd rfl z, fun _ => ⟨Or.inl rfl, hE _ _ (pre _ ((enB_O o1).trans (enB_E ev))) (u3.tr (frU_er f')) e'⟩⟩)
  obtain ⟨m4, l4⟩ := ent_lt l3 (by decide) o2
  rw [cl5, x4]
  have u4 : frU S (sa S4 1007 (12 + rWd D.1) (nI (nvT tp (nxT tp (nx2 tp (nx2 tp q)))))) := (u3.tr (frU_nw f4)).tr (frU_sa (by unfold upA; omega))
  show aWM (d + 5) 21 [.ref 1000, .long 149125, .int (nI 0), .int (nI 20)] _ _
  refine wM_needsBoth (k := 8) ht (tk_sa t4 (by decide)) l4 (by decide) (by decide) rfl (by decide) (by decide) (fun o3 S5 f5 t5 x5 y5 => ⟨fun _ => ⟨v5, ?_⟩, fun z => absurd z (by decide)⟩) (fun v ev S' f' e' => ⟨fun z => absurd rfl z, fun _ => ⟨Or.inl rfl, hE _ _ (pre _ ((enB_O o1).trans ((enB_O o2).trans (enB_E ev)))) (u4.tr (frU_er f')) e'⟩⟩)
  obtain ⟨m5, l5⟩ := ent_lt l4 (by decide) o3
  rw [x5]
  have u5 : frU S (sa S5 1008 (12 + rWd D.1) (nI (nvT tp (nxT tp (nx2 tp (nx2 tp (nx2 tp q))))))) := (u4.tr (frU_nw f5)).tr (frU_sa (by unfold upA; omega))
  show aWM (d + 5) 21 [.ref 1000, .long 240023, .int (nI 0), .int (nI 9)] _ _
  refine wM_needsBoth (k := 9) ht (tk_sa t5 (by decide)) l5 (by decide) (by decide) rfl (by decide) (by decide) (fun o4 S6 f6 t6 x6 y6 => ⟨fun _ => ⟨v5, v5, v5, vin (by decide), vin (by decide), ?_⟩, fun z => absurd z (by decide)⟩) (fun v ev S' f' e' => ⟨fun z => absurd rfl z, fun _ => ⟨Or.inl rfl, hE _ _ (pre _ ((enB_O o1).trans ((enB_O o2).trans ((enB_O o3).trans (enB_E ev))))) (u5.tr (frU_er f')) e'⟩⟩)
  obtain ⟨m6, l6⟩ := ent_lt l5 (by decide) o4
  have x6 : gi S6 1000 38 = nI (nvT tp (nxT tp (nx2 tp (nx2 tp (nx2 tp (nx2 tp q)))))) := x6
  have g39 : gl S6 1000 39 = lN (enc 27 (nmT tp (nxT tp q))) := by
    rw [y6, gl_sa, y5, gl_sa, y4, gl_sa, y3]
    exact w2
  have aS : ∀ i k, ga S6 i k = if i = 1008 ∧ k = 12 + rWd D.1 then nI (nvT tp (nxT tp (nx2 tp (nx2 tp (nx2 tp q))))) else if i = 1007 ∧ k = 12 + rWd D.1 then nI (nvT tp (nxT tp (nx2 tp (nx2 tp q)))) else if i = 1006 ∧ k = 12 + rWd D.1 then nI (nvT tp (nxT tp (nx2 tp q))) else ga S2 i k := fun i k => by
    rw [f6.1 i k (fun z => z), ga_sa, f5.1 i k (fun z => z), ga_sa, f4.1 i k (fun z => z), ga_sa, f3.1 i k (fun z => z)]
    rfl
  have bS : ∀ i k, gb S6 i k = gb S2 i k := fun i k => by
    rw [f6.2.1 i k (fun z => z), gb_sa, f5.2.1 i k (fun z => z), gb_sa, f4.2.1 i k (fun z => z), gb_sa, f3.2.1 i k (fun z => z)]
  have gS : ∀ k, ¬ nwF k → gi S6 1000 k = gi S2 1000 k := fun k hk => by
    rw [f6.2.2.1 k hk, gi_sa, f5.2.2.1 k hk, gi_sa, f4.2.2.1 k hk, gi_sa, f3.2.2.1 k hk]
  obtain ⟨⟨p1, p2, p3, p4⟩, q1, q2, q3, q4, q5, q6⟩ := d2
  rw [gl_sa, gl_sa, ga_sb, ga_sa, ga_sa, c5, if_neg (by omega), if_neg (by omega), g39, aS 1002, if_neg (by omega), if_neg (by omega), if_neg (by omega), p2, nI_1, x6]
  have u6 : frU S (sa (sb (sa (sa S6 1009 (12 + rWd D.1) (nI (nvT tp (nxT tp (nx2 tp (nx2 tp (nx2 tp (nx2 tp q)))))))) 1011 (12 + rWd D.1) 0) 1004 (12 + rWd D.1) (lN (enc 27 (nmT tp (nxT tp q))))) 1002 5 (nI (rWd D.1 + 1))) := ((((u5.tr (frU_nw f6)).tr (frU_sa (by unfold upA; omega))).tr (frU_sa (by unfold upA; omega))).tr (frU_sb (by unfold upB; omega))).tr (frU_sa (by unfold upA; omega))
  have tU : tkM tp (nx2 tp (nx2 tp (nx2 tp (nx2 tp (nx2 tp q))))) (sa (sb (sa (sa S6 1009 (12 + rWd D.1) (nI (nvT tp (nxT tp (nx2 tp (nx2 tp (nx2 tp (nx2 tp q)))))))) 1011 (12 + rWd D.1) 0) 1004 (12 + rWd D.1) (lN (enc 27 (nmT tp (nxT tp q))))) 1002 5 (nI (rWd D.1 + 1))) := by
    refine tk_sa ?_ (by decide)
    have tT : tkM tp (nx2 tp (nx2 tp (nx2 tp (nx2 tp (nx2 tp q))))) (sa (sa S6 1009 (12 + rWd D.1) (nI (nvT tp (nxT tp (nx2 tp (nx2 tp (nx2 tp (nx2 tp q)))))))) 1011 (12 + rWd D.1) 0) := tk_sa (tk_sa t6 (by decide)) (by decide)
    exact tT
  have out : wdF tp D q = .inr (addD D (nvT tp (nxT tp (nx2 tp q))) (nvT tp (nxT tp (nx2 tp (nx2 tp q)))) (nvT tp (nxT tp (nx2 tp (nx2 tp (nx2 tp q))))) (nvT tp (nxT tp (nx2 tp (nx2 tp (nx2 tp (nx2 tp q)))))) (nmT tp (nxT tp q)), nx2 tp (nx2 tp (nx2 tp (nx2 tp (nx2 tp q))))) := pre _ ((enB_O o1).trans ((enB_O o2).trans ((enB_O o3).trans (enB_O o4))))
  refine wM_close ht l6 tU u6 (D := addD D (nvT tp (nxT tp (nx2 tp q))) (nvT tp (nxT tp (nx2 tp (nx2 tp q)))) (nvT tp (nxT tp (nx2 tp (nx2 tp (nx2 tp q))))) (nvT tp (nxT tp (nx2 tp (nx2 tp (nx2 tp (nx2 tp q)))))) (nmT tp (nxT tp q))) (c := c) ?_ (fun z S' y1 y2 y3 => h1 _ _ S' c out z y1 y2 (by omega) y3) (fun z S' y1 y2 => h0 _ _ S' out z y1 y2)
  have A0 : ∀ i k, i ≠ 1002 → i ≠ 1006 → i ≠ 1007 → i ≠ 1008 → i ≠ 1009 → i ≠ 1011 → ga (sa (sb (sa (sa S6 1009 (12 + rWd D.1) (nI (nvT tp (nxT tp (nx2 tp (nx2 tp (nx2 tp (nx2 tp q)))))))) 1011 (12 + rWd D.1) 0) 1004 (12 + rWd D.1) (lN (enc 27 (nmT tp (nxT tp q))))) 1002 5 (nI (rWd D.1 + 1))) i k = ga S2 i k := fun i k n2 n6 n7 n8 n9 n11 => by
    rw [ga_sa, if_neg (fun z => n2 z.1), ga_sb, ga_sa, if_neg (fun z => n11 z.1), ga_sa, if_neg (fun z => n9 z.1), aS, if_neg (fun z => n8 z.1), if_neg (fun z => n7 z.1), if_neg (fun z => n6 z.1)]
  have AN : ∀ k, k ≠ 5 → ga (sa (sb (sa (sa S6 1009 (12 + rWd D.1) (nI (nvT tp (nxT tp (nx2 tp (nx2 tp (nx2 tp (nx2 tp q)))))))) 1011 (12 + rWd D.1) 0) 1004 (12 + rWd D.1) (lN (enc 27 (nmT tp (nxT tp q))))) 1002 5 (nI (rWd D.1 + 1))) 1002 k = ga S2 1002 k := fun k n5 => by
    rw [ga_sa, if_neg (fun z => n5 z.2), ga_sb, ga_sa, if_neg (by omega), ga_sa, if_neg (by omega), aS, if_neg (by omega), if_neg (by omega), if_neg (by omega)]
  refine ⟨⟨?_, ?_, ?_, ?_⟩, fun j hj => ⟨?_, ?_, fun w hw => ?_⟩, fun w hw => ⟨?_, ?_, ?_, ?_, ?_, ?_⟩, q3.kept (fun i _ _ k => A0 i k (by omega) (by omega) (by omega) (by omega) (by omega) (by omega)), q4.kept (fun i _ _ k => A0 i k (by omega) (by omega) (by omega) (by omega) (by omega) (by omega)), ?_, ?_⟩
  · rw [AN 4 (by decide)]; exact p1
  · rw [ga_sa, if_pos ⟨rfl, rfl⟩]; rfl
  · rw [AN 6 (by decide)]; exact p3
  · rw [AN 7 (by decide)]; exact p4
  · rw [A0 1005 _ (by decide) (by decide) (by decide) (by decide) (by decide) (by decide)]
    exact (q1 j hj).1
  · rw [gb_sa, gb_sb, if_neg (by omega), gb_sa, gb_sa, bS]
    exact (q1 j hj).2.1
  · rw [A0 1010 _ (by decide) (by decide) (by decide) (by decide) (by decide) (by decide)]
    exact (q1 j hj).2.2 w hw
  · have hw : w < rWd D.1 + 1 := hw
    show _ = nI (if w = rWd D.1 then _ else rFd D.1 w)
    rw [ga_sa, if_neg (by omega), ga_sb, ga_sa, if_neg (by omega), ga_sa, if_neg (by omega), aS, if_neg (by omega), if_neg (by omega)]
    by_cases z : w = rWd D.1
    · rw [if_pos ⟨rfl, by omega⟩, if_pos z]
    · rw [if_neg (by omega), if_neg z]
      exact (q2 w (by omega)).1
  · have hw : w < rWd D.1 + 1 := hw
    show _ = nI (if w = rWd D.1 then _ else rWe D.1 w)
    rw [ga_sa, if_neg (by omega), ga_sb, ga_sa, if_neg (by omega), ga_sa, if_neg (by omega), aS, if_neg (by omega)]
    by_cases z : w = rWd D.1
    · rw [if_pos ⟨rfl, by omega⟩, if_pos z]
    · rw [if_neg (by omega), if_neg (by omega), if_neg z]
      exact (q2 w (by omega)).2.1
  · have hw : w < rWd D.1 + 1 := hw
    show _ = nI (if w = rWd D.1 then _ else rGo D.1 w)
    rw [ga_sa, if_neg (by omega), ga_sb, ga_sa, if_neg (by omega), ga_sa, if_neg (by omega), aS]
    by_cases z : w = rWd D.1
    · rw [if_pos ⟨rfl, by omega⟩, if_pos z]
    · rw [if_neg (by omega), if_neg (by omega), if_neg (by omega), if_neg z]
      exact (q2 w (by omega)).2.2.1
  · have hw : w < rWd D.1 + 1 := hw
    show _ = nI (if w = rWd D.1 then _ else rLe D.1 w)
    rw [ga_sa, if_neg (by omega), ga_sb, ga_sa, if_neg (by omega), ga_sa]
    by_cases z : w = rWd D.1
    · rw [if_pos ⟨rfl, by omega⟩, if_pos z]
    · rw [if_neg (by omega), aS, if_neg (by omega), if_neg (by omega), if_neg (by omega), if_neg z]
      exact (q2 w (by omega)).2.2.2.1
  · have hw : w < rWd D.1 + 1 := hw
    show _ = lN (enc 27 (if w = rWd D.1 then _ else rNm D.1 w))
    rw [gb_sa, gb_sb]
    by_cases z : w = rWd D.1
    · rw [if_pos ⟨rfl, by omega⟩, if_pos z]
    · rw [if_neg (by omega), if_neg z, gb_sa, gb_sa, bS]
      exact (q2 w (by omega)).2.2.2.2.1
  · have hw : w < rWd D.1 + 1 := hw
    rw [ga_sa, if_neg (by omega), ga_sb, ga_sa]
    by_cases z : w = rWd D.1
    · rw [if_pos ⟨rfl, by omega⟩, z]
      exact ⟨0, clB_new ok, rfl⟩
    · rw [if_neg (by omega), ga_sa, if_neg (by omega), aS, if_neg (by omega), if_neg (by omega), if_neg (by omega)]
      obtain ⟨x, x1, x2⟩ := (q2 w (by omega)).2.2.2.2.2
      exact ⟨x, clB_addD ok x1, x2⟩
  · rw [gi_sa, gi_sb, gi_sa, gi_sa, gS 23 (by unfold nwF tkF; omega)]; exact q5
  · rw [gi_sa, gi_sb, gi_sa, gi_sa, gS 25 (by unfold nwF tkF; omega)]; exact q6
end
