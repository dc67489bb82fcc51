/-! what was told, found; a number wanted -/
theorem bt_of {b : Bool} (h : ¬ b = false) : b = true := by
  cases b
  · exact absurd rfl h
  · rfl
noncomputable def tdB (tp : List Nat) (q n : Nat) (f : Nat → List Nat) (K : Nat → zO) : zO := cI (srT tp q = 3) (match fdN n f (nmT tp q) with
  | some k => K k
  | none => .inl (2 + 16 * nI q)) (.inl (1 + 16 * nI q))
noncomputable def nmB (tp : List Nat) (q a b : Nat) (K : Nat → zO) : zO := cI (srT tp q = 2) (cI (a ≤ nvT tp q ∧ nvT tp q ≤ b) (K (nvT tp q)) (.inl (4 + 16 * nI q))) (.inl (1 + 16 * nI q))
section
variable {tp : List Nat} {q n a b k : Nat} {f : Nat → List Nat} {K : Nat → zO}
theorem tdB_n (h : ¬ srT tp q = 3) : tdB tp q n f K = .inl (1 + 16 * nI q) := by
  unfold tdB
  rw [cI_f h]
theorem tdB_0 (h : srT tp q = 3) (h2 : fdN n f (nmT tp q) = none) : tdB tp q n f K = .inl (2 + 16 * nI q) := by
  unfold tdB
  rw [cI_t h, h2]
theorem tdB_1 (h : srT tp q = 3) (h2 : fdN n f (nmT tp q) = some k) : tdB tp q n f K = K k := by
  unfold tdB
  rw [cI_t h, h2]
theorem nmB_n (h : ¬ srT tp q = 2) : nmB tp q a b K = .inl (1 + 16 * nI q) := by
  unfold nmB
  rw [cI_f h]
theorem nmB_4 (h : srT tp q = 2) (h2 : ¬ (a ≤ nvT tp q ∧ nvT tp q ≤ b)) : nmB tp q a b K = .inl (4 + 16 * nI q) := by
  unfold nmB
  rw [cI_t h, cI_f h2]
theorem nmB_1 (h : srT tp q = 2) (h2 : a ≤ nvT tp q) (h3 : nvT tp q ≤ b) : nmB tp q a b K = K (nvT tp q) := by
  unfold nmB
  rw [cI_t h, cI_t ⟨h2, h3⟩]
end
noncomputable def lkF (tp : List Nat) (D : zD) (q : Nat) : zO := tdB tp (nxT tp q) (rWr D.1) D.2.1 fun a => tdB tp (nx2 tp q) (rWd D.1) (rNm D.1) fun b => cI (rLi D.1 a b = 0) (nmB tp (nxT tp (nx2 tp q)) 1 9 fun n => .inr (setL D a b n, nx2 tp (nx2 tp q))) (.inl (3 + 16 * nI (nx2 tp q)))
noncomputable def clF (tp : List Nat) (D : zD) (q : Nat) : zO := tdB tp (nxT tp q) (rWd D.1) (rNm D.1) fun a => tdB tp (nx2 tp q) (rWd D.1) (rNm D.1) fun b => cI (a = b ∨ rCl D.1 a b = true) (.inl (3 + 16 * nI (nx2 tp q))) (.inr (setC D a b, nxT tp (nx2 tp q)))
noncomputable def foF (tp : List Nat) (D : zD) (q : Nat) : zO := cI (D.2.2 = true) (.inl (3 + 16 * nI q)) (nmB tp (nxT tp q) 2 4 fun n => .inr (setF D n, nx2 tp q))
theorem clB_or {D : zD} {a b v x : Nat} (hb : b < rWd D.1) (h12 : rWd D.1 ≤ 12) (h : clB D.1 v x) (hv : v = a) (hne : a ≠ b) : clB (setC D a b).1 v (x ||| 2 ^ b) := by
  refine ⟨Nat.or_lt_two_pow (n := 12) h.1 (Nat.pow_lt_pow_right (by decide) (by omega)), fun w => ?_⟩
  show _ = (decide (w < rWd D.1) && (rCl D.1 v w || decide ((v = a ∧ w = b) ∨ (v = b ∧ w = a))))
  rw [Nat.testBit_or, h.2 w, Nat.testBit_two_pow]
  by_cases c : w = b
  · subst c
    rw [decide_eq_true rfl, decide_eq_true hb, decide_eq_true (Or.inl ⟨hv, rfl⟩), Bool.or_true, Bool.or_true]
    rfl
  · rw [decide_eq_false (show ¬ b = w from fun z => c z.symm), decide_eq_false (show ¬ ((v = a ∧ w = b) ∨ (v = b ∧ w = a)) by omega), Bool.or_false, Bool.or_false]
theorem clB_or2 {D : zD} {a b v x : Nat} (ha : a < rWd D.1) (h12 : rWd D.1 ≤ 12) (h : clB D.1 v x) (hv : v = b) (hne : a ≠ b) : clB (setC D a b).1 v (x ||| 2 ^ a) := by
  refine ⟨Nat.or_lt_two_pow (n := 12) h.1 (Nat.pow_lt_pow_right (by decide) (by omega)), fun w => ?_⟩
  show _ = (decide (w < rWd D.1) && (rCl D.1 v w || decide ((v = a ∧ w = b) ∨ (v = b ∧ w = a))))
  rw [Nat.testBit_or, h.2 w, Nat.testBit_two_pow]
  by_cases c : w = a
  · subst c
    rw [decide_eq_true rfl, decide_eq_true ha, decide_eq_true (Or.inr ⟨hv, rfl⟩), Bool.or_true, Bool.or_true]
    rfl
  · rw [decide_eq_false (show ¬ a = w from fun z => c z.symm), decide_eq_false (show ¬ ((v = a ∧ w = b) ∨ (v = b ∧ w = a)) by omega), Bool.or_false, Bool.or_false]
theorem clB_no {D : zD} {a b v x : Nat} (h : clB D.1 v x) (hv : v ≠ a) (hv2 : v ≠ b) : clB (setC D a b).1 v x := by
  refine ⟨h.1, fun w => ?_⟩
  show _ = (decide (w < rWd D.1) && (rCl D.1 v w || decide ((v = a ∧ w = b) ∨ (v = b ∧ w = a))))
  rw [h.2 w, decide_eq_false (show ¬ ((v = a ∧ w = b) ∨ (v = b ∧ w = a)) by omega), Bool.or_false]
section
variable {d m : Nat} {Q : Value → aS → Prop} {S : aS} {tp : List Nat} {q c t : Nat} {D : zD}
theorem X_fd {A : Int32 → aS → Prop} {j n : Nat} {f : Nat → List Nat} (hs : tkX tp q S) (hfind : srT tp q = 3 → ∀ Q : Value → aS → Prop, (∀ k, k < n → f k = nmT tp q → (∀ i, i < k → f i ≠ nmT tp q) → Q (.int (nI k)) S) → ((∀ k, k < n → f k ≠ nmT tp q) → Q (.int (-1)) S) → aWX (d + 2) j [.ref t, .long (lN (enc 32 (nmT tp q)))] S Q) (h1 : srT tp q = 3 → ∀ k, k < n → fdN n f (nmT tp q) = some k → A (nI k) S) (h0 : (srT tp q = 3 → fdN n f (nmT tp q) = none) → A (-1) S) : aWX (d + 2) 107 [.ref 1, .ref 2003] S (fun v3 S4 => aI v3 (fun x5 => ((x5 = 0 → A (-1) S4) ∧ (¬ x5 = 0 → aWX (d + 2) j [.ref t, .long (gl S4 1 6)] S4 (fun v6 S7 => aI v6 (fun x8 => A x8 S7)))))) := by
  refine wX_is (k := 3) hs (by decide) ?_
  by_cases e : srT tp q = 3
  · rw [decide_eq_true e]
    refine ⟨fun z => absurd z (by decide), fun _ => ?_⟩
    rw [hs.2.2.2.2.2 e]
    exact hfind e _ (fun k hk ek hj => h1 e k hk (fdN_some hk ek hj)) (fun hn => h0 (fun _ => fdN_none hn))
  · rw [decide_eq_false e]
    exact ⟨fun _ => h0 (fun z => absurd z e), fun z => absurd rfl z⟩
theorem wX_setFond {a b : Nat} {v : Int32} (hT : isT t) (ok : okDr D) (h : rlX D.1 S t) (ha : a < rWr D.1) (hb : b < rWd D.1) (hx : Q .null (sa S (t + 8) (12 * a + b) v)) : aWX (d + 2) 63 [.ref t, .int (nI a), .int (nI b), .int v] S Q := by
  have ht := hT.re
  have h5 := ok.1.1
  have h12 := ok.1.2.1
  obtain ⟨⟨-, -, -, -, -, -, -, a9, -⟩, -⟩ := art_t hT
  refine mX_Realm_setFondness (gK_ok ht.1 (wX_hasWriter ok.1 ht h ?_))
  rw [idx_some (by omega) ha]
  refine ⟨fun q => absurd q bI_some, fun _ => wX_hasWord ok.1 ht h ?_⟩
  rw [idx_some (by omega) hb]
  have e3 : nI a * 12 + nI b = nI (12 * a + b) := by
    rw [show (12 : Int32) = nI 12 from rfl, nI_mulN, nI_add, Nat.mul_comm]
  rw [e3, nI_clamp (by omega)]
  refine ⟨fun q => absurd q bI_some, fun _ => gK_ok ht.1 (gK_ok ht.2.2.2.2.2.2.1.1 ⟨by rw [ht.2.2.2.2.2.2.1.2]; exact nI_in (by omega) (by decide), ?_⟩)⟩
  rw [a9]
  exact hx
theorem wX_setClash {a b ca cb : Nat} (hT : isT t) (ok : okDr D) (h : rlX D.1 S t) (ha : a < rWd D.1) (hb : b < rWd D.1) (hne : a ≠ b) (ea : ga S (t + 9) a = nI ca) (eb : ga S (t + 9) b = nI cb) (hx : Q .null (si (sa (sa S (t + 9) a (nI (ca ||| 2 ^ b))) (t + 9) b (nI (cb ||| 2 ^ a))) t 11 (nI (rPa D.1 + 1)))) : aWX (d + 2) 67 [.ref t, .int (nI a), .int (nI b)] S Q := by
  have ht := hT.re
  have h12 := ok.1.2.1
  obtain ⟨⟨-, -, -, -, -, -, -, -, a10⟩, -⟩ := art_t hT
  refine mX_Realm_setClash (gK_ok ht.1 (wX_hasWord ok.1 ht h ?_))
  rw [idx_some (by omega) ha]
  refine ⟨fun q => absurd q bI_some, fun _ => wX_hasWord ok.1 ht h ?_⟩
  rw [idx_some (by omega) hb]
  have va : vp_in (nI a) (aln (art t 10)) := by
    rw [ht.2.2.2.2.2.2.2.2]
    exact nI_in (by omega) (by decide)
  have vb : vp_in (nI b) (aln (art t 10)) := by
    rw [ht.2.2.2.2.2.2.2.2]
    exact nI_in (by omega) (by decide)
  have kk := ht.2.2.2.2.2.2.2.1
  refine ⟨fun q => absurd q bI_some, fun _ => gK_ok ht.1 (gK_ok kk ⟨va, gK_ok kk ⟨va, gK_ok ht.1 (gK_ok kk ⟨vb, gK_ok kk ⟨vb, gK_ok ht.1 (gK_ok ht.1 ?_)⟩⟩)⟩⟩)⟩
  rw [nI_clamp (show a < 2 ^ 31 by omega), nI_clamp (show b < 2 ^ 31 by omega), a10, (smod12 a (by omega)).2, (smod12 b (by omega)).2, ea, nI_orN, gi_sa, gi_sa, h.2.2.2.1, nI_1, ga_sa, if_neg (fun z => hne z.2.symm), eb, nI_orN]
  exact hx
theorem X_likes (ht : okT tp) (hT : isT t) (ok : okDr D) (h : dwX D t S) (g : lwX D q t S) (hs : tkX tp q S) (hl : plT tp q) (hq0 : srT tp q ≠ 0) (hE : ∀ v S', lkF tp D q = .inl v → xE t S S' v → Q (.int 0) S') (hO : ∀ D' q1 S', lkF tp D q = .inr (D', q1) → xO tp t q D' q1 S S' → Q (.int 1) S') : aWX (m + 40) 46 [.ref 3, .ref t] S Q := by
  have h5 := ok.1.1
  have h12 := ok.1.2.1
  have t6 := hT.six.1
  have n1 := nx_gt (lt_sr hl hq0)
  have l1 := plT_nx hl
  have l2 : plT tp (nx2 tp q) := plT_nx l1
  have l3 := plT_nx l2
  refine mX_Reader_readLikes (wX_nx ht hs hl (fun S1 f1 t1 => ?_))
  have s1 : dwX D t S1 := h.kept f1.Z (fun i _ _ (q : i = 1) => by omega)
  have g1 : lwX D (nxT tp q) t S1 := g.kept hT f1.Z (fun i _ (q : i = 1) => by omega) (by omega) rfl rfl
  have dx1 := dX_of hT ok s1 g1
  have z1 : frZ (drC t) S S1 := frZ_K f1
  show aWX (m + 39) 107 [.ref 1, .ref 2003] S1 _
  refine X_fd (d := m + 37) (A := fun x T => aBX (m + 39) 46 Q 15 [some (.ref 3), some (.ref t), none, none] [.int x] T) (n := rWr D.1) (f := D.2.1) t1 (fun e Q' k1 k0 => wX_findWriter hT ok dx1 (nm_3 ht l1 e) k1 k0) (fun e a ha fa => ?_) (fun hb => bX_Reader_readLikes_15 ⟨fun z => absurd rfl z, fun _ => wX_failAtName t1 (fun e => ⟨Or.inl rfl, hE _ _ (by unfold lkF; rw [tdB_0 e (hb e)]) (xE_fail z1)⟩) (fun e => ⟨Or.inl rfl, hE _ _ (by unfold lkF; rw [tdB_n e]) (xE_fail z1)⟩)⟩)
  have n2 : nxT tp q < nx2 tp q := nx_gt (lt_sr l1 (by omega))
  refine bX_Reader_readLikes_15 ⟨fun _ => wX_nx ht t1 l1 (fun S2 f2 t2 => ?_), fun z => absurd z.symm (m1_ne (by omega))⟩
  have t2 : tkX tp (nx2 tp q) S2 := t2
  have s2 : dwX D t S2 := s1.kept f2.Z (fun i _ _ (q : i = 1) => by omega)
  have g2 : lwX D (nx2 tp q) t S2 := g1.kept hT f2.Z (fun i _ (q : i = 1) => by omega) (by omega) rfl rfl
  have dx2 := dX_of hT ok s2 g2
  have z2 : frZ (drC t) S S2 := z1.tr (frZ_K f2)
  show aWX (m + 39) 107 [.ref 1, .ref 2003] S2 _
  refine X_fd (d := m + 37) (A := fun x T => aBX (m + 39) 46 Q 37 [some (.ref 3), some (.ref t), some (.int (nI a)), none] [.int x] T) (n := rWd D.1) (f := rNm D.1) t2 (fun e2 Q' k1 k0 => wX_findWord hT ok.1 ok.2.1 dx2.1 (nm_3 ht l2 e2) k1 k0) (fun e2 b hb fb => ?_) (fun hb => bX_Reader_readLikes_37 ⟨fun z => absurd rfl z, fun _ => wX_failAtName t2 (fun e2 => ⟨Or.inl rfl, hE _ _ (by unfold lkF; rw [tdB_1 e fa, tdB_0 e2 (hb e2)]) (xE_fail z2)⟩) (fun e2 => ⟨Or.inl rfl, hE _ _ (by unfold lkF; rw [tdB_1 e fa, tdB_n e2]) (xE_fail z2)⟩)⟩)
  have n3 := nx_gt (lt_sr l2 (by omega))
  have li := ok.1.2.2.2.2.2.2 a b ha hb
  refine bX_Reader_readLikes_37 ⟨fun _ => wX_fondness (d := m + 37) ok.1 hT.re dx2.1.1 ?_, fun z => absurd z.symm (m1_ne (by omega))⟩
  have ef : pFond D.1 (nI a) (nI b) = nI (rLi D.1 a b) := by
    unfold pFond
    rw [idx_some (by omega) ha, idx_some (by omega) hb]
  rw [ef]
  show (nI (rLi D.1 a b) = 0 → _) ∧ (¬ nI (rLi D.1 a b) = 0 → _)
  rw [nI_eq0 (by omega)]
  refine ⟨fun c0 => wX_nx ht t2 l2 (fun S3 f3 t3 => ?_), fun c0 => wX_fail t2 ⟨Or.inl rfl, hE _ _ (by unfold lkF; rw [tdB_1 e fa, tdB_1 e2 fb, cI_f c0]) (xE_fail z2)⟩⟩
  have s3 : dwX D t S3 := s2.kept f3.Z (fun i _ _ (q : i = 1) => by omega)
  have g3 : lwX D (nxT tp (nx2 tp q)) t S3 := g2.kept hT f3.Z (fun i _ (q : i = 1) => by omega) (by omega) rfl rfl
  have z3 : frZ (drC t) S S3 := z2.tr (frZ_K f3)
  show aWX (m + 39) 54 [.ref 3, .int (nI 1), .int (nI 9)] S3 _
  refine wX_isNumber ht t3 l3 (by decide) (by decide) (fun c1 c2 c3 => ⟨fun _ => ?_, fun z => absurd z (by decide)⟩) (fun c1 c2 => ⟨fun z => absurd rfl z, fun _ => ⟨Or.inl rfl, hE _ _ (by unfold lkF; rw [tdB_1 e fa, tdB_1 e2 fb, cI_t c0, nmB_4 c1 c2]) (xE_fail z3)⟩⟩) (fun c1 => ⟨fun z => absurd rfl z, fun _ => ⟨Or.inl rfl, hE _ _ (by unfold lkF; rw [tdB_1 e fa, tdB_1 e2 fb, cI_t c0, nmB_n c1]) (xE_fail z3)⟩⟩)
  have n4 : nxT tp (nx2 tp q) < nx2 tp (nx2 tp q) := nx_gt (lt_sr l3 (by omega))
  rw [t3.2.2.2.2.1 c1]
  refine wX_setFond (d := m + 37) hT ok (dX_of hT ok s3 g3).1.1 ha hb ?_
  have fz : frZ (fun i => i = t + 8) S3 (sa S3 (t + 8) (12 * a + b) (nI (nvT tp (nxT tp (nx2 tp q))))) := frZ_sa rfl
  refine wX_nx ht (t3.keptZ fz (by omega) (by omega)) l3 (fun S4 f4 t4 => ⟨Or.inr rfl, ?_⟩)
  have f5 : frZ (fun i => i = 1 ∨ i = t + 8) S3 S4 := (fz.le (fun i hi => Or.inr hi)).tr (f4.Z.le (fun i hi => Or.inl hi))
  refine hO (setL D a b (nvT tp (nxT tp (nx2 tp q)))) (nx2 tp (nx2 tp q)) S4 (by unfold lkF; rw [tdB_1 e fa, tdB_1 e2 fb, cI_t c0, nmB_1 c1 c2 c3]) ⟨frF_of (z3.tr (f5.le (fun i hi => hi.elim Or.inl (fun z => Or.inr (by unfold dwC; omega))))), ⟨?_, fun j hj => ?_, fun w hw => ?_, fun j w hj hw => ?_, fun v hv => ?_⟩, ?_, t4, plT_nx l3, by omega, ?_, ok_setL ok ha hb c3⟩
  · have gg : ∀ k, gi S4 t k = gi S3 t k := fun k => (f5 t k (by omega)).1
    rw [gg, gg, gg, gg, gg]
    exact s3.1
  · rw [(f5 (t + 1) j (by omega)).2.1, (f5 (t + 2) j (by omega)).2.2.2.1]
    exact s3.2.1 j hj
  · rw [(f5 (t + 3) w (by omega)).2.1, (f5 (t + 4) w (by omega)).2.1, (f5 (t + 5) w (by omega)).2.1, (f5 (t + 6) w (by omega)).2.1, (f5 (t + 7) w (by omega)).2.2.2.1]
    exact s3.2.2.1 w hw
  · show _ = nI (if j = a ∧ w = b then _ else rLi D.1 j w)
    rw [f4.2.2.2.1, ga_sa]
    by_cases z : j = a ∧ w = b
    · rw [if_pos ⟨rfl, by omega⟩, if_pos z]
    · rw [if_neg (by omega), if_neg z]
      exact s3.2.2.2.1 j w hj hw
  · rw [(f5 (t + 9) v (by omega)).2.1]
    exact s3.2.2.2.2 v hv
  · exact g3.kept hT f5 (fun i hi => by omega) (by omega) rfl rfl
  · rw [f4.1 1 7 (by omega), gi_sa, f3.1 1 7 (by omega), f2.1 1 7 (by omega), f1.1 1 7 (by omega)]
theorem X_clash (ht : okT tp) (hT : isT t) (ok : okDr D) (h : dwX D t S) (g : lwX D q t S) (hs : tkX tp q S) (hl : plT tp q) (hq0 : srT tp q ≠ 0) (hE : ∀ v S', clF tp D q = .inl v → xE t S S' v → Q (.int 0) S') (hO : ∀ D' q1 S', clF tp D q = .inr (D', q1) → xO tp t q D' q1 S S' → Q (.int 1) S') : aWX (m + 40) 47 [.ref 3, .ref t] S Q := by
  have h5 := ok.1.1
  have h12 := ok.1.2.1
  have t6 := hT.six.1
  have n1 := nx_gt (lt_sr hl hq0)
  have l1 := plT_nx hl
  have l2 : plT tp (nx2 tp q) := plT_nx l1
  refine mX_Reader_readClash (wX_nx ht hs hl (fun S1 f1 t1 => ?_))
  have s1 : dwX D t S1 := h.kept f1.Z (fun i _ _ (q : i = 1) => by omega)
  have g1 : lwX D (nxT tp q) t S1 := g.kept hT f1.Z (fun i _ (q : i = 1) => by omega) (by omega) rfl rfl
  have dx1 := dX_of hT ok s1 g1
  have z1 : frZ (drC t) S S1 := frZ_K f1
  show aWX (m + 39) 107 [.ref 1, .ref 2003] S1 _
  refine X_fd (d := m + 37) (A := fun x T => aBX (m + 39) 47 Q 15 [some (.ref 3), some (.ref t), none, none] [.int x] T) (n := rWd D.1) (f := rNm D.1) t1 (fun e Q' k1 k0 => wX_findWord hT ok.1 ok.2.1 dx1.1 (nm_3 ht l1 e) k1 k0) (fun e a ha fa => ?_) (fun hb => bX_Reader_readClash_15 ⟨fun z => absurd rfl z, fun _ => wX_failAtName t1 (fun e => ⟨Or.inl rfl, hE _ _ (by unfold clF; rw [tdB_0 e (hb e)]) (xE_fail z1)⟩) (fun e => ⟨Or.inl rfl, hE _ _ (by unfold clF; rw [tdB_n e]) (xE_fail z1)⟩)⟩)
  have n2 : nxT tp q < nx2 tp q := nx_gt (lt_sr l1 (by omega))
  refine bX_Reader_readClash_15 ⟨fun _ => wX_nx ht t1 l1 (fun S2 f2 t2 => ?_), fun z => absurd z.symm (m1_ne (by omega))⟩
  have t2 : tkX tp (nx2 tp q) S2 := t2
  have s2 : dwX D t S2 := s1.kept f2.Z (fun i _ _ (q : i = 1) => by omega)
  have g2 : lwX D (nx2 tp q) t S2 := g1.kept hT f2.Z (fun i _ (q : i = 1) => by omega) (by omega) rfl rfl
  have dx2 := dX_of hT ok s2 g2
  have z2 : frZ (drC t) S S2 := z1.tr (frZ_K f2)
  show aWX (m + 39) 107 [.ref 1, .ref 2003] S2 _
  refine X_fd (d := m + 37) (A := fun x T => aBX (m + 39) 47 Q 37 [some (.ref 3), some (.ref t), some (.int (nI a)), none] [.int x] T) (n := rWd D.1) (f := rNm D.1) t2 (fun e2 Q' k1 k0 => wX_findWord hT ok.1 ok.2.1 dx2.1 (nm_3 ht l2 e2) k1 k0) (fun e2 b hb fb => ?_) (fun hb => bX_Reader_readClash_37 ⟨fun z => absurd rfl z, fun _ => wX_failAtName t2 (fun e2 => ⟨Or.inl rfl, hE _ _ (by unfold clF; rw [tdB_1 e fa, tdB_0 e2 (hb e2)]) (xE_fail z2)⟩) (fun e2 => ⟨Or.inl rfl, hE _ _ (by unfold clF; rw [tdB_1 e fa, tdB_n e2]) (xE_fail z2)⟩)⟩)
  have n3 := nx_gt (lt_sr l2 (by omega))
  refine bX_Reader_readClash_37 ⟨fun _ => ?_, fun z => absurd z.symm (m1_ne (by omega))⟩
  rw [nI_eq (show a < 2 ^ 31 by omega) (show b < 2 ^ 31 by omega)]
  refine ⟨fun c0 => wX_fail t2 ⟨Or.inl rfl, hE _ _ (by unfold clF; rw [tdB_1 e fa, tdB_1 e2 fb, cI_t (Or.inl c0)]) (xE_fail z2)⟩, fun c0 => wX_doClash (d := m + 37) ok.1 hT dx2.1 ha hb ?_⟩
  cases hcl : rCl D.1 a b with
  | true => exact ⟨fun z => absurd z (by decide), fun _ => wX_fail t2 ⟨Or.inl rfl, hE _ _ (by unfold clF; rw [tdB_1 e fa, tdB_1 e2 fb, cI_t (Or.inr hcl)]) (xE_fail z2)⟩⟩
  | false =>
    have c1 : ¬ (a = b ∨ rCl D.1 a b = true) := fun z => z.elim c0 (fun y => by rw [hcl] at y; cases y)
    refine ⟨fun _ => ?_, fun z => absurd rfl z⟩
    obtain ⟨ca, xa, ya⟩ := s2.2.2.2.2 a (by omega)
    obtain ⟨cb, xb, yb⟩ := s2.2.2.2.2 b (by omega)
    refine wX_setClash (d := m + 37) hT ok dx2.1.1 ha hb c0 ya yb ?_
    have fz : frZ (fun i => i = t ∨ i = t + 9) S2 (si (sa (sa S2 (t + 9) a (nI (ca ||| 2 ^ b))) (t + 9) b (nI (cb ||| 2 ^ a))) t 11 (nI (rPa D.1 + 1))) := ((frZ_sa (Or.inr rfl)).tr (frZ_sa (Or.inr rfl))).tr (frZ_si (Or.inl rfl))
    refine wX_nx ht (t2.keptZ fz (by omega) (by omega)) l2 (fun S4 f4 t4 => ⟨Or.inr rfl, ?_⟩)
    have f5 : frZ (fun i => i = 1 ∨ i = t ∨ i = t + 9) S2 S4 := (fz.le (fun i hi => Or.inr hi)).tr (f4.Z.le (fun i hi => Or.inl hi))
    have G : ∀ j, j ≠ 11 → gi S4 t j = gi S2 t j := fun j hj => by
      rw [f4.1 t j (by omega), gi_si, if_neg (fun z => hj z.2), gi_sa, gi_sa]
    refine hO (setC D a b) (nxT tp (nx2 tp q)) S4 (by unfold clF; rw [tdB_1 e fa, tdB_1 e2 fb, cI_f c1]) ⟨frF_of (z2.tr (f5.le (fun i hi => hi.elim Or.inl (fun z => Or.inr (by unfold dwC; omega))))), ⟨⟨?_, ?_, ?_, ?_, ?_⟩, fun j hj => ?_, fun w hw => ?_, fun j w hj hw => ?_, fun v hv => ?_⟩, ?_, t4, plT_nx l2, by omega, ?_, ok_setC ok ha hb⟩
    · rw [G 0 (by decide)]; exact s2.1.1
    · rw [G 3 (by decide)]; exact s2.1.2.1
    · rw [G 12 (by decide)]; exact s2.1.2.2.1
    · rw [f4.1 t 11 (by omega), gi_si, if_pos ⟨rfl, rfl⟩]; rfl
    · rw [G 13 (by decide)]; exact s2.1.2.2.2.2
    · rw [(f5 (t + 1) j (by omega)).2.1, (f5 (t + 2) j (by omega)).2.2.2.1]
      exact s2.2.1 j hj
    · rw [(f5 (t + 3) w (by omega)).2.1, (f5 (t + 4) w (by omega)).2.1, (f5 (t + 5) w (by omega)).2.1, (f5 (t + 6) w (by omega)).2.1, (f5 (t + 7) w (by omega)).2.2.2.1]
      exact s2.2.2.1 w hw
    · rw [(f5 (t + 8) _ (by omega)).2.1]
      exact s2.2.2.2.1 j w hj hw
    · rw [f4.2.2.2.1, ga_si, ga_sa, ga_sa]
      by_cases z : v = b
      · rw [if_pos ⟨rfl, z⟩]
        refine ⟨cb ||| 2 ^ a, clB_or2 ha h12 (by rw [z]; exact xb) z c0, rfl⟩
      · rw [if_neg (fun y => z y.2)]
        by_cases y : v = a
        · rw [if_pos ⟨rfl, y⟩]
          exact ⟨ca ||| 2 ^ b, clB_or hb h12 (by rw [y]; exact xa) y c0, rfl⟩
        · rw [if_neg (fun x => y x.2)]
          obtain ⟨x, x1, x2⟩ := s2.2.2.2.2 v hv
          exact ⟨x, clB_no x1 y z, x2⟩
    · exact g2.kept hT f5 (fun i hi => by omega) (by omega) rfl rfl
    · rw [f4.1 1 7 (by omega), gi_si, if_neg (by omega), gi_sa, gi_sa, f2.1 1 7 (by omega), f1.1 1 7 (by omega)]
theorem X_folds (ht : okT tp) (hT : isT t) (ok : okDr D) (h : dwX D t S) (g : lwX D q t S) (hs : tkX tp q S) (hl : plT tp q) (hq0 : srT tp q ≠ 0) (hE : ∀ v S', foF tp D q = .inl v → xE t S S' v → Q (.int 0) S') (hO : ∀ D' q1 S', foF tp D q = .inr (D', q1) → xO tp t q D' q1 S S' → Q (.int 1) S') : aWX (m + 40) 48 [.ref 3, .ref t] S Q := by
  have t6 := hT.six.1
  have k0 := hT.re.1
  have n1 := nx_gt (lt_sr hl hq0)
  have l1 := plT_nx hl
  refine mX_Reader_readFolds (gK_ok k0 ?_)
  rw [h.1.2.2.2.2, gi_bT]
  refine ⟨fun c0 => ?_, fun c0 => wX_fail hs ⟨Or.inl rfl, hE _ _ (by unfold foF; rw [cI_t (bt_of c0)]) (xE_fail frZ.rf)⟩⟩
  have c0' : ¬ D.2.2 = true := fun z => by rw [c0] at z; cases z
  refine wX_nx ht hs hl (fun S1 f1 t1 => ?_)
  have s1 : dwX D t S1 := h.kept f1.Z (fun i _ _ (q : i = 1) => by omega)
  have g1 : lwX D (nxT tp q) t S1 := g.kept hT f1.Z (fun i _ (q : i = 1) => by omega) (by omega) rfl rfl
  have z1 : frZ (drC t) S S1 := frZ_K f1
  show aWX (m + 39) 54 [.ref 3, .int (nI 2), .int (nI 4)] S1 _
  refine wX_isNumber ht t1 l1 (by decide) (by decide) (fun c1 c2 c3 => ⟨fun _ => gK_ok k0 (gK_ok k0 ⟨Or.inr rfl, ?_⟩), fun z => absurd z (by decide)⟩) (fun c1 c2 => ⟨fun z => absurd rfl z, fun _ => ⟨Or.inl rfl, hE _ _ (by unfold foF; rw [cI_f c0', nmB_4 c1 c2]) (xE_fail z1)⟩⟩) (fun c1 => ⟨fun z => absurd rfl z, fun _ => ⟨Or.inl rfl, hE _ _ (by unfold foF; rw [cI_f c0', nmB_n c1]) (xE_fail z1)⟩⟩)
  have n2 : nxT tp q < nx2 tp q := nx_gt (lt_sr l1 (by omega))
  rw [t1.2.2.2.2.1 c1]
  have fz : frZ (fun i => i = t) S1 (si (si S1 t 12 (nI (nvT tp (nxT tp q)))) t 13 1) := (frZ_si (C := fun i => i = t) rfl).tr (frZ_si rfl)
  refine wX_nx ht (t1.keptZ fz (by omega) (by omega)) l1 (fun S4 f4 t4 => ⟨Or.inr rfl, ?_⟩)
  have f5 : frZ (fun i => i = 1 ∨ i = t) S1 S4 := (fz.le (fun i hi => Or.inr hi)).tr (f4.Z.le (fun i hi => Or.inl hi))
  have G : ∀ j, j ≠ 12 → j ≠ 13 → gi S4 t j = gi S1 t j := fun j hj hj2 => by
    rw [f4.1 t j (by omega), gi_si, if_neg (fun z => hj2 z.2), gi_si, if_neg (fun z => hj z.2)]
  refine hO (setF D (nvT tp (nxT tp q))) (nx2 tp q) S4 (by unfold foF; rw [cI_f c0', nmB_1 c1 c2 c3]) ⟨frF_of (z1.tr (f5.le (fun i hi => hi.elim Or.inl (fun z => Or.inr (by unfold dwC; omega))))), ⟨⟨?_, ?_, ?_, ?_, ?_⟩, fun j hj => ?_, fun w hw => ?_, fun j w hj hw => ?_, fun v hv => ?_⟩, ?_, t4, plT_nx l1, by omega, ?_, ok_setF ok c2 c3⟩
  · rw [G 0 (by decide) (by decide)]; exact s1.1.1
  · rw [G 3 (by decide) (by decide)]; exact s1.1.2.1
  · rw [f4.1 t 12 (by omega), gi_si, if_neg (by omega), gi_si, if_pos ⟨rfl, rfl⟩]; rfl
  · rw [G 11 (by decide) (by decide)]; exact s1.1.2.2.2.1
  · rw [f4.1 t 13 (by omega), gi_si, if_pos ⟨rfl, rfl⟩]; rfl
  · rw [(f5 (t + 1) j (by omega)).2.1, (f5 (t + 2) j (by omega)).2.2.2.1]
    exact s1.2.1 j hj
  · rw [(f5 (t + 3) w (by omega)).2.1, (f5 (t + 4) w (by omega)).2.1, (f5 (t + 5) w (by omega)).2.1, (f5 (t + 6) w (by omega)).2.1, (f5 (t + 7) w (by omega)).2.2.2.1]
    exact s1.2.2.1 w hw
  · rw [(f5 (t + 8) _ (by omega)).2.1]
    exact s1.2.2.2.1 j w hj hw
  · rw [(f5 (t + 9) v (by omega)).2.1]
    exact s1.2.2.2.2 v hv
  · exact g1.kept hT f5 (fun i hi => by omega) (by omega) rfl rfl
  · rw [f4.1 1 7 (by omega), gi_si, if_neg (by omega), gi_si, if_neg (by omega), f1.1 1 7 (by omega)]
end
