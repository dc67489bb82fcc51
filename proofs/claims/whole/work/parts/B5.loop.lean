/-! the lines of a realm, one after another -/
def okO (o : zO) : Prop := ∀ v, o = .inl v → v ≠ 0
theorem okO_cI {p : Prop} {a b : zO} (ha : okO a) (hb : okO b) : okO (cI p a b) := by
  by_cases h : p
  · rw [cI_t h]
    exact ha
  · rw [cI_f h]
    exact hb
theorem okO_r {x : zD × Nat} : okO (.inr x) := fun v h => by cases h
section
variable {tp : List Nat} {q : Nat} {D : zD}
theorem okO_e {k : Nat} (h1 : 1 ≤ k) (h5 : k ≤ 5) (ht : okT tp) (hl : plT tp q) : okO (.inl (nI k + 16 * nI q)) := fun v h => by
  cases h
  exact er_ne h1 h5 (Nat.le_trans hl.1 ht.1)
theorem okO_tdB {n : Nat} {f : Nat → List Nat} {K : Nat → zO} (ht : okT tp) (hl : plT tp q) (hK : ∀ k, okO (K k)) : okO (tdB tp q n f K) := by
  unfold tdB
  refine okO_cI ?_ (okO_e (k := 1) (by decide) (by decide) ht hl)
  cases fdN n f (nmT tp q) with
  | none => exact okO_e (k := 2) (by decide) (by decide) ht hl
  | some k => exact hK k
theorem okO_nmB {a b : Nat} {K : Nat → zO} (ht : okT tp) (hl : plT tp q) (hK : ∀ k, okO (K k)) : okO (nmB tp q a b K) := by
  unfold nmB
  exact okO_cI (okO_cI (hK _) (okO_e (k := 4) (by decide) (by decide) ht hl)) (okO_e (k := 1) (by decide) (by decide) ht hl)
theorem okO_enB {k b : Nat} {K : Nat → zO} (ht : okT tp) (hl : plT tp q) (hK : ∀ k, okO (K k)) : okO (enB tp q k b K) := by
  unfold enB
  exact okO_cI (okO_cI (okO_cI (hK _) (okO_e (k := 4) (by decide) (by decide) ht (plT_nx hl))) (okO_e (k := 1) (by decide) (by decide) ht (plT_nx hl))) (okO_e (k := 1) (by decide) (by decide) ht hl)
theorem plT_nx2 (hl : plT tp q) : plT tp (nx2 tp q) := plT_nx (plT_nx hl)
theorem okO_wr (ht : okT tp) (hl : plT tp q) : okO (wrF tp D q) := by
  unfold wrF
  refine okO_cI (okO_e (k := 5) (by decide) (by decide) ht hl) (okO_cI (okO_cI (okO_e (k := 3) (by decide) (by decide) ht (plT_nx hl)) ?_) (okO_e (k := 1) (by decide) (by decide) ht (plT_nx hl)))
  cases kdT tp (nxT tp (nxT tp q)) with
  | none => exact okO_e (k := 1) (by decide) (by decide) ht (plT_nx (plT_nx hl))
  | some k => exact okO_r
theorem okO_wd (ht : okT tp) (hl : plT tp q) : okO (wdF tp D q) := by
  unfold wdF
  exact okO_cI (okO_e (k := 5) (by decide) (by decide) ht hl) (okO_cI (okO_cI (okO_e (k := 3) (by decide) (by decide) ht (plT_nx hl)) (okO_enB ht (plT_nx2 hl) (fun _ => okO_enB ht (plT_nx2 (plT_nx2 hl)) (fun _ => okO_enB ht (plT_nx2 (plT_nx2 (plT_nx2 hl))) (fun _ => okO_enB ht (plT_nx2 (plT_nx2 (plT_nx2 (plT_nx2 hl)))) (fun _ => okO_r)))))) (okO_e (k := 1) (by decide) (by decide) ht (plT_nx hl)))
theorem okO_lk (ht : okT tp) (hl : plT tp q) : okO (lkF tp D q) := by
  unfold lkF
  exact okO_tdB ht (plT_nx hl) (fun _ => okO_tdB ht (plT_nx2 hl) (fun _ => okO_cI (okO_nmB ht (plT_nx (plT_nx2 hl)) (fun _ => okO_r)) (okO_e (k := 3) (by decide) (by decide) ht (plT_nx2 hl))))
theorem okO_cl (ht : okT tp) (hl : plT tp q) : okO (clF tp D q) := by
  unfold clF
  exact okO_tdB ht (plT_nx hl) (fun _ => okO_tdB ht (plT_nx2 hl) (fun _ => okO_cI (okO_e (k := 3) (by decide) (by decide) ht (plT_nx2 hl)) okO_r))
theorem okO_fo (ht : okT tp) (hl : plT tp q) : okO (foF tp D q) := by
  unfold foF
  exact okO_cI (okO_e (k := 3) (by decide) (by decide) ht hl) (okO_nmB ht (plT_nx hl) (fun _ => okO_r))
end
/-- what the reference makes of all the lines from here on -/
def mA (tp : List Nat) (D : zD) (q : Nat) (o : Int32 ⊕ zD) : Prop := ∀ d Q S c, dM D c S → tkM tp q S → 1000 ≤ c ∧ c ≤ 1000 + q → (∀ v S', o = .inl v → frU S S' → gi S' 1000 9 = v → Q (.int 0) S') → (∀ D' S' c', o = .inr D' → frU S S' → dM D' c' S' → 1000 ≤ c' ∧ c' ≤ 2000 → Q (.int 1) S') → aBM (d + 6) 32 Q 42 [some (.ref 1000), none] [] S
def dsM (d : Nat) (Q : Value → aS → Prop) (S : aS) (j : Nat) (av : List Value) : Prop := aWM (d + 6) j (.ref 1000 :: av) S (fun v25 S26 => aI v25 (fun x27 => ((¬ x27 = 0 → aBM (d + 6) 32 Q 42 [some (.ref 1000), none] [] S26) ∧ (x27 = 0 → (((0 : Int32) = 0 ∨ (0 : Int32) = 1) ∧ Q (.int 0) S26)))))
def mAt (tp : List Nat) (q j : Nat) (av : List Value) : Prop := ∀ d Q S, tkM tp q S → dsM d Q S j av → aBM (d + 6) 32 Q 42 [some (.ref 1000), none] [] S
section
variable {tp : List Nat} {q q1 j : Nat} {D D' : zD} {av : List Value} {v : Int32}
theorem M_disp {d : Nat} {Q : Value → aS → Prop} {S : aS} (ht : okT tp) (hs : tkM tp q S) (hl : plT tp q) (h0 : srT tp q ≠ 0) (h4 : srT tp q = 4 → dsM d Q S 25 []) (h5 : srT tp q = 5 → dsM d Q S 26 []) (h10 : srT tp q = 10 → dsM d Q S 27 []) (h11 : srT tp q = 11 → dsM d Q S 28 []) (h12 : srT tp q = 12 → dsM d Q S 29 []) (h13 : srT tp q = 13 → dsM d Q S 30 [.int 0]) (h14 : srT tp q = 14 → dsM d Q S 30 [.int 1]) (hn : ¬ srT tp q = 4 → ¬ srT tp q = 5 → ¬ srT tp q = 10 → ¬ srT tp q = 11 → ¬ srT tp q = 12 → ¬ srT tp q = 13 → ¬ srT tp q = 14 → dsM d Q S 9 [.int 1]) : aBM (d + 6) 32 Q 42 [some (.ref 1000), none] [] S := by
  have h6 : toT tp q < 5 := by
    unfold toT
    repeat' split
    all_goals decide
  refine bM_readsAll_42 ?_
  rw [hs.2.2.2.1, nI_eq0 (by omega), ← srT_n0 hl.1]
  refine ⟨fun z => absurd z h0, fun _ => ?_⟩
  refine wd_is (k := 4) ht hs hl (by decide) (by decide) rfl (fun e => ⟨fun z => absurd z (by decide), fun _ => h4 e⟩) (fun e4 => ⟨fun _ => ?_, fun z => absurd rfl z⟩)
  refine wd_is (k := 5) ht hs hl (by decide) (by decide) rfl (fun e => ⟨fun z => absurd z (by decide), fun _ => h5 e⟩) (fun e5 => ⟨fun _ => ?_, fun z => absurd rfl z⟩)
  refine wd_is (k := 10) ht hs hl (by decide) (by decide) rfl (fun e => ⟨fun z => absurd z (by decide), fun _ => h10 e⟩) (fun e10 => ⟨fun _ => ?_, fun z => absurd rfl z⟩)
  refine wd_is (k := 11) ht hs hl (by decide) (by decide) rfl (fun e => ⟨fun z => absurd z (by decide), fun _ => h11 e⟩) (fun e11 => ⟨fun _ => ?_, fun z => absurd rfl z⟩)
  refine wd_is (k := 12) ht hs hl (by decide) (by decide) rfl (fun e => ⟨fun z => absurd z (by decide), fun _ => h12 e⟩) (fun e12 => ⟨fun _ => ?_, fun z => absurd rfl z⟩)
  refine wd_is (k := 13) ht hs hl (by decide) (by decide) rfl (fun e => ⟨fun z => absurd z (by decide), fun _ => h13 e⟩) (fun e13 => ⟨fun _ => ?_, fun z => absurd rfl z⟩)
  exact wd_is (k := 14) ht hs hl (by decide) (by decide) rfl (fun e => ⟨fun z => absurd z (by decide), fun _ => h14 e⟩) (fun e14 => ⟨fun _ => hn e4 e5 e10 e11 e12 e13 e14, fun z => absurd rfl z⟩)
theorem mAt_4 (ht : okT tp) (hl : plT tp q) (h : srT tp q = 4) : mAt tp q 25 [] := fun d Q S hs x => M_disp ht hs hl (by omega) (fun _ => x) (fun _ => by omega) (fun _ => by omega) (fun _ => by omega) (fun _ => by omega) (fun _ => by omega) (fun _ => by omega) (fun a _ _ _ _ _ _ => absurd h a)
theorem mAt_5 (ht : okT tp) (hl : plT tp q) (h : srT tp q = 5) : mAt tp q 26 [] := fun d Q S hs x => M_disp ht hs hl (by omega) (fun _ => by omega) (fun _ => x) (fun _ => by omega) (fun _ => by omega) (fun _ => by omega) (fun _ => by omega) (fun _ => by omega) (fun _ a _ _ _ _ _ => absurd h a)
theorem mAt_10 (ht : okT tp) (hl : plT tp q) (h : srT tp q = 10) : mAt tp q 27 [] := fun d Q S hs x => M_disp ht hs hl (by omega) (fun _ => by omega) (fun _ => by omega) (fun _ => x) (fun _ => by omega) (fun _ => by omega) (fun _ => by omega) (fun _ => by omega) (fun _ _ a _ _ _ _ => absurd h a)
theorem mAt_11 (ht : okT tp) (hl : plT tp q) (h : srT tp q = 11) : mAt tp q 28 [] := fun d Q S hs x => M_disp ht hs hl (by omega) (fun _ => by omega) (fun _ => by omega) (fun _ => by omega) (fun _ => x) (fun _ => by omega) (fun _ => by omega) (fun _ => by omega) (fun _ _ _ a _ _ _ => absurd h a)
theorem mAt_12 (ht : okT tp) (hl : plT tp q) (h : srT tp q = 12) : mAt tp q 29 [] := fun d Q S hs x => M_disp ht hs hl (by omega) (fun _ => by omega) (fun _ => by omega) (fun _ => by omega) (fun _ => by omega) (fun _ => x) (fun _ => by omega) (fun _ => by omega) (fun _ _ _ _ a _ _ => absurd h a)
theorem mAt_13 (ht : okT tp) (hl : plT tp q) (h : srT tp q = 13) : mAt tp q 30 [.int 0] := fun d Q S hs x => M_disp ht hs hl (by omega) (fun _ => by omega) (fun _ => by omega) (fun _ => by omega) (fun _ => by omega) (fun _ => by omega) (fun _ => x) (fun _ => by omega) (fun _ _ _ _ _ a _ => absurd h a)
theorem mAt_14 (ht : okT tp) (hl : plT tp q) (h : srT tp q = 14) : mAt tp q 30 [.int 1] := fun d Q S hs x => M_disp ht hs hl (by omega) (fun _ => by omega) (fun _ => by omega) (fun _ => by omega) (fun _ => by omega) (fun _ => by omega) (fun _ => by omega) (fun _ => x) (fun _ _ _ _ _ _ a => absurd h a)
theorem mA_err (ha : mAt tp q j av) (m : mL tp j av D q (.inl v)) : mA tp D q (.inl v) := fun d Q S c h hs hc hE hO => ha d Q S hs (m d _ S c h hs hc (fun v' S' e fU e9 => ⟨fun z => absurd rfl z, fun _ => ⟨Or.inl rfl, hE v' S' (by cases e; rfl) fU e9⟩⟩) (fun D' q1 S' c' e => by cases e) (fun D' q1 S' e => by cases e))
theorem mA_stop (ha : mAt tp q j av) (m : mL tp j av D q (.inr (D', q1))) (h32 : ¬ srT tp q1 = 32) : mA tp D q (.inl (1 + 16 * nI q1)) := fun d Q S c h hs hc hE hO => ha d Q S hs (m d _ S c h hs hc (fun v' S' e => by cases e) (fun D2 q2 S' c' e e32 => by cases e; exact absurd e32 h32) (fun D2 q2 S' e _ fU e9 => by
  cases e
  exact ⟨fun z => absurd rfl z, fun _ => ⟨Or.inl rfl, hE _ S' rfl fU e9⟩⟩))
theorem mA_go {o : Int32 ⊕ zD} (ha : mAt tp q j av) (m : mL tp j av D q (.inr (D', q1))) (h32 : srT tp q1 = 32) (hn : q1 < nxT tp q1) (k : mA tp D' (nxT tp q1) o) : mA tp D q o := fun d Q S c h hs hc hE hO => ha d Q S hs (m d _ S c h hs hc (fun v S' e => by cases e) (fun D2 q2 S' c' e _ fU hd hc' t' => by
  cases e
  exact ⟨fun _ => k d Q S' c' hd t' (by omega) (fun v S2 e2 f2 e9 => hE v S2 e2 (fU.tr f2) e9) (fun D3 S2 c2 e2 f2 d2 c2' => hO D3 S2 c2 e2 (fU.tr f2) d2 c2'), fun z => absurd z (by decide)⟩) (fun D2 q2 S' e ne => by
  cases e
  exact absurd h32 ne))
theorem mA_end (ht : okT tp) (hl : plT tp q) (h0 : srT tp q = 0) : mA tp D q (.inr D) := by
  intro d Q S c h hs hc hE hO
  have h6 : toT tp q < 5 := by
    unfold toT
    repeat' split
    all_goals decide
  have h1 := ht.1
  have h2 := hl.1
  refine bM_readsAll_42 ?_
  rw [hs.2.2.2.1, nI_eq0 (by omega), ← srT_n0 hl.1]
  exact ⟨fun _ => ⟨Or.inr rfl, hO D S c rfl frU.rf h (by omega)⟩, fun z => absurd h0 z⟩
theorem mA_bad (ht : okT tp) (hl : plT tp q) (h0 : srT tp q ≠ 0) (n4 : ¬ srT tp q = 4) (n5 : ¬ srT tp q = 5) (n10 : ¬ srT tp q = 10) (n11 : ¬ srT tp q = 11) (n12 : ¬ srT tp q = 12) (n13 : ¬ srT tp q = 13) (n14 : ¬ srT tp q = 14) : mA tp D q (.inl (1 + 16 * nI q)) := fun d Q S c h hs hc hE hO => M_disp ht hs hl h0 (fun e => absurd e n4) (fun e => absurd e n5) (fun e => absurd e n10) (fun e => absurd e n11) (fun e => absurd e n12) (fun e => absurd e n13) (fun e => absurd e n14) (fun _ _ _ _ _ _ _ => wM_fail hs ⟨fun z => absurd rfl z, fun _ => ⟨Or.inl rfl, hE _ _ rfl (frU_9 frU.rf).1 (frU_9 frU.rf).2⟩⟩)
end
theorem ln_lk : ∀ s, s < 33 → lkA (asm (Int32.ofNat (2000 + s - 2000)).toNatClampNeg) (tbX 1) = (if s = 4 then some 26 else if s = 5 then some 31 else if s = 10 then some 36 else if s = 11 then some 41 else if s = 12 then some 46 else if s = 13 then some 51 else if s = 14 then some 58 else none) := by decide +kernel
theorem sr_end {tp : List Nat} {q : Nat} (hl : plT tp q) (h : tp.length ≤ q) : srT tp q = 0 := by
  have := hl.1
  unfold srT
  rw [if_pos ((nT_0 hl.1).mpr (by omega))]
section
variable {m : Nat} {Q : Value → aS → Prop} {S0 : aS} {tp : List Nat} {t : Nat}
theorem X_loop (ht : okT tp) (hT : isT t) : ∀ N q, tp.length ≤ q + N → ∀ k D S, k ≤ q → okDr D → dwX D t S → lwX D q t S → tkX tp q S → plT tp q → gi S 1 7 = 0 → frF t S0 S → (∀ v S', frF t S0 S' → v ≠ 0 → gi S' 1 7 = v → mA tp D q (.inl v) → Q (.int v) S') → (∀ D' q' S', frF t S0 S' → okDr D' → dwX D' t S' → lwX D' q' t S' → mA tp D q (.inr D') → Q (.int 0) S') → aBX (m + 40) 41 Q 9 [some (.ref 3), some (.ref t), some (.int 1), some (.int (nI k))] [] S := by
  intro N
  induction N with
  | zero =>
    intro q hq k D S hk ok h g hs hl h7 f hE hO
    have e0 := sr_end hl hq
    have fin0 : Q (.int (gi S 1 7)) S := by
      rw [h7]
      exact hO D q S f ok h g (mA_end ht hl e0)
    refine bX_Reader_readRealm_9 ⟨fun _ => fin0, fun _ => ⟨fun y => absurd y (by decide), fun _ => wX_is (k := 0) hs (by decide) ?_⟩⟩
    rw [decide_eq_true e0]
    exact ⟨fun _ => fin0, fun z => absurd z (by decide)⟩
  | succ N ih =>
    intro q hq k D S hk ok h g hs hl h7 f hE hO
    have t6 := hT.six.1
    have h1k := ht.1
    have hlq := hl.1
    have k0 := hT.re.1
    obtain ⟨-, ⟨a14, a15⟩, -⟩ := art_t hT
    have fin0 : srT tp q = 0 → Q (.int (gi S 1 7)) S := fun e => by
      rw [h7]
      exact hO D q S f ok h g (mA_end ht hl e)
    refine bX_Reader_readRealm_9 ⟨fun z => fin0 (sr_end hl ?_), fun z => ⟨fun y => absurd y (by decide), fun _ => wX_is (k := 0) hs (by decide) ?_⟩⟩
    · have := (nI_leI (a := 1000) (b := k) (by decide) (by omega)).mp z
      omega
    by_cases e0 : srT tp q = 0
    · rw [decide_eq_true e0]
      exact ⟨fun _ => fin0 e0, fun z => absurd z (by decide)⟩
    rw [decide_eq_false e0]
    refine ⟨fun z => absurd rfl z, fun _ => ?_⟩
    have stop : ∀ v S', frF t S S' → gi S' 1 7 = v → v ≠ 0 → mA tp D q (.inl v) → aBX (m + 40) 41 Q 9 [some (.ref 3), some (.ref t), some (.int 0), some (.int (nI k + 1))] [] S' := fun v S' f' e7 ne ma => by
      have fin : Q (.int (gi S' 1 7)) S' := by
        rw [e7]
        exact hE v S' (f.tr f') ne e7 ma
      exact bX_Reader_readRealm_9 ⟨fun _ => fin, fun _ => ⟨fun _ => fin, fun y => absurd rfl y⟩⟩
    have lineE : ∀ v S', xE t S S' v → v ≠ 0 → mA tp D q (.inl v) → aBX (m + 40) 41 Q 70 [some (.ref 3), some (.ref t), some (.int 0), some (.int (nI k))] [] S' := fun v S' x ne ma => bX_Reader_readRealm_70 ⟨fun _ => stop v S' x.1 x.2 ne ma, fun y => absurd rfl y⟩
    have lineO : ∀ j av D' q1 S', mAt tp q j av → xO tp t q D' q1 S S' → mL tp j av D q (.inr (D', q1)) → aBX (m + 40) 41 Q 70 [some (.ref 3), some (.ref t), some (.int 1), some (.int (nI k))] [] S' := fun j av D' q1 S' ha x ml => by
      obtain ⟨x1, x2, x3, x4, x5, x6, x7, x8⟩ := x
      refine bX_Reader_readRealm_70 ⟨fun y => absurd y (by decide), fun _ => mX_Tokens_skip ?_⟩
      rw [x4.2.2.2.1]
      refine gC_ok (Nat.le_trans srT_le (by decide)) (gC_ok (k := 32) (by decide) ⟨fun e => ?_, fun e => ?_⟩)
      · have e32 : srT tp q1 = 32 := by omega
        have n1 := nx_gt (lt_sr x5 (by omega))
        refine wX_nx ht x4 x5 (fun S2 f2 t2 => ⟨Or.inr rfl, ⟨fun y => absurd y (by decide), fun _ => ?_⟩⟩)
        rw [nI_1]
        exact ih (nxT tp q1) (by omega) (k + 1) D' S2 (by omega) x8 (x2.kept f2.Z (fun i _ _ (q : i = 1) => by omega)) (x3.kept hT f2.Z (fun i _ (q : i = 1) => by omega) (by omega) rfl rfl) t2 (plT_nx x5) (by rw [f2.1 1 7 (by omega), x7]; exact h7) ((f.tr x1).tr (frF_of (frZ_K f2))) (fun v S' y1 y2 y3 y4 => hE v S' y1 y2 y3 (mA_go ha ml e32 n1 y4)) (fun D2 q2 S' y1 y2 y3 y4 y5 => hO D2 q2 S' y1 y2 y3 y4 (mA_go ha ml e32 n1 y5))
      · have e32 : ¬ srT tp q1 = 32 := by omega
        have x5l := x5.1
        exact wX_fail x4 ⟨Or.inl rfl, ⟨fun _ => stop (1 + 16 * nI q1) _ (x1.tr (frF_of (frZ_si (Or.inl rfl)))) (by rw [gi_si, if_pos ⟨rfl, rfl⟩]) (er_ne (k := 1) (by decide) (by decide) (by omega)) (mA_stop ha ml e32), fun y => absurd rfl y⟩⟩
    rw [hs.2.2.2.1]
    have sle := @srT_le tp q
    have hk2 := ln_lk (srT tp q) (by omega)
    refine gE_ok sle ⟨?_, ?_⟩
    · rw [show 2000 + srT tp q - 2000 = srT tp q by omega]
      exact nI_in (by omega) (by decide)
    by_cases c4 : srT tp q = 4
    · rw [if_pos c4] at hk2
      exact asw_hit _ hk2 (bX_Reader_readRealm_26 (X_writer ht hT ok h g hs hl e0 (fun v S' e x => lineE v S' x (okO_wr ht hl v e) (mA_err (mAt_4 ht hl c4) (by rw [← e]; exact M_writer ht ok hl e0))) (fun D' q1 S' e x => lineO 25 [] D' q1 S' (mAt_4 ht hl c4) x (by rw [← e]; exact M_writer ht ok hl e0))))
    rw [if_neg c4] at hk2
    by_cases c5 : srT tp q = 5
    · rw [if_pos c5] at hk2
      exact asw_hit _ hk2 (bX_Reader_readRealm_31 (X_word ht hT ok h g hs hl e0 (fun v S' e x => lineE v S' x (okO_wd ht hl v e) (mA_err (mAt_5 ht hl c5) (by rw [← e]; exact M_word ht ok hl e0))) (fun D' q1 S' e x => lineO 26 [] D' q1 S' (mAt_5 ht hl c5) x (by rw [← e]; exact M_word ht ok hl e0))))
    rw [if_neg c5] at hk2
    by_cases c10 : srT tp q = 10
    · rw [if_pos c10] at hk2
      exact asw_hit _ hk2 (bX_Reader_readRealm_36 (X_likes ht hT ok h g hs hl e0 (fun v S' e x => lineE v S' x (okO_lk ht hl v e) (mA_err (mAt_10 ht hl c10) (by rw [← e]; exact M_likes ht ok hl e0))) (fun D' q1 S' e x => lineO 27 [] D' q1 S' (mAt_10 ht hl c10) x (by rw [← e]; exact M_likes ht ok hl e0))))
    rw [if_neg c10] at hk2
    by_cases c11 : srT tp q = 11
    · rw [if_pos c11] at hk2
      exact asw_hit _ hk2 (bX_Reader_readRealm_41 (X_clash ht hT ok h g hs hl e0 (fun v S' e x => lineE v S' x (okO_cl ht hl v e) (mA_err (mAt_11 ht hl c11) (by rw [← e]; exact M_clash ht ok hl e0))) (fun D' q1 S' e x => lineO 28 [] D' q1 S' (mAt_11 ht hl c11) x (by rw [← e]; exact M_clash ht ok hl e0))))
    rw [if_neg c11] at hk2
    by_cases c12 : srT tp q = 12
    · rw [if_pos c12] at hk2
      exact asw_hit _ hk2 (bX_Reader_readRealm_46 (X_folds ht hT ok h g hs hl e0 (fun v S' e x => lineE v S' x (okO_fo ht hl v e) (mA_err (mAt_12 ht hl c12) (by rw [← e]; exact M_folds ht ok hl e0))) (fun D' q1 S' e x => lineO 29 [] D' q1 S' (mAt_12 ht hl c12) x (by rw [← e]; exact M_folds ht ok hl e0))))
    rw [if_neg c12] at hk2
    by_cases c13 : srT tp q = 13
    · rw [if_pos c13] at hk2
      refine asw_hit _ hk2 (bX_Reader_readRealm_51 (gK_ok k0 ?_))
      rw [a14]
      exact X_law (w := true) ht hT ok h g hs hl e0 (fun v S' x ne ml => lineE v S' x ne (mA_err (mAt_13 ht hl c13) ml)) (fun D' q1 S' x ml => lineO 30 [.int 0] D' q1 S' (mAt_13 ht hl c13) x ml)
    rw [if_neg c13] at hk2
    by_cases c14 : srT tp q = 14
    · rw [if_pos c14] at hk2
      refine asw_hit _ hk2 (bX_Reader_readRealm_58 (gK_ok k0 ?_))
      rw [a15]
      exact X_law (w := false) ht hT ok h g hs hl e0 (fun v S' x ne ml => lineE v S' x ne (mA_err (mAt_14 ht hl c14) ml)) (fun D' q1 S' x ml => lineO 30 [.int 1] D' q1 S' (mAt_14 ht hl c14) x ml)
    rw [if_neg c14] at hk2
    exact asw_mis _ hk2 (bX_Reader_readRealm_65 (wX_fail hs (lineE _ _ (xE_fail frZ.rf) (er_ne (k := 1) (by decide) (by decide) (by omega)) (mA_bad ht hl e0 c4 c5 c10 c11 c12 c13 c14))))
end
