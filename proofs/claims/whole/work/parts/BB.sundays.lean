/-! the tie: sundays -/
def okQ (o : zQ) : Prop := ∀ v, o = .inl v → v ≠ 0
theorem okQ_cI {p : Prop} {a b : zQ} (ha : okQ a) (hb : okQ b) : okQ (cI p a b) := by
  by_cases h : p
  · rw [cI_t h]
    exact ha
  · rw [cI_f h]
    exact hb
theorem okQ_r {x : List zL × Nat} : okQ (.inr x) := fun v h => by cases h
theorem okQ_e {k q : Nat} {tp : List Nat} (h1 : 1 ≤ k) (h5 : k ≤ 5) (ht : okT tp) (hl : plT tp q) : okQ (.inl (nI k + 16 * nI q)) := fun v h => by
  cases h
  exact er_ne h1 h5 (Nat.le_trans hl.1 ht.1)
theorem okQ_sn {tp : List Nat} {r : zR} {ls : List zL} {q : Nat} (ht : okT tp) (hl : plT tp q) : okQ (snF tp r ls q) := by
  unfold snF
  refine okQ_cI (okQ_cI (okQ_e (k := 5) (by decide) (by decide) ht hl) (okQ_cI (okQ_cI ?_ (okQ_e (k := 1) (by decide) (by decide) ht (plT_nx hl))) (okQ_cI (okQ_cI (okQ_cI okQ_r (okQ_e (k := 4) (by decide) (by decide) ht (plT_nx hl))) (okQ_e (k := 1) (by decide) (by decide) ht (plT_nx hl))) okQ_r))) (okQ_e (k := 1) (by decide) (by decide) ht hl)
  cases fdN (rWd r) (rNm r) (nmT tp (nxT tp q)) with
  | none => exact okQ_e (k := 2) (by decide) (by decide) ht (plT_nx hl)
  | some k => exact okQ_r
def mB (tp : List Nat) (r : zR) (ls : List zL) (q : Nat) (o : Int32 ⊕ List zL) : Prop := ∀ d Q S, RM r S → lsM ls S 5 → tkM tp q S → (∀ v S', o = .inl v → frN S S' → gi S' 1000 9 = v → Q (.int v) S') → (∀ ls' S', o = .inr ls' → frN S S' → lsM ls' S' 5 → aWM (d + 6) 37 [.ref 1000, .int 5, .int 0] S' (fun v1 S2 => aV v1 (Q (.int 0) S2))) → aBM (d + 6) 41 Q 13 [some (.ref 1000)] [] S
section
variable {tp : List Nat} {q q1 : Nat} {r : zR} {ls ls' : List zL} {v : Int32}
theorem mB_at {d : Nat} {Q : Value → aS → Prop} {S : aS} (hs : tkM tp q S) (hl : plT tp q) (h0 : srT tp q ≠ 0) (h : aWM (d + 6) 36 [.ref 1000] S (fun v3 S4 => aI v3 (fun x5 => ((¬ x5 = 0 → (aBM (d + 6) 41 Q 13 [some (.ref 1000)] [] S4)) ∧ (x5 = 0 → (Q (.int (gi S4 1000 9)) S4)))))) : aBM (d + 6) 41 Q 13 [some (.ref 1000)] [] S := by
  have h6 : toT tp q < 5 := by
    unfold toT
    repeat' split
    all_goals decide
  refine bM_sundays_13 ?_
  rw [hs.2.2.2.1, nI_eq0 (by omega), ← srT_n0 hl.1]
  exact ⟨fun z => absurd z h0, fun _ => h⟩
theorem mB_err (hl : plT tp q) (h0 : srT tp q ≠ 0) (m : mS tp r ls q (.inl v)) : mB tp r ls q (.inl v) := fun d Q S hR hL hs hE hO => mB_at hs hl h0 (m d _ S hR hL hs (fun v' S' e f e9 => ⟨fun z => absurd rfl z, fun _ => by rw [e9]; exact hE v' S' (by cases e; rfl) f e9⟩) (fun ls' q1 S' e => by cases e) (fun ls' q1 S' e => by cases e))
theorem mB_stop (hl : plT tp q) (h0 : srT tp q ≠ 0) (m : mS tp r ls q (.inr (ls', q1))) (h32 : ¬ srT tp q1 = 32) : mB tp r ls q (.inl (1 + 16 * nI q1)) := fun d Q S hR hL hs hE hO => mB_at hs hl h0 (m d _ S hR hL hs (fun v' S' e => by cases e) (fun l2 q2 S' e e32 => by cases e; exact absurd e32 h32) (fun l2 q2 S' e _ f e9 => by
  cases e
  exact ⟨fun z => absurd rfl z, fun _ => by rw [e9]; exact hE _ S' rfl f e9⟩))
theorem mB_go {o : Int32 ⊕ List zL} (hl : plT tp q) (h0 : srT tp q ≠ 0) (m : mS tp r ls q (.inr (ls', q1))) (h32 : srT tp q1 = 32) (k : mB tp r ls' (nxT tp q1) o) : mB tp r ls q o := fun d Q S hR hL hs hE hO => mB_at hs hl h0 (m d _ S hR hL hs (fun v' S' e => by cases e) (fun l2 q2 S' e _ f hl' t' => by
  cases e
  exact ⟨fun _ => k d Q S' (RM_S hR f) hl' t' (fun v S2 e2 f2 e9 => hE v S2 e2 (f.tr f2) e9) (fun l3 S2 e2 f2 h2 => hO l3 S2 e2 (f.tr f2) h2), fun z => absurd z (by decide)⟩) (fun l2 q2 S' e ne => by
  cases e
  exact absurd h32 ne))
theorem mB_end (hl : plT tp q) (h0 : srT tp q = 0) : mB tp r ls q (.inr ls) := by
  intro d Q S hR hL hs hE hO
  have h6 : toT tp q < 5 := by
    unfold toT
    repeat' split
    all_goals decide
  refine bM_sundays_13 ?_
  rw [hs.2.2.2.1, nI_eq0 (by omega), ← srT_n0 hl.1]
  exact ⟨fun _ => hO ls S rfl frN.rf hL, fun z => absurd h0 z⟩
end
section
variable {m : Nat} {Q : Value → aS → Prop} {S0 : aS} {tp : List Nat} {t : Nat} {r : zR}
theorem X_sunLoop (ht : okT tp) (hT : isT t) (hr : okR r) (hn : okN r) : ∀ N q, tp.length ≤ q + N → ∀ k ls S, k ≤ q → RX r S t → tkX tp q S → plT tp q → snX ls S → okL r ls → gi S 1 7 = 0 → frZ snC S0 S → (∀ v S', frZ snC S0 S' → v ≠ 0 → mB tp r ls q (.inl v) → Q (.int v) S') → (∀ ls' S', frZ snC S0 S' → snX ls' S' → okL r ls' → mB tp r ls q (.inr ls') → Q (.int 0) S') → aBX (m + 10) 50 Q 10 [some (.ref 3), some (.ref t), some (.int 1), some (.int (nI k))] [] S := by
  intro N
  induction N with
  | zero =>
    intro q hq k ls S hk h hs hl hx hol h7 f hE hO
    have e0 := sr_end hl hq
    have fin0 : Q (.int (gi S 1 7)) S := by
      rw [h7]
      exact hO ls S f hx hol (mB_end hl e0)
    refine bX_Reader_readSundays_10 ⟨fun _ => fin0, fun _ => ⟨fun y => absurd y (by decide), fun _ => wX_is (k := 0) hs (by decide) ?_⟩⟩
    rw [decide_eq_true e0]
    exact ⟨fun _ => fin0, fun z => absurd z (by decide)⟩
  | succ N ih =>
    intro q hq k ls S hk h hs hl hx hol h7 f hE hO
    have t6 := hT.six.1
    have h1k := ht.1
    have hlq := hl.1
    have fin0 : srT tp q = 0 → Q (.int (gi S 1 7)) S := fun e => by
      rw [h7]
      exact hO ls S f hx hol (mB_end hl e)
    refine bX_Reader_readSundays_10 ⟨fun z => fin0 (sr_end hl ?_), fun z => ⟨fun y => absurd y (by decide), fun _ => wX_is (k := 0) hs (by decide) ?_⟩⟩
    · have := (nI_leI (a := 1000) (b := k) (by decide) (by omega)).mp z
      omega
    by_cases e0 : srT tp q = 0
    · rw [decide_eq_true e0]
      exact ⟨fun _ => fin0 e0, fun z => absurd z (by decide)⟩
    rw [decide_eq_false e0]
    refine ⟨fun z => absurd rfl z, fun _ => ?_⟩
    have ms := M_sunLine ht hr hn hl hol
    have stop : ∀ v S', frZ snC S S' → gi S' 1 7 = v → v ≠ 0 → mB tp r ls q (.inl v) → aBX (m + 10) 50 Q 10 [some (.ref 3), some (.ref t), some (.int 0), some (.int (nI k + 1))] [] S' := fun v S' f' e7 ne ma => by
      have fin : Q (.int (gi S' 1 7)) S' := by
        rw [e7]
        exact hE v S' (f.tr f') ne ma
      exact bX_Reader_readSundays_10 ⟨fun _ => fin, fun _ => ⟨fun _ => fin, fun y => absurd rfl y⟩⟩
    refine X_sunLine ht hT hr hn h hs hl hx hol (fun v S' e f' e7 => ⟨fun _ => stop v S' f' e7 (okQ_sn ht hl v e) (mB_err hl e0 (by rw [← e]; exact ms)), fun y => absurd rfl y⟩) (fun ls' q1 S' e x1 x2 x4 x5 x6 x7 x8 => ⟨fun y => absurd y (by decide), fun _ => mX_Tokens_skip ?_⟩)
    have ml : mS tp r ls q (.inr (ls', q1)) := by rw [← e]; exact ms
    rw [x4.2.2.2.1]
    refine gC_ok (Nat.le_trans srT_le (by decide)) (gC_ok (k := 32) (by decide) ⟨fun e => ?_, fun e => ?_⟩)
    · have e32 : srT tp q1 = 32 := by omega
      have n1 := nx_gt (lt_sr x5 (by omega))
      refine wX_nx ht x4 x5 (fun S2 f2 t2 => ⟨Or.inr rfl, ⟨fun y => absurd y (by decide), fun _ => ?_⟩⟩)
      rw [nI_1]
      have fz : frZ snC S' S2 := f2.Z.le (fun i hi => Or.inl hi)
      exact ih (nxT tp q1) (by omega) (k + 1) ls' S2 (by omega) (h.keptZ hT (x1.tr fz) (fun i hi z => by unfold rcX at hi; unfold snC at z; omega)) t2 (plT_nx x5) (x2.kept f2) x8 (by rw [f2.1 1 7 (by omega), x7]; exact h7) ((f.tr x1).tr fz) (fun v S3 y1 y2 y3 => hE v S3 y1 y2 (mB_go hl e0 ml e32 y3)) (fun l3 S3 y1 y2 y3 y4 => hO l3 S3 y1 y2 y3 (mB_go hl e0 ml e32 y4))
    · have e32 : ¬ srT tp q1 = 32 := by omega
      have x5l := x5.1
      exact wX_fail x4 ⟨Or.inl rfl, ⟨fun _ => stop (1 + 16 * nI q1) _ (x1.tr (frZ_si (Or.inl rfl))) (by rw [gi_si, if_pos ⟨rfl, rfl⟩]) (er_ne (k := 1) (by decide) (by decide) (by omega)) (mB_stop hl e0 ml e32), fun y => absurd rfl y⟩⟩
theorem X_readSundays {S : aS} (ht : okT tp) (hT : isT t) (hr : okR r) (hn : okN r) (h : RX r S t) (hs : tpX tp S) (hE : ∀ v S', frZ snC S S' → v ≠ 0 → mB tp r [] (rnT isWs tp 0) (.inl v) → Q (.int v) S') (hO : ∀ ls' S', frZ snC S S' → snX ls' S' → okL r ls' → mB tp r [] (rnT isWs tp 0) (.inr ls') → Q (.int 0) S') : aWX (m + 11) 50 [.ref 3, .ref t] S Q := by
  have t6 := hT.six.1
  refine mX_Reader_readSundays (mX_Tokens_begin ?_)
  have fz : frZ snC S (si (si (si S 3 3 0) 1 2 0) 1 7 0) := ((frZ_si (C := snC) (Or.inr (Or.inl rfl))).tr (frZ_si (Or.inl rfl))).tr (frZ_si (Or.inl rfl))
  have tps : tpX tp (si (si (si S 3 3 0) 1 2 0) 1 7 0) := ⟨by rw [gi_si, if_neg (by decide), gi_si, if_neg (by decide), gi_si, if_neg (by decide)]; exact hs.1, fun k c hk => by rw [ga_si, ga_si, ga_si]; exact hs.2 k c hk⟩
  refine wX_step (p := 0) ht tps (by rw [gi_si, if_neg (by decide), gi_si, if_pos ⟨rfl, rfl⟩]; rfl) (Nat.zero_le _) (fun S2 f2 t2 => ?_)
  show aBX (m + 10) 50 Q 10 [some (.ref 3), some (.ref t), some (.int 1), some (.int (nI 0))] [] S2
  have fz2 : frZ snC S S2 := fz.tr (f2.Z.le (fun i hi => Or.inl hi))
  refine X_sunLoop (S0 := S) ht hT hr hn (tp.length - rnT isWs tp 0) (rnT isWs tp 0) (by omega) 0 [] S2 (Nat.zero_le _) (h.keptZ hT fz2 (fun i hi z => by unfold rcX at hi; unfold snC at z; omega)) t2 (plT_rn (Nat.zero_le _)) ⟨?_, fun k l hk => by cases hk⟩ ⟨Nat.zero_le _, fun l hl => by cases hl⟩ (by rw [f2.1 1 7 (by omega), gi_si, if_pos ⟨rfl, rfl⟩]) fz2 hE hO
  rw [f2.1 3 3 (by omega), gi_si, if_neg (by decide), gi_si, if_neg (by decide), gi_si, if_pos ⟨rfl, rfl⟩]
  rfl
end
theorem lsM_to {ls : List zL} {S S' : aS} {m : Nat} (h : lsM ls S m) (e : ga S' 1027 m = ga S 1027 m) (e2 : ∀ k, k < ls.length → ga S' 1028 (40 * m + k) = ga S 1028 (40 * m + k) ∧ ga S' 1029 (40 * m + k) = ga S 1029 (40 * m + k)) : lsM ls S' m := ⟨e.trans h.1, fun k l hk => by
  have := (List.getElem?_eq_some_iff.mp hk).1
  exact ⟨(e2 k this).1.trans (h.2 k l hk).1, fun c => (e2 k this).2.trans ((h.2 k l hk).2 c)⟩⟩
/-- which rows of lines may change: the ones read, the page's -/
theorem MM_N {g : zG} {S S' : aS} {ls : List zL} {tp : List Nat} (hm : ∀ j p, j < 4 → g.2.2.2.1 j = some p → p.2.1.length ≤ 40) (h : MM g S) (a : ∀ i k, i < 1015 ∨ (1030 ≤ i) → ga S' i k = ga S i k) (b : ∀ i k, i < 1015 → gb S' i k = gb S i k) (g50 : gi S' 1000 50 = gi S 1000 50) (a27 : ∀ j, j < 4 → ga S' 1027 (1 + j) = ga S 1027 (1 + j)) (a28 : ∀ k, 40 ≤ k → k < 200 → ga S' 1028 k = ga S 1028 k ∧ ga S' 1029 k = ga S 1029 k) (hls : lsM ls S' 0) (htp : tpM tp S') : MM (g.1, (g.2.1.1, ls, g.2.1.2.2), g.2.2.1, g.2.2.2.1, tp) S' := by
  obtain ⟨h1, ⟨h2, h3, h4⟩, h5, h6, h7⟩ := h
  have fM : frM (fun i => 1015 ≤ i) noC S (S.1, S.2.1, S'.2.2.1, S'.2.2.2.1, S'.2.2.2.2) := ⟨fun i k hi => a i k (Or.inl (by omega)), fun i k hi => b i k (by omega), fun _ _ => rfl, fun _ _ => rfl⟩
  have hR : RM g.1 (S.1, S.2.1, S'.2.2.1, S'.2.2.2.1, S'.2.2.2.2) := h1.kept fM (fun i (hi : 1015 ≤ i) => by omega)
  have e : ∀ i, 1030 ≤ i → ga S' i = ga S i := fun i hi => funext fun k => a i k (Or.inr hi)
  refine ⟨hR, ⟨?_, hls, ?_⟩, ⟨g50.trans h5.1, h5.2.1, ?_⟩, fun j hj => ?_, htp⟩
  · rw [e 1032 (by decide)]
    exact h2
  · exact ⟨(a 1030 _ (by omega)).trans h4.1, fun k w hk => (a 1031 _ (by omega)).trans (h4.2 k w hk)⟩
  · rw [e 1035 (by decide)]
    exact h5.2.2
  · have hj2 := h6 j hj
    show mk1M g.1 S' j (g.2.2.2.1 j)
    cases hmk : g.2.2.2.1 j with
    | none =>
      rw [hmk] at hj2
      exact (a 1036 j (by omega)).trans hj2
    | some p =>
      rw [hmk] at hj2
      obtain ⟨q1, q2, q3, q4⟩ := hj2
      have h40 := hm j p hj hmk
      refine ⟨(a 1036 j (by omega)).trans q1, ?_, lsM_to q3 (a27 j hj) (fun k hk => a28 _ (by omega) (by omega)), ⟨(a 1030 _ (by omega)).trans q4.1, fun k w hk => (a 1031 _ (by omega)).trans (q4.2 k w hk)⟩⟩
      rw [e 1034 (by decide)]
      exact q2
theorem mkX_len {g : zG} {t : Nat} {S : aS} (h : XX g t S) : ∀ j p, j < 4 → g.2.2.2.1 j = some p → p.2.1.length ≤ 40 := fun j p hj e => by
  have := h.2.2.2.2.1 j hj
  rw [e] at this
  exact this.1.2.1.1
theorem XX_lines {g : zG} {t : Nat} {S S' : aS} {ls : List zL} (h : XX g t S) (f : frX (fun i => i = 40 ∨ i = 45) S S') (hl : lsX ls S' 40) (a : ∀ i k, ¬ (i = 40 ∧ k = 2) → gi S' i k = gi S i k) : XX (g.1, (g.2.1.1, ls, g.2.1.2.2), g.2.2.1, g.2.2.2.1, g.2.2.2.2) t S' := by
  obtain ⟨⟨hT, r2, r3, hf⟩, h2, ⟨h3, h3b, h3c⟩, h4, h5, h6⟩ := h
  have fY := f.Y
  have t6 := hT.six
  refine ⟨⟨hT, (fY.gr 0 2).trans r2, (fY.gr 0 3).trans r3, hf.kept fY (fun i hi (z : i = 40 ∨ i = 45) => by omega)⟩, h2.kept hT fY (fun i hi (z : i = 40 ∨ i = 45) => by unfold rcX at hi; omega), ⟨?_, hl, ⟨(a 40 4 (by omega)).trans h3c.1, ?_⟩⟩, h4.keptY fY (fun i hi (z : i = 40 ∨ i = 45) => by unfold hC at hi; omega), h5.kept fY (fun i h1 h2 (z : i = 40 ∨ i = 45) => by omega), h6.kept fY (fun (z : 1 = 40 ∨ 1 = 45) => by omega) (fun (z : 2 = 40 ∨ 2 = 45) => by omega)⟩
  · exact h3.keptY fY (fun i hi (z : i = 40 ∨ i = 45) => by rw [stC_41] at hi; omega)
  · obtain ⟨b, b1, b2⟩ := h3c.2
    exact ⟨b, b1, (a 40 3 (by omega)).trans b2⟩
theorem tie_sundays : ok_sundays Rel := by
  rintro SX SM ⟨g, t, ok, hX, hM⟩
  have hT := hX.1.1
  have t6 := hT.six
  have hM0 := MM_0 ok hM
  have hml := mkX_len hX
  have hl40 := ok.2.2.1.2.1.1
  -- the reference, from its start to its end
  have run : ∀ (n : Int32) (SX1 : aS) (o : Int32 ⊕ List zL), mB g.2.2.2.2 g.1 [] (rnT isWs g.2.2.2.2 0) o → (∀ v, o = .inl v → n = v ∧ XX (g.1, g.2.1, g.2.2.1, g.2.2.2.1, []) t SX1) → (∀ ls, o = .inr ls → n = 0 ∧ okL g.1 ls ∧ XX (g.1, (g.2.1.1, ls, g.2.1.2.2), g.2.2.1, g.2.2.2.1, []) t SX1) → aWM dd 41 (.ref 1000 :: []) SM (fun v SM1 => v = .int n ∧ Rel SX1 SM1) := by
    intro n SX1 o mb hE hO
    refine mM_sundays (d := 99) ⟨vin (by decide), ?_⟩
    rw [c5]
    have tp0 : tpM g.2.2.2.2 (si (sa (si SM 1000 0 0) 1027 5 0) 1000 38 0) := ⟨by rw [gi_si, if_neg (by decide), gi_sa]; exact hM0.2.2.2.2.1, fun k c hk => by rw [ga_si, ga_sa, if_neg (by omega)]; exact hM0.2.2.2.2.2 k c hk⟩
    refine wM_begins (d := 96) ok.2.2.2 tp0 (fun S1 f1 g1 t1 => ?_)
    have a1 : ∀ i k, ¬ snA i k → ga S1 i k = ga (si SM 1000 0 0) i k := fun i k hi => by
      rw [f1.1 i k (fun z => z), ga_si, ga_sa, if_neg (fun z => hi (by unfold snA; omega))]
    have b1 : ∀ i k, gb S1 i k = gb (si SM 1000 0 0) i k := fun i k => by
      rw [f1.2.1 i k (fun z => z)]
      rfl
    have g50 : gi S1 1000 50 = gi (si SM 1000 0 0) 1000 50 := by
      rw [f1.2.2.1 50 (by unfold bginF; omega), gi_si, if_neg (by decide), gi_sa]
    have R1 : RM g.1 S1 := by
      have fM : frM (fun i => 1027 ≤ i) noC (si SM 1000 0 0) ((si SM 1000 0 0).1, (si SM 1000 0 0).2.1, S1.2.2.1, S1.2.2.2.1, S1.2.2.2.2) := ⟨fun i k hi => a1 i k (fun z => hi (by unfold snA at z; omega)), fun i k _ => b1 i k, fun _ _ => rfl, fun _ _ => rfl⟩
      have := hM0.1.kept fM (fun i (hi : 1027 ≤ i) => by omega)
      exact this
    have L1 : lsM [] S1 5 := ⟨by rw [f1.1 _ _ (fun z => z), ga_si, ga_sa, if_pos ⟨rfl, rfl⟩]; rfl, fun k l hk => by cases hk⟩
    have n1 : ¬ snG 1 := by unfold snG; omega
    have n50 : ¬ snG 50 := by unfold snG; omega
    show aBM (93 + 6) 41 _ 13 [some (.ref 1000)] [] S1
    refine mb 93 _ S1 R1 L1 t1 (fun v S2 e f2 e9 => ?_) (fun ls S2 e f2 L2 => ?_)
    · obtain ⟨rfl, hx⟩ := hE v e
      have a2 : ∀ i k, ¬ snA i k → ga S2 i k = ga (si SM 1000 0 0) i k := fun i k hi => (f2.1 i k hi).trans (a1 i k hi)
      refine ⟨rfl, (g.1, g.2.1, g.2.2.1, g.2.2.2.1, []), t, ⟨ok.1, ok.2.1, ok.2.2.1, ⟨Nat.zero_le _, fun l hl => by cases hl⟩⟩, hx, ?_⟩
      refine MM_N hml hM0 (fun i k hi => a2 i k (by unfold snA; omega)) (fun i k _ => (f2.2.1 i k).trans (b1 i k)) ((f2.2.2 50 n50).trans g50) (fun j hj => a2 _ _ (by unfold snA; omega)) (fun k h1 h2 => ⟨a2 _ _ (by unfold snA; omega), a2 _ _ (by unfold snA; omega)⟩) (lsM_to (ls := g.2.1.2.1) hM0.2.1.2.1 (a2 _ _ (by unfold snA; omega)) (fun k hk => ⟨a2 _ _ (by unfold snA; omega), a2 _ _ (by unfold snA; omega)⟩)) ⟨(f2.2.2 1 n1).trans g1, fun k c hk => by cases hk⟩
    · obtain ⟨rfl, hol, hx⟩ := hO ls e
      have a2 : ∀ i k, ¬ snA i k → ga S2 i k = ga (si SM 1000 0 0) i k := fun i k hi => (f2.1 i k hi).trans (a1 i k hi)
      show aWM (93 + 6) 37 [.ref 1000, .int (nI 5), .int (nI 0)] S2 _
      refine wM_laysLines6 (a := 5) (b := 0) (d := 98) (by decide) (by decide) (by decide) (fun S3 f3 e27 e28 e29 => ?_)
      have a3 : ∀ i k, ¬ lnC i → ga S3 i k = ga S2 i k := fun i k hi => f3.1 i k hi
      have h40 := hol.1
      refine ⟨rfl, (g.1, (g.2.1.1, ls, g.2.1.2.2), g.2.2.1, g.2.2.2.1, []), t, ⟨ok.1, ok.2.1, ⟨ok.2.2.1.1, hol, ok.2.2.1.2.2⟩, ⟨Nat.zero_le _, fun l hl => by cases hl⟩⟩, hx, ?_⟩
      refine MM_N hml hM0 (fun i k hi => (a3 i k (by unfold lnC; omega)).trans (a2 i k (by unfold snA; omega))) (fun i k hi => ?_) ((f3.2.2.1 50 (fun z => z)).trans ((f2.2.2 50 n50).trans g50)) (fun j hj => ?_) (fun k h1 h2 => ⟨?_, ?_⟩) ⟨?_, fun k l hk => ?_⟩ ⟨(f3.2.2.1 1 (fun z => z)).trans ((f2.2.2 1 n1).trans g1), fun k c hk => by cases hk⟩
      · exact (f3.2.1 i k (by unfold lnC; omega)).trans ((f2.2.1 i k).trans (b1 i k))
      · rw [e27, if_neg (by omega)]
        exact a2 _ _ (by unfold snA; omega)
      · rw [e28, if_neg (by omega)]
        exact a2 _ _ (by unfold snA; omega)
      · rw [e29, if_neg (by omega)]
        exact a2 _ _ (by unfold snA; omega)
      · rw [e27, if_pos rfl]
        exact L2.1
      · have hk2 := (List.getElem?_eq_some_iff.mp hk).1
        rw [e28, e29, if_pos (by omega), if_pos (by omega), show 40 * 5 + (40 * 0 + k - 40 * 0) = 40 * 5 + k by omega]
        exact L2.2 k l hk
  refine mX_FoldedRealm_sundays (d := 99) ?_
  rw [hX.1.2.1]
  have zz : ∀ S1, frZ snC SX S1 → XX (g.1, g.2.1, g.2.2.1, g.2.2.2.1, []) t (si S1 1 1 0) := fun S1 f1 => by
    refine XX_Z hX (f1.tr (frZ_si (Or.inl rfl))) (fun i hi => ?_) ?_ ?_ ?_
    · unfold snC at hi
      omega
    · rw [gi_si, if_neg (by omega)]; exact (f1 _ 0 (by unfold snC; omega)).1
    · rw [gi_si, if_neg (by omega)]; exact (f1 _ 0 (by unfold snC; omega)).1
    · rw [gi_si, if_pos ⟨rfl, rfl⟩]
  refine X_readSundays (m := 88) ok.2.2.2 hT ok.1 ok.2.1 hX.2.1 hX.2.2.2.2.2 (fun v S1 f1 ne mb => ?_) (fun ls S1 f1 x1 hol mb => ?_)
  · show aWX 99 104 [.ref 1] S1 _
    exact mX_Tokens_takeOff (d := 98) ⟨fun _ => ⟨v, rfl, run v _ _ mb (fun v' e => by cases e; exact ⟨rfl, zz S1 f1⟩) (fun ls e => by cases e)⟩, fun z => absurd z ne⟩
  · show aWX 99 104 [.ref 1] S1 _
    refine mX_Tokens_takeOff (d := 98) ⟨fun z => absurd rfl z, fun _ => ?_⟩
    have x2 : snX ls (si S1 1 1 0) := ⟨by rw [gi_si, if_neg (by decide)]; exact x1.1, fun k l hk => by rw [ga_si]; exact x1.2 k l hk⟩
    refine wX_takeLines4 (d := 98) hol.1 x2 (fun S7 f7 hl7 a7 b7 => ⟨0, rfl, run 0 S7 _ mb (fun v' e => by cases e) (fun l2 e => ?_)⟩)
    cases e
    exact ⟨rfl, hol, XX_lines (zz S1 f1) f7 hl7 a7⟩
