/-! the tie: realm -/
def bginF (k : Nat) : Prop := k = 1 ∨ (3 ≤ k ∧ k ≤ 8)
section
variable {d : Nat} {Q : Value → aS → Prop} {S : aS} {tp : List Nat}
theorem wM_begins (ht : okT tp) (hs : tpM tp S) (hx : ∀ S', frM noC bginF S S' → gi S' 1000 1 = 0 → tkM tp (rnT isWs tp 0) S' → Q .null S') : aWM (d + 3) 31 [.ref 1000] S Q := by
  refine mM_begins (wM_step (p := 0) ht ⟨?_, fun k hk => ?_⟩ ?_ (Nat.zero_le _) (fun S' f t => hx S' ?_ ?_ t))
  · rw [gi_si, if_neg (by decide), gi_si, if_neg (by decide), gi_si, if_pos ⟨rfl, rfl⟩]
    exact hs.1
  · rw [ga_si, ga_si, ga_si]
    exact hs.2 k _ (sgT_at hk)
  · rw [gi_si, if_pos ⟨rfl, rfl⟩]
    rfl
  · exact (((frM_si (C := noC) (F := bginF) (by unfold bginF; omega)).tr (frM_si (by unfold bginF; omega))).tr (frM_si (by unfold bginF; omega))).tr (f.le (fun _ q => q) (fun k q => by unfold tkF at q; unfold bginF; omega))
  · rw [f.2.2.1 1 (by unfold tkF; omega), gi_si, if_neg (by decide), gi_si, if_pos ⟨rfl, rfl⟩]
theorem M_readsAll {o : Int32 ⊕ zD} (ht : okT tp) (hs : tpM tp S) (ma : mA tp D0 (rnT isWs tp 0) o) (hE : ∀ v S', o = .inl v → (∀ i k, ¬ upA i k → ga S' i k = ga S i k) → (∀ i k, ¬ upB i k → gb S' i k = gb S i k) → gi S' 1000 50 = gi S 1000 50 → gi S' 1000 1 = 0 → gi S' 1000 9 = v → Q (.int 0) S') (hO : ∀ D' S' c', o = .inr D' → (∀ i k, ¬ upA i k → ga S' i k = ga S i k) → (∀ i k, ¬ upB i k → gb S' i k = gb S i k) → gi S' 1000 50 = gi S 1000 50 → gi S' 1000 1 = 0 → dM D' c' S' → c' ≤ 2000 → Q (.int 1) S') : aWM (d + 7) 32 [.ref 1000] S Q := by
  refine mM_readsAll ?_
  refine bM_readsAll_2 ⟨fun z => absurd z (by decide), fun _ => ⟨fun _ => ⟨vin (by decide), ?_⟩, fun z => absurd z (by decide)⟩⟩
  refine bM_readsAll_2 ⟨fun z => absurd z (by decide), fun _ => ⟨fun _ => ⟨vin (by decide), ?_⟩, fun z => absurd z (by decide)⟩⟩
  refine bM_readsAll_2 ⟨fun z => absurd z (by decide), fun _ => ⟨fun z => absurd (by decide) z, fun _ => ⟨vin (by decide), ?_⟩⟩⟩
  refine bM_readsAll_2 ⟨fun z => absurd z (by decide), fun _ => ⟨fun _ => ⟨vin (by decide), ?_⟩, fun z => absurd z (by decide)⟩⟩
  refine bM_readsAll_2 ⟨fun _ => ?_, fun z => absurd (by decide) z⟩
  refine bM_readsAll_19 ⟨fun z => absurd z (by decide), fun _ => ⟨vin (by decide), vin (by decide), ?_⟩⟩
  refine bM_readsAll_19 ⟨fun z => absurd z (by decide), fun _ => ⟨vin (by decide), vin (by decide), ?_⟩⟩
  refine bM_readsAll_19 ⟨fun _ => ⟨Or.inl rfl, ?_⟩, fun z => absurd (by decide) z⟩
  rw [c4, show ((4 : Int32) + 1).toNatClampNeg = 5 by decide, show ((4 : Int32) + 1 + 1).toNatClampNeg = 6 by decide, show ((4 : Int32) + 1 + 1 + 1).toNatClampNeg = 7 by decide, c2, show ((2 : Int32) + 1).toNatClampNeg = 3 by decide]
  have A : ∀ i k, ga (si (si (sa (sa (sa (sa (sa (sa (sa (sa S 1002 4 0) 1002 5 0) 1002 6 3) 1002 7 0) 1012 2 1000) 1013 2 1000) 1012 3 1000) 1013 3 1000) 1000 25 0) 1000 23 1000) i k = if i = 1013 ∧ k = 3 then 1000 else if i = 1012 ∧ k = 3 then 1000 else if i = 1013 ∧ k = 2 then 1000 else if i = 1012 ∧ k = 2 then 1000 else if i = 1002 ∧ k = 7 then 0 else if i = 1002 ∧ k = 6 then 3 else if i = 1002 ∧ k = 5 then 0 else if i = 1002 ∧ k = 4 then 0 else ga S i k := fun i k => by
    rw [ga_si, ga_si, ga_sa, ga_sa, ga_sa, ga_sa, ga_sa, ga_sa, ga_sa, ga_sa]
  have G : ∀ k, k ≠ 23 → k ≠ 25 → gi (si (si (sa (sa (sa (sa (sa (sa (sa (sa S 1002 4 0) 1002 5 0) 1002 6 3) 1002 7 0) 1012 2 1000) 1013 2 1000) 1012 3 1000) 1013 3 1000) 1000 25 0) 1000 23 1000) 1000 k = gi S 1000 k := fun k h3 h5 => by
    rw [gi_si, if_neg (fun z => h3 z.2), gi_si, if_neg (fun z => h5 z.2), gi_sa, gi_sa, gi_sa, gi_sa, gi_sa, gi_sa, gi_sa, gi_sa]
  refine wM_begins (d := d + 3) ht ⟨?_, fun k c hk => ?_⟩ (fun S1 f1 g1 t1 => ?_)
  · rw [G 1 (by decide) (by decide)]
    exact hs.1
  · rw [A, if_neg (by omega), if_neg (by omega), if_neg (by omega), if_neg (by omega), if_neg (by omega), if_neg (by omega), if_neg (by omega), if_neg (by omega)]
    exact hs.2 k c hk
  have A1 : ∀ i k, ¬ upA i k → ga S1 i k = ga S i k := fun i k hi => by
    unfold upA at hi
    rw [f1.1 i k (fun z => z), A, if_neg (by omega), if_neg (by omega), if_neg (by omega), if_neg (by omega), if_neg (by omega), if_neg (by omega), if_neg (by omega), if_neg (by omega)]
  have B1 : ∀ i k, gb S1 i k = gb S i k := fun i k => by
    rw [f1.2.1 i k (fun z => z)]
    rfl
  have G50 : gi S1 1000 50 = gi S 1000 50 := by
    rw [f1.2.2.1 50 (by unfold bginF; omega), G 50 (by decide) (by decide)]
  have v0 : ∀ k, k < rWr D0.1 → False := fun k hk => absurd hk (Nat.not_lt_zero _)
  have w0 : ∀ k, k < rWd D0.1 → False := fun k hk => absurd hk (Nat.not_lt_zero _)
  have d1 : dM D0 1000 S1 := by
    refine ⟨⟨?_, ?_, ?_, ?_⟩, fun k hk => (v0 k hk).elim, fun k hk => (w0 k hk).elim, ⟨?_, ?_⟩, ⟨?_, ?_⟩, ?_, ?_⟩
    · rw [f1.1 _ _ (fun z => z), A]; rfl
    · rw [f1.1 _ _ (fun z => z), A]; rfl
    · rw [f1.1 _ _ (fun z => z), A]; rfl
    · rw [f1.1 _ _ (fun z => z), A]; rfl
    · rw [f1.1 _ _ (fun z => z), A]; rfl
    · rw [f1.1 _ _ (fun z => z), A]; rfl
    · rw [f1.1 _ _ (fun z => z), A]; rfl
    · rw [f1.1 _ _ (fun z => z), A]; rfl
    · rw [f1.2.2.1 23 (by unfold bginF; omega), gi_si, if_pos ⟨rfl, rfl⟩]; rfl
    · rw [f1.2.2.1 25 (by unfold bginF; omega), gi_si, if_neg (by decide), gi_si, if_pos ⟨rfl, rfl⟩]; rfl
  have n1 : ¬ upF 1 := by unfold upF; omega
  have n50 : ¬ upF 50 := by unfold upF; omega
  exact ma d Q S1 1000 d1 t1 (by omega) (fun v S' e fU e9 => hE v S' e (fun i k hi => (fU.1 i k hi).trans (A1 i k hi)) (fun i k hi => (fU.2.1 i k hi).trans (B1 i k)) ((fU.2.2.1 50 n50).trans G50) ((fU.2.2.1 1 n1).trans g1) e9) (fun D' S' c' e fU hd hc => hO D' S' c' e (fun i k hi => (fU.1 i k hi).trans (A1 i k hi)) (fun i k hi => (fU.2.1 i k hi).trans (B1 i k)) ((fU.2.2.1 50 n50).trans G50) ((fU.2.2.1 1 n1).trans g1) hd hc.2)
end
/-- the reference, where only what is read was touched -/
theorem MM_U {g : zG} {S S' : aS} (ok : okG g) (h : MM g S) (a : ∀ i k, ¬ upA i k → ga S' i k = ga S i k) (b : ∀ i k, ¬ upB i k → gb S' i k = gb S i k) (g50 : gi S' 1000 50 = gi S 1000 50) (g1 : gi S' 1000 1 = 0) : MM (g.1, g.2.1, g.2.2.1, g.2.2.2.1, []) S' := by
  obtain ⟨h1, ⟨h2, h3, h4⟩, h5, h6, h7⟩ := h
  have fU : frU S (S.1, S.2.1, S'.2.2.1, S'.2.2.2.1, S'.2.2.2.2) := ⟨a, b, fun _ _ => rfl, fun _ _ => rfl⟩
  have hr : RM g.1 (S.1, S.2.1, S'.2.2.1, S'.2.2.2.1, S'.2.2.2.2) := h1.keptU ok.1 fU
  have e : ∀ i, 1027 ≤ i → ∀ k, ga S' i k = ga S i k := fun i hi k => a i k (by unfold upA; omega)
  have e32 : ga S' 1032 = ga S 1032 := funext (e 1032 (by decide))
  have e35 : ga S' 1035 = ga S 1035 := funext (e 1035 (by decide))
  refine ⟨hr, ⟨?_, h3.kept (fun i hi _ => e i hi), h4.kept (fun i hi _ => e i hi)⟩, ⟨g50.trans h5.1, h5.2.1, ?_⟩, h6.kept (fun i hi _ => e i hi) (e 1034 (by decide)) (e 1036 (by decide)), ⟨g1, fun k c hk => by cases hk⟩⟩
  · rw [e32]
    exact h2
  · rw [e35]
    exact h5.2.2
theorem frZ_sr {C : Nat → Prop} {S : aS} {i k v : Nat} (h : C i) : frZ C S (sr S i k v) := fun j m hj => ⟨rfl, rfl, rfl, rfl, by rw [gr_sr, if_neg (fun z => hj (by rw [z.1]; exact h))]⟩
theorem okG_0 {r : zR} (hr : okR r) (hn : okN r) : okG (r, (z0 r, [], []), [], fun _ => none, []) := ⟨hr, hn, ⟨okZ_0 hr, ⟨Nat.zero_le _, fun l hl => by cases hl⟩, ⟨Nat.zero_le _, fun l hl => by cases hl⟩⟩, ⟨Nat.zero_le _, fun l hl => by cases hl⟩⟩
/-- the class, once the draft is the realm -/
theorem XX_new {g : zG} {t q : Nat} {S S1 : aS} {D : zD} {d : Nat} {Q : Value → aS → Prop} (h : XX g t S) (f1 : frF (29 - t) S S1) (okD : okDr D) (d1 : dwX D (29 - t) S1) (g1 : lwX D q (29 - t) S1) (hx : ∀ U, XX (D.1, (z0 D.1, [], []), [], fun _ => none, []) (29 - t) U → Q (.int 0) U) : aWX (d + 2) 37 [.ref 40, .ref (gr (sr (sr (si S1 1 1 0) 0 2 (gr (si S1 1 1 0) 0 3)) 0 3 (gr (si S1 1 1 0) 0 2)) 0 2)] (sr (sr (si S1 1 1 0) 0 2 (gr (si S1 1 1 0) 0 3)) 0 3 (gr (si S1 1 1 0) 0 2)) (fun v6 S7 => aV v6 (aWX (d + 2) 18 [.ref 47] S7 (fun v8 S9 => aV v8 (aBX (d + 2) 117 Q 33 [some (.ref 0), none, none, some (.int 0)] [] S9)))) := by
  obtain ⟨⟨hT, r2, r3, hf⟩, -⟩ := h
  have hu : isT (29 - t) := by rcases hT with rfl | rfl; exact Or.inr rfl; exact Or.inl rfl
  have t23 := hT.six
  have u6 := hu.six
  have n0 : ¬ (0 = 1 ∨ rcX (29 - t) 0) := by unfold rcX; omega
  have e3 : gr (si S1 1 1 0) 0 3 = 29 - t := (f1.1 0 3 n0).2.2.2.2.trans r3
  have e2 : gr (si S1 1 1 0) 0 2 = t := (f1.1 0 2 n0).2.2.2.2.trans r2
  rw [e3, e2]
  have p2 : gr (sr (sr (si S1 1 1 0) 0 2 (29 - t)) 0 3 t) 0 2 = 29 - t := by
    rw [gr_sr, if_neg (by decide), gr_sr, if_pos ⟨rfl, rfl⟩]
  have p3 : gr (sr (sr (si S1 1 1 0) 0 2 (29 - t)) 0 3 t) 0 3 = t := by
    rw [gr_sr, if_pos ⟨rfl, rfl⟩]
  rw [p2]
  have fA : frZ (fun i => i = 0 ∨ i = 1 ∨ 40 ≤ i) S1 (sr (sr (si S1 1 1 0) 0 2 (29 - t)) 0 3 t) := ((frZ_si (Or.inr (Or.inl rfl))).tr (frZ_sr (Or.inl rfl))).tr (frZ_sr (Or.inl rfl))
  have rA : RX D.1 (sr (sr (si S1 1 1 0) 0 2 (29 - t)) 0 3 t) (29 - t) := (dX_of hu okD d1 g1).1.keptZ hu fA (fun i hi => by unfold rcX at hi; omega)
  refine wX_pgBegin okD.1 hu rA (fun S2 f2 h2 => ?_)
  show aWX (d + 2) 18 [.ref 47] S2 _
  refine mX_History_forget ?_
  show aBX (d + 2) 117 Q 33 [some (.ref 0), none, none, some (.int 0)] [] _
  refine bX_FoldedRealm_realm_33 ⟨fun z => absurd z (by decide), fun _ => ⟨vin (by decide), gK_ok (by decide) ⟨Or.inl rfl, ?_⟩⟩⟩
  refine bX_FoldedRealm_realm_33 ⟨fun z => absurd z (by decide), fun _ => ⟨vin (by decide), gK_ok (by decide) ⟨Or.inl rfl, ?_⟩⟩⟩
  refine bX_FoldedRealm_realm_33 ⟨fun z => absurd z (by decide), fun _ => ⟨vin (by decide), gK_ok (by decide) ⟨Or.inl rfl, ?_⟩⟩⟩
  refine bX_FoldedRealm_realm_33 ⟨fun z => absurd z (by decide), fun _ => ⟨vin (by decide), gK_ok (by decide) ⟨Or.inl rfl, ?_⟩⟩⟩
  refine bX_FoldedRealm_realm_33 ⟨fun _ => ?_, fun z => absurd (by decide) z⟩
  rw [show ara 46 (0 : Int32).toNatClampNeg = 128 by decide, show ara 46 ((0 : Int32) + 1).toNatClampNeg = 134 by decide, show ara 46 ((0 : Int32) + 1 + 1).toNatClampNeg = 140 by decide, show ara 46 ((0 : Int32) + 1 + 1 + 1).toNatClampNeg = 146 by decide]
  have fB : frY (fun i => 47 ≤ i) S2 (si (si (si (si (si (si S2 47 1 0) 47 2 0) 128 5 0) 134 5 0) 140 5 0) 146 5 0) := (((((frY_si (C := fun i => 47 ≤ i) (by decide)).tr (frY_si (by decide))).tr (frY_si (by decide))).tr (frY_si (by decide))).tr (frY_si (by decide))).tr (frY_si (by decide))
  have fC : frZ (fun i => i = 0 ∨ i = 1 ∨ 40 ≤ i) S1 (si (si (si (si (si (si S2 47 1 0) 47 2 0) 128 5 0) 134 5 0) 140 5 0) 146 5 0) := (fA.tr (f2.Z.le (fun i hi => by unfold pgC at hi; omega))).tr (fB.Z.le (fun i (hi : 47 ≤ i) => by omega))
  have GB : ∀ i k, gi (si (si (si (si (si (si S2 47 1 0) 47 2 0) 128 5 0) 134 5 0) 140 5 0) 146 5 0) i k = if i = 146 ∧ k = 5 then 0 else if i = 140 ∧ k = 5 then 0 else if i = 134 ∧ k = 5 then 0 else if i = 128 ∧ k = 5 then 0 else if i = 47 ∧ k = 2 then 0 else if i = 47 ∧ k = 1 then 0 else gi S2 i k := fun i k => by
    rw [gi_si, gi_si, gi_si, gi_si, gi_si, gi_si]
  refine hx _ ⟨⟨hu, ?_, ?_, ?_⟩, ?_, ?_, ⟨0, by decide, ?_, ?_, Nat.zero_le _, fun k z hk => by cases hk⟩, fun j hj => ?_, ⟨?_, fun k c hk => by cases hk⟩⟩
  · rw [fB.gr 0 2, f2.gr 0 2]; exact p2
  · rw [fB.gr 0 3, f2.gr 0 3, p3]; omega
  · have hf1 : fld S1 := by
      obtain ⟨q1, q2, q3, q4⟩ := hf
      rcases hT with rfl | rfl
      · exact ⟨(f1.1 17 0 (by unfold rcX; omega)).1.trans q1, f1.2.1.trans q2, (f1.1 20 0 (by unfold rcX; omega)).1.trans q3, f1.2.2.trans q4⟩
      · exact ⟨f1.2.1.trans q1, (f1.1 34 0 (by unfold rcX; omega)).1.trans q2, f1.2.2.trans q3, (f1.1 37 0 (by unfold rcX; omega)).1.trans q4⟩
    exact ⟨(fC 17 0 (by omega)).1.trans hf1.1, (fC 34 0 (by omega)).1.trans hf1.2.1, (fC 20 0 (by omega)).1.trans hf1.2.2.1, (fC 37 0 (by omega)).1.trans hf1.2.2.2⟩
  · exact (dX_of hu okD d1 g1).1.keptZ hu fC (fun i hi => by unfold rcX at hi; omega)
  · exact h2.kept fB (fun i a b => by omega) st_pg
  · rw [GB]; rfl
  · rw [GB]; rfl
  · show gi _ (128 + 6 * j) 5 = 0
    rw [GB]
    rcases show j = 0 ∨ j = 1 ∨ j = 2 ∨ j = 3 by omega with rfl | rfl | rfl | rfl <;> rfl
  · rw [GB, if_neg (by decide), if_neg (by decide), if_neg (by decide), if_neg (by decide), if_neg (by decide), if_neg (by decide), (f2.1 1 1 (by unfold pgC; omega)).1]
    show gi (si S1 1 1 0) 1 1 = nI 0
    rw [gi_si, if_pos ⟨rfl, rfl⟩]
    rfl
/-- the reference, once the draft is the realm -/
theorem MM_new {S : aS} {D : zD} {c d : Nat} {Q : Value → aS → Prop} (okD : okDr D) (h : dM D c S) (hc : c ≤ 2000) (h1 : gi S 1000 1 = 0) (hx : ∀ U, MM (D.1, (z0 D.1, [], []), [], fun _ => none, []) U → Q (.int 0) U) : aWM (d + 3) 34 [.ref 1000] S (fun v4 S5 => aV v4 (aWM (d + 3) 39 [.ref 1000] S5 (fun v6 S7 => aV v6 (vp_in (0 : Int32) 6 ∧ (vp_in (0 : Int32) 5 ∧ (aBM (d + 3) 40 Q 28 [some (.ref 1000), some (.int 0)] [] (si (sa (sa S7 1027 (0 : Int32).toNatClampNeg 0) 1030 (0 : Int32).toNatClampNeg 0) 1000 50 0))))))) := by
  refine wM_lays okD h hc (fun S1 a1 g1 r1 => ?_)
  show aWM (d + 3) 39 [.ref 1000] S1 _
  refine wM_fresh okD.1 r1.1 (fun S2 f2 z2 => ⟨vin (by decide), vin (by decide), ?_⟩)
  rw [c0]
  refine bM_realm_28 ⟨fun z => absurd z (by decide), fun _ => ⟨vin (by decide), ?_⟩⟩
  refine bM_realm_28 ⟨fun z => absurd z (by decide), fun _ => ⟨vin (by decide), ?_⟩⟩
  refine bM_realm_28 ⟨fun z => absurd z (by decide), fun _ => ⟨vin (by decide), ?_⟩⟩
  refine bM_realm_28 ⟨fun z => absurd z (by decide), fun _ => ⟨vin (by decide), ?_⟩⟩
  refine bM_realm_28 ⟨fun _ => ?_, fun z => absurd (by decide) z⟩
  rw [c0, show ((0 : Int32) + 1).toNatClampNeg = 1 by decide, show ((0 : Int32) + 1 + 1).toNatClampNeg = 2 by decide, show ((0 : Int32) + 1 + 1 + 1).toNatClampNeg = 3 by decide]
  have f3 : frM (fun i => 1014 < i) (fun k => k = 50) S2 (sa (sa (sa (sa (si (sa (sa S2 1027 0 0) 1030 0 0) 1000 50 0) 1036 0 (vp_nar .boolean 0)) 1036 1 (vp_nar .boolean 0)) 1036 2 (vp_nar .boolean 0)) 1036 3 (vp_nar .boolean 0)) := ((((((frM_sa (C := fun i => 1014 < i) (F := fun k => k = 50) (by decide)).tr (frM_sa (by decide))).tr (frM_si rfl)).tr (frM_sa (by decide))).tr (frM_sa (by decide))).tr (frM_sa (by decide))).tr (frM_sa (by decide))
  have A : ∀ i k, ga (sa (sa (sa (sa (si (sa (sa S2 1027 0 0) 1030 0 0) 1000 50 0) 1036 0 (vp_nar .boolean 0)) 1036 1 (vp_nar .boolean 0)) 1036 2 (vp_nar .boolean 0)) 1036 3 (vp_nar .boolean 0)) i k = if i = 1036 ∧ k = 3 then 0 else if i = 1036 ∧ k = 2 then 0 else if i = 1036 ∧ k = 1 then 0 else if i = 1036 ∧ k = 0 then 0 else if i = 1030 ∧ k = 0 then 0 else if i = 1027 ∧ k = 0 then 0 else ga S2 i k := fun i k => by
    rw [ga_sa, ga_sa, ga_sa, ga_sa, ga_si, ga_sa, ga_sa]
    rfl
  have e32 : ga (sa (sa (sa (sa (si (sa (sa S2 1027 0 0) 1030 0 0) 1000 50 0) 1036 0 (vp_nar .boolean 0)) 1036 1 (vp_nar .boolean 0)) 1036 2 (vp_nar .boolean 0)) 1036 3 (vp_nar .boolean 0)) 1032 = ga S2 1032 := funext fun k => by
    rw [A, if_neg (by omega), if_neg (by omega), if_neg (by omega), if_neg (by omega), if_neg (by omega), if_neg (by omega)]
  have r2 : RM D.1 S2 := r1.kept f2 (fun i hi => by unfold sC at hi; omega)
  refine hx _ ⟨r2.kept f3 (fun i hi => Or.inr hi), ⟨?_, ⟨?_, fun k c hk => by cases hk⟩, ⟨?_, fun k c hk => by cases hk⟩⟩, ⟨?_, Nat.zero_le _, fun k z hk => by cases hk⟩, fun j hj => ?_, ⟨?_, fun k c hk => by cases hk⟩⟩
  · rw [e32]; exact z2
  · rw [A]; rfl
  · rw [A]; rfl
  · rw [gi_sa, gi_sa, gi_sa, gi_sa, gi_si, if_pos ⟨rfl, rfl⟩]; rfl
  · show ga _ 1036 j = 0
    rw [A]
    rcases show j = 0 ∨ j = 1 ∨ j = 2 ∨ j = 3 by omega with rfl | rfl | rfl | rfl <;> rfl
  · rw [gi_sa, gi_sa, gi_sa, gi_sa, gi_si, if_neg (by decide), gi_sa, gi_sa, f2.2.2.1 1 (fun z => z), g1]
    exact h1
theorem tie_realm : ok_realm Rel := by
  rintro SX SM ⟨g, t, ok, hX, hM⟩
  have hT := hX.1.1
  have hu : isT (29 - t) := by rcases hT with rfl | rfl; exact Or.inr rfl; exact Or.inl rfl
  have hM0 := MM_0 ok hM
  have fl := hX.1.2.2.2
  have h11 : gi SX (29 - t + 11) 0 = 1 := by
    rcases hT with rfl | rfl
    · exact fl.2.1
    · exact fl.1
  have h14 : gi SX (29 - t + 14) 0 = 0 := by
    rcases hT with rfl | rfl
    · exact fl.2.2.2
    · exact fl.2.2.1
  have u6 := hu.six
  refine mX_FoldedRealm_realm (d := 99) ?_
  rw [hX.1.2.2.1]
  refine X_readRealm (m := 58) ok.2.2.2 hu hX.2.2.2.2.2 h11 h14 (fun v S1 f1 ne ma => ?_) (fun D q S1 f1 okD d1 g1 ma => ?_)
  · show aWX 99 104 [.ref 1] S1 _
    refine mX_Tokens_takeOff (d := 98) ⟨fun z => absurd z ne, fun _ => ⟨v, rfl, ?_⟩⟩
    have hX2 : XX (g.1, g.2.1, g.2.2.1, g.2.2.2.1, []) t (si S1 1 1 0) := by
      refine XX_Z hX (f1.1.tr (frZ_si (Or.inl rfl))) (fun i hi => hi.elim Or.inl (fun z => Or.inr (Or.inr (Or.inr z)))) ?_ ?_ ?_
      · rw [gi_si, if_neg (by omega)]; exact f1.2.1
      · rw [gi_si, if_neg (by omega)]; exact f1.2.2
      · rw [gi_si, if_pos ⟨rfl, rfl⟩]
    refine mM_realm (d := 99) (M_readsAll (d := 92) ok.2.2.2 hM0.2.2.2.2 ma (fun v' S' e a b c1 c2 c3 => ⟨fun z => absurd rfl z, fun _ => ⟨?_, (g.1, g.2.1, g.2.2.1, g.2.2.2.1, []), t, ⟨ok.1, ok.2.1, ok.2.2.1, ⟨Nat.zero_le _, fun l hl => by cases hl⟩⟩, hX2, MM_U ok hM0 a b c1 c2⟩⟩) (fun D' S' c' e => by cases e))
    cases e
    rw [c3]
  · show aWX 99 104 [.ref 1] S1 _
    refine mX_Tokens_takeOff (d := 98) ⟨fun _ => ?_, fun z => absurd rfl z⟩
    refine XX_new (d := 97) hX f1 okD d1 g1 (fun U hU => ⟨0, rfl, ?_⟩)
    refine mM_realm (d := 99) (M_readsAll (d := 92) ok.2.2.2 hM0.2.2.2.2 ma (fun v' S' e => by cases e) (fun D' S' c' e a b c1 c2 hd hc => ?_))
    cases e
    exact ⟨fun _ => MM_new (d := 96) okD hd hc c2 (fun V hV => ⟨rfl, _, 29 - t, okG_0 okD.1 okD.2.1, hU, hV⟩), fun z => absurd z (by decide)⟩
