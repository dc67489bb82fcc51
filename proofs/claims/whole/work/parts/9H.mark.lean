/-! the tie: mark, both -/
def putMk (mk : Nat → Option zP) (j : Nat) (p : zP) : Nat → Option zP := fun k => if k = j then some p else mk k
theorem mk1X.kept {r : zR} {S S' : aS} {j : Nat} {o : Option zP} {C : Nat → Prop} (h1 : mk1X r S (128 + 6 * j) o) (hj : j < 4) (hf : frX C S S') (hc : ∀ i, 128 + 6 * j ≤ i → i ≤ 128 + 6 * j + 5 → ¬ C i) : mk1X r S' (128 + 6 * j) o := by
  have g : ∀ k, gi S' (128 + 6 * j) k = gi S (128 + 6 * j) k := fun k => (hf.1 _ k (hc _ (by omega) (by omega))).1
  cases o with
  | none => exact (g 5).trans h1
  | some p =>
    obtain ⟨a1, a2, a3⟩ := h1
    exact ⟨a1, (g 5).trans a2, a3.kept hf.Y hc (st_mk hj)⟩
theorem nI_idx4 (a : Int32) : (a < 0 ∨ ¬ a < 4) ∧ idx 4 a = none ∨ ∃ j, j < 4 ∧ a = nI j ∧ idx 4 a = some j := by
  rcases idx_cases 4 (by decide) a with ⟨e, h⟩ | ⟨j, hj, rfl, e⟩
  · refine Or.inl ⟨?_, e⟩
    by_cases c : a < 0
    · exact Or.inl c
    · obtain ⟨k, hk, rfl⟩ := nI_of c
      refine Or.inr (fun q => ?_)
      have : k < 4 := (nI_ltI (b := 4) hk (by decide)).mp q
      rw [idx_some (by decide) this] at e
      cases e
  · exact Or.inr ⟨j, hj, rfl, e⟩
def mrkC (i : Nat) : Prop := mrC i ∨ i = 1034 ∨ i = 1036
def mrk2 (i : Nat) : Prop := mrkC i ∨ i = 1032
def f50 (k : Nat) : Prop := k = 50
theorem tie_mark : ok_mark Rel := by
  rintro a b hb SX SM ⟨g, t, ok, hX, hM⟩
  have hM0 := MM_0 ok hM
  obtain ⟨⟨hT, g2, g3, g4⟩, k1, k2, k3, k4, k5⟩ := hX
  have hX : XX g t SX := ⟨⟨hT, g2, g3, g4⟩, k1, k2, k3, k4, k5⟩
  rcases nI_idx4 a with ⟨c, -⟩ | ⟨j, hj, rfl, -⟩
  · have fin : ∃ n, (Value.int 0 = Value.int n) ∧ aWM dd 102 [.ref 1000, .int a, .int b] SM (fun v SM1 => v = .int n ∧ Rel SX SM1) := by
      refine ⟨0, rfl, mM_mark (d := 99) (wM_within (d := 98) ?_)⟩
      rw [if_neg (by
        rintro ⟨q1, q2⟩
        rcases c with c | c
        · exact absurd c (Int32.not_lt.mpr q1)
        · exact c (Int32.lt_of_le_of_lt q2 (by decide)))]
      exact ⟨fun _ => ⟨Or.inl rfl, rfl, g, t, ok, hX, hM0⟩, fun q => absurd rfl q⟩
    refine mX_FoldedRealm_mark (d := 99) ⟨fun _ => ⟨Or.inl rfl, fin⟩, fun c0 => ⟨fun c1 => ?_, fun _ => ⟨Or.inl rfl, fin⟩⟩⟩
    rcases c with c | c
    · exact absurd c c0
    · exact absurd c1 c
  · obtain ⟨e1, e2, e3, e4, e5, e6, e7, e8, e9, e10⟩ := pg_st j hj
    have pj : isPg (128 + 6 * j) := Or.inr ⟨j, hj, rfl⟩
    have p4 : isPg 40 := Or.inl rfl
    have hok : ∀ i p, i < 4 → g.2.2.2.1 i = some p → okP g.1 p := fun i p hi e => by
      have := k4 i hi
      rw [e] at this
      exact this.1
    refine mX_FoldedRealm_mark (d := 99) ⟨fun q => absurd q (nI_pos (by omega)), fun _ => ⟨fun _ => ⟨nI_in (by omega) (by decide), ?_⟩, fun q => absurd (nI_lt (b := 4) (by omega) (by decide)) q⟩⟩
    rw [nI_clamp (by omega), e8]
    have hw : (if (0 : Int32) ≤ nI j ∧ nI j ≤ 3 then (1 : Int32) else 0) = 1 := if_pos ⟨Int32.not_lt.mp (nI_pos (by omega)), nI_le (b := 3) (by omega) (by decide)⟩
    obtain ⟨m1, ⟨m2, m3, m4⟩, m5, m6, m7⟩ := hM0
    rcases hb with rfl | rfl
    · refine ⟨fun q => absurd rfl q, fun _ => ?_⟩
      refine wX_pageCopy (d := 97) ok.1 ok.2.2.1 pj p4 (by omega) k2 (fun S1 f1 q1 q2 => ?_)
      refine gK_ok e6 ⟨Or.inr rfl, Or.inr rfl, 1, rfl, ?_⟩
      refine mM_mark (d := 99) (wM_within (d := 98) ?_)
      rw [hw]
      refine ⟨fun q => absurd q (by decide), fun _ => ⟨fun _ => ?_, fun q => absurd rfl q⟩⟩
      refine bM_mark_17 ⟨nI_in (by omega) (by decide), ⟨fun _ => ⟨fun _ => ?_, fun q => absurd rfl q⟩, fun q => absurd rfl q⟩⟩
      refine bM_mark_37 ?_
      rw [nI_clamp (by omega), show (1 : Int32) + nI j = nI (1 + j) from nI_add 1 j, show (Value.int 0) = Value.int (nI 0) from rfl]
      refine wM_lays2 (d := 98) (by decide) (by omega) (by omega) (fun S2 f2 h2 => ⟨fun _ => ?_, fun q => absurd rfl q⟩)
      rw [show (60 : Int32) * nI j = nI (60 * j) by rw [show (60 : Int32) = nI 60 from rfl, nI_mulN]]
      refine wM_copies (d := 98) (p0 := 1032) (a := 0) (p2 := 1034) (b := 60 * j) rfl rfl (by decide) (by decide) (by show 60 * j + 60 ≤ 240; omega) (by decide) (by decide) ?_
      show (_ ∨ _) ∧ _
      have f' : frX (pgC (128 + 6 * j)) SX (si S1 (128 + 6 * j) 5 1) := frX.tr f1 (frX_si ⟨by omega, by omega⟩)
      refine ⟨Or.inr rfl, rfl, (g.1, g.2.1, g.2.2.1, putMk g.2.2.2.1 j g.2.1, g.2.2.2.2), t, ok, ⟨⟨hT, (f'.Y.gr 0 2).trans g2, (f'.Y.gr 0 3).trans g3, g4.kept f'.Y (fun i hi => by unfold pgC; omega)⟩, k1.kept hT f'.Y (fun i hi => ?_), k2.kept f'.Y (fun i a b => ?_) st_pg, k3.kept f' (fun i hi => ?_), fun i hi => ?_, k5.kept f'.Y ?_ ?_⟩, ?_⟩
      · unfold rcX at hi
        unfold pgC
        rcases hT with rfl | rfl <;> omega
      · unfold pgC; omega
      · unfold hC at hi; unfold pgC; omega
      · show mk1X g.1 _ (128 + 6 * i) (if i = j then some g.2.1 else g.2.2.2.1 i)
        by_cases c : i = j
        · subst c
          rw [if_pos rfl]
          refine ⟨ok.2.2.1, by rw [gi_si, if_pos ⟨rfl, rfl⟩], ?_⟩
          refine ⟨q1.1.kept (frX_si (C := fun k => k = 128 + 6 * i) rfl) (fun k hk => ?_), ⟨?_, q1.2.1.2⟩, ?_, ?_⟩
          · obtain ⟨-, -, -, -, -, -, z1, z2, z3⟩ := pj.all
            unfold stC at hk
            rw [z1, z2, z3] at hk
            omega
          · rw [gi_si, if_neg (by simp)]
            exact q1.2.1.1
          · rw [gi_si, if_neg (by simp)]
            exact q1.2.2.1
          · rw [gi_si, if_neg (by simp)]
            exact q1.2.2.2
        · rw [if_neg c]
          exact (k4 i hi).kept hi f' (fun k h1 h2 => by unfold pgC; omega)
      · unfold pgC; omega
      · unfold pgC; omega
      · have F1 : frM mrkC noF (si SM 1000 0 0) (sa (si SM 1000 0 0) 1036 j (vp_nar .boolean 1)) := frM_sa (Or.inr (Or.inr rfl))
        have F2 := frM.tr F1 (f2.le (fun i hi => Or.inl hi) (fun _ q => q))
        have F3 : frM mrkC noF (si SM 1000 0 0) (lay S2 1032 0 1034 (60 * j) 60) := frM.tr F2 (frM_lay (Or.inr (Or.inl rfl)))
        have A1 : ∀ i, 1027 ≤ i → i ≤ 1031 → ∀ k, ga (sa (si SM 1000 0 0) 1036 j (vp_nar .boolean 1)) i k = ga (si SM 1000 0 0) i k := fun i h1 h2 k => by rw [ga_sa, if_neg (by omega)]
        have A2 : ∀ i, i ≠ 1034 → ∀ k, ga (lay S2 1032 0 1034 (60 * j) 60) i k = ga S2 i k := fun i h1 k => by rw [ga_lay, if_neg h1]
        have B2 : ∀ i, 1027 ≤ i → i ≤ 1031 → ∀ k, ga (lay S2 1032 0 1034 (60 * j) 60) i k = ga S2 i k := fun i h1 h2 => A2 i (by omega)
        have A3 : ∀ i, i = 1032 ∨ i = 1034 → ∀ k, ga S2 i k = ga (si SM 1000 0 0) i k := fun i h1 k => by
          rw [f2.1 i k (by unfold mrC; omega), ga_sa, if_neg (by omega)]
        have A4 : ∀ k, ga (lay S2 1032 0 1034 (60 * j) 60) 1034 k = if 60 * j ≤ k ∧ k < 60 * j + 60 then ga (si SM 1000 0 0) 1032 (0 + (k - 60 * j)) else ga (si SM 1000 0 0) 1034 k := fun k => by
          rw [ga_lay, if_pos rfl, A3 1032 (Or.inl rfl), A3 1034 (Or.inr rfl)]
        have A5 : ∀ k, ga (lay S2 1032 0 1034 (60 * j) 60) 1036 k = if k = j then 1 else ga (si SM 1000 0 0) 1036 k := fun k => by
          rw [A2 1036 (by decide), f2.1 1036 k (by unfold mrC; omega), ga_sa]
          by_cases c : k = j
          · rw [if_pos ⟨rfl, c⟩, if_pos c]; rfl
          · rw [if_neg (fun q => c q.2), if_neg c]
        have pg0 := h2.here ok.2.2.1.2 ⟨m3.kept A1, m4.kept A1⟩
        have pg1 := h2.there (m := 0) (by omega) ok.2.2.1.2 ⟨m3.kept A1, m4.kept A1⟩
        refine ⟨m1.kept F3 (fun i hi => by unfold mrkC mrC at hi; omega), ⟨m2.moved ok.1 ok.2.2.1.1 (fun k hk => ?_), pg1.1.kept B2, pg1.2.kept B2⟩, m5.kept F3 (by unfold mrkC mrC; omega) (fun q => q), fun i hi => ?_, ?_⟩
        · rw [A2 1032 (by decide), A3 1032 (Or.inl rfl)]
        · show mk1M g.1 _ i (if i = j then some g.2.1 else g.2.2.2.1 i)
          by_cases c : i = j
          · subst c
            rw [if_pos rfl]
            refine ⟨by rw [A5, if_pos rfl], m2.moved ok.1 ok.2.2.1.1 (fun k hk => ?_), pg0.1.kept B2, pg0.2.kept B2⟩
            rw [A4, if_pos (by omega), show 60 * i + k - 60 * i = k by omega]
          · rw [if_neg c]
            have m6i := m6 i hi
            cases hm : g.2.2.2.1 i with
            | none =>
              rw [hm] at m6i
              show ga _ 1036 i = 0
              rw [A5, if_neg c]
              exact m6i
            | some p =>
              rw [hm] at m6i
              obtain ⟨n1, n2, n3, n4⟩ := m6i
              have okp := hok i p hi hm
              have pg2 := h2.there (m := 1 + i) (by omega) okp.2 ⟨n3.kept A1, n4.kept A1⟩
              refine ⟨by rw [A5, if_neg c]; exact n1, n2.moved ok.1 okp.1 (fun k hk => ?_), pg2.1.kept B2, pg2.2.kept B2⟩
              rw [A4, if_neg (by omega)]
        · exact ⟨(F3.2.2.1 1 (fun q => q)).trans m7.1, fun k c hk => (F3.1 1001 k (by unfold mrkC mrC; omega)).trans (m7.2 k c hk)⟩
    · refine ⟨fun _ => gK_ok e6 ?_, fun q => absurd q (by decide)⟩
      have k4j := k4 j hj
      have m6j := m6 j hj
      cases hm : g.2.2.2.1 j with
      | none =>
        rw [hm] at k4j m6j
        refine ⟨fun q => absurd k4j q, fun _ => ⟨Or.inl rfl, 0, rfl, ?_⟩⟩
        refine mM_mark (d := 99) (wM_within (d := 98) ?_)
        rw [hw]
        refine ⟨fun q => absurd q (by decide), fun _ => ⟨fun q => absurd q (by decide), fun _ => ⟨nI_in (by omega) (by decide), ?_⟩⟩⟩
        rw [nI_clamp (by omega)]
        exact ⟨fun q => absurd m6j q, fun _ => ⟨Or.inl rfl, rfl, g, t, ok, hX, m1, ⟨m2, m3, m4⟩, m5, m6, m7⟩⟩
      | some p =>
        rw [hm] at k4j m6j
        obtain ⟨okp, x1, x2⟩ := k4j
        obtain ⟨n1, n2, n3, n4⟩ := m6j
        refine ⟨fun _ => ?_, fun q => absurd q (by rw [x1]; decide)⟩
        refine wX_pageCopy (d := 97) ok.1 okp p4 pj (by omega) x2 (fun S1 f1 q1 q2 => ?_)
        refine mX_History_forget (d := 98) ?_
        refine ⟨Or.inr rfl, 1, rfl, ?_⟩
        refine mM_mark (d := 99) (wM_within (d := 98) ?_)
        rw [hw]
        refine ⟨fun q => absurd q (by decide), fun _ => ⟨fun q => absurd q (by decide), fun _ => ⟨nI_in (by omega) (by decide), ?_⟩⟩⟩
        rw [nI_clamp (by omega)]
        refine ⟨fun _ => ?_, fun q => absurd q (by rw [n1]; decide)⟩
        refine bM_mark_17 ⟨nI_in (by omega) (by decide), ⟨fun q => absurd q (by decide), fun _ => ⟨fun q => absurd q (by decide), fun _ => ?_⟩⟩⟩
        refine bM_mark_37 ?_
        rw [nI_clamp (by omega), show (1 : Int32) + nI j = nI (1 + j) from nI_add 1 j, show (Value.int 0) = Value.int (nI 0) from rfl]
        refine wM_lays2 (d := 98) (by omega) (by omega) (by omega) (fun S2 f2 h2 => ⟨fun q => absurd q (by decide), fun _ => ?_⟩)
        rw [show (60 : Int32) * nI j = nI (60 * j) by rw [show (60 : Int32) = nI 60 from rfl, nI_mulN]]
        refine wM_copies (d := 98) (p0 := 1034) (a := 60 * j) (p2 := 1032) (b := 0) rfl rfl (by decide) (by show 60 * j + 60 ≤ 240; omega) (by decide) (by decide) (by decide) ?_
        show (_ ∨ _) ∧ _
        have f' : frX (fun i => pgC 40 i ∨ i = 47) SX (si (si S1 47 1 0) 47 2 0) := frX.tr (frX.tr (f1.le (fun i hi => Or.inl hi)) (frX_si (Or.inr rfl))) (frX_si (Or.inr rfl))
        have f3 : frX (fun i => i = 47) S1 (si (si S1 47 1 0) 47 2 0) := frX.tr (frX_si rfl) (frX_si rfl)
        refine ⟨Or.inr rfl, rfl, (g.1, p, [], g.2.2.2.1, g.2.2.2.2), t, ⟨ok.1, ok.2.1, okp, ok.2.2.2⟩, ⟨⟨hT, (f'.Y.gr 0 2).trans g2, (f'.Y.gr 0 3).trans g3, g4.kept f'.Y (fun i hi => by unfold pgC; omega)⟩, k1.kept hT f'.Y (fun i hi => ?_), q1.kept f3.Y (fun i a b => ?_) st_pg, ⟨0, by decide, ?_, ?_, Nat.zero_le _, fun k z hk => by cases hk⟩, k4.kept f'.Y (fun i a b => ?_), k5.kept f'.Y ?_ ?_⟩, ?_⟩
        · unfold rcX at hi
          unfold pgC
          rcases hT with rfl | rfl <;> omega
        · omega
        · rw [gi_si, if_neg (by decide), gi_si, if_pos ⟨rfl, rfl⟩]; rfl
        · rw [gi_si, if_pos ⟨rfl, rfl⟩]; rfl
        · unfold pgC; omega
        · unfold pgC; omega
        · unfold pgC; omega
        · have F1 : frM mrk2 f50 (si SM 1000 0 0) (sa (si SM 1000 0 0) 1036 j (vp_nar .boolean 1)) := frM_sa (Or.inl (Or.inr (Or.inr rfl)))
          have F2 := frM.tr F1 (f2.le (fun i hi => Or.inl (Or.inl hi)) (fun _ q => q.elim))
          have F3 : frM mrk2 f50 (si SM 1000 0 0) (si (lay S2 1034 (60 * j) 1032 0 60) 1000 50 0) := frM.tr (frM.tr F2 (frM_lay (Or.inr rfl))) (frM_si rfl)
          have A1 : ∀ i, 1027 ≤ i → i ≤ 1031 → ∀ k, ga (sa (si SM 1000 0 0) 1036 j (vp_nar .boolean 1)) i k = ga (si SM 1000 0 0) i k := fun i h1 h2 k => by rw [ga_sa, if_neg (by omega)]
          have A2 : ∀ i, i ≠ 1032 → ∀ k, ga (si (lay S2 1034 (60 * j) 1032 0 60) 1000 50 0) i k = ga S2 i k := fun i h1 k => by rw [ga_si, ga_lay, if_neg h1]
          have B2 : ∀ i, 1027 ≤ i → i ≤ 1031 → ∀ k, ga (si (lay S2 1034 (60 * j) 1032 0 60) 1000 50 0) i k = ga S2 i k := fun i h1 h2 => A2 i (by omega)
          have A3 : ∀ i, i = 1032 ∨ i = 1034 → ∀ k, ga S2 i k = ga (si SM 1000 0 0) i k := fun i h1 k => by
            rw [f2.1 i k (by unfold mrC; omega), ga_sa, if_neg (by omega)]
          have A5 : ∀ k, ga (si (lay S2 1034 (60 * j) 1032 0 60) 1000 50 0) 1036 k = ga (si SM 1000 0 0) 1036 k := fun k => by
            rw [A2 1036 (by decide), f2.1 1036 k (by unfold mrC; omega), ga_sa]
            by_cases c : k = j
            · rw [if_pos ⟨rfl, c⟩, c, n1]; rfl
            · rw [if_neg (fun q => c q.2)]
          have pg0 := h2.here okp.2 ⟨n3.kept A1, n4.kept A1⟩
          refine ⟨m1.kept F3 (fun i hi => by unfold mrk2 mrkC mrC at hi; omega), ⟨n2.moved ok.1 okp.1 (fun k hk => ?_), pg0.1.kept B2, pg0.2.kept B2⟩, ⟨by rw [gi_si, if_pos ⟨rfl, rfl⟩]; rfl, Nat.zero_le _, fun k z hk => by cases hk⟩, fun i hi => ?_, ?_⟩
          · rw [ga_si, ga_lay, if_pos rfl, if_pos (by omega), A3 1034 (Or.inr rfl), Nat.zero_add, Nat.sub_zero]
          · have m6i := m6 i hi
            show mk1M g.1 _ i (g.2.2.2.1 i)
            cases hm2 : g.2.2.2.1 i with
            | none =>
              rw [hm2] at m6i
              show ga _ 1036 i = 0
              rw [A5]
              exact m6i
            | some p2 =>
              rw [hm2] at m6i
              obtain ⟨n1', n2', n3', n4'⟩ := m6i
              have okp2 := hok i p2 hi hm2
              have pg2 := h2.there (m := 1 + i) (by omega) okp2.2 ⟨n3'.kept A1, n4'.kept A1⟩
              refine ⟨by rw [A5]; exact n1', n2'.moved ok.1 okp2.1 (fun k hk => ?_), pg2.1.kept B2, pg2.2.kept B2⟩
              rw [A2 1034 (by decide), A3 1034 (Or.inr rfl)]
          · exact ⟨(F3.2.2.1 1 (by unfold f50; decide)).trans m7.1, fun k c hk => (F3.1 1001 k (by unfold mrk2 mrkC mrC; omega)).trans (m7.2 k c hk)⟩
