/-! the tie: mark, both -/
def putMk (mk : Nat → Option zP) (j : Nat) (p : zP) : Nat → Option zP := fun k => if k = j then some p else mk k
theorem mk1X.kept {r : zR} {S S' : aS} {j : Nat} {o : Option zP} {C : Nat → Prop} (h1 : mk1X r S (128 + 6 * j) o) (hj : j < 4) (hf : frX C S S') (hc : ∀ i, 128 + 6 * j ≤ i → i ≤ 128 + 6 * j + 5 → ¬ C i) : mk1X r S' (128 + 6 * j) o := by
  have g : ∀ k, gi S' (128 + 6 * j) k = gi S (128 + 6 * j) k := fun k => (hf.1 _ k (hc _ (by omega) (by omega))).1
  cases o with
  | none => exact (g 5).trans h1
  | some p =>
    obtain ⟨a1, a2, a3⟩ := h1
    exact ⟨a1, (g 5).trans a2, a3.kept hf.Y hc (st_mk hj)⟩
theorem nI_idx4 (a : Int32) : (a < 0 ∨ ¬ a < 4) ∧ idx 4 a = none ∨ ∃ j, j < 4 ∧ a = nI j ∧ idx 4 a = some j := by
  rcases idx_cases 4 (by decide) a with ⟨e, h⟩ | ⟨j, hj, rfl, e⟩
  · refine Or.inl ⟨?_, e⟩
    by_cases c : a < 0
    · exact Or.inl c
    · obtain ⟨k, hk, rfl⟩ := nI_of c
      refine Or.inr (fun q => ?_)
      have : k < 4 := (nI_ltI (b := 4) hk (by decide)).mp q
      rw [idx_some (by decide) this] at e
      cases e
  · exact Or.inr ⟨j, hj, rfl, e⟩
theorem tie_mark : ok_mark Rel := by
  rintro a b hb SX SM ⟨g, t, ok, hX, hM⟩
  have hM0 := MM_0 ok hM
  obtain ⟨⟨hT, g2, g3⟩, k1, k2, k3, k4, k5⟩ := hX
  have hX : XX g t SX := ⟨⟨hT, g2, g3⟩, k1, k2, k3, k4, k5⟩
  rcases nI_idx4 a with ⟨c, -⟩ | ⟨j, hj, rfl, -⟩
  · have fin : ∃ n, (Value.int 0 = Value.int n) ∧ aWM dd 102 [.ref 1000, .int a, .int b] SM (fun v SM1 => v = .int n ∧ Rel SX SM1) := by
      refine ⟨0, rfl, mM_mark (d := 99) (wM_within (d := 98) ?_)⟩
      rw [if_neg (by
        rintro ⟨q1, q2⟩
        rcases c with c | c
        · exact absurd c (Int32.not_lt.mpr q1)
        · exact c (Int32.lt_of_le_of_lt q2 (by decide)))]
      exact ⟨fun _ => ⟨Or.inl rfl, rfl, g, t, ok, hX, hM0⟩, fun q => absurd rfl q⟩
    refine mX_FoldedRealm_mark (d := 99) ⟨fun _ => ⟨Or.inl rfl, fin⟩, fun c0 => ⟨fun c1 => ?_, fun _ => ⟨Or.inl rfl, fin⟩⟩⟩
    rcases c with c | c
    · exact absurd c c0
    · exact absurd c1 c
  · obtain ⟨e1, e2, e3, e4, e5, e6, e7, e8, e9, e10⟩ := pg_st j hj
    have pj : isPg (128 + 6 * j) := Or.inr ⟨j, hj, rfl⟩
    have p4 : isPg 40 := Or.inl rfl
    have hok : ∀ i p, i < 4 → g.2.2.2.1 i = some p → okP g.1 p := fun i p hi e => by
      have := k4 i hi
      rw [e] at this
      exact this.1
    refine mX_FoldedRealm_mark (d := 99) ⟨fun q => absurd q (nI_pos (by omega)), fun _ => ⟨fun _ => ⟨nI_in (by omega) (by decide), ?_⟩, fun q => absurd (nI_lt (b := 4) (by omega) (by decide)) q⟩⟩
    rw [nI_clamp (by omega), e8]
    have hw : (if (0 : Int32) ≤ nI j ∧ nI j ≤ 3 then (1 : Int32) else 0) = 1 := if_pos ⟨Int32.not_lt.mp (nI_pos (by omega)), nI_le (b := 3) (by omega) (by decide)⟩
    obtain ⟨m1, ⟨m2, m3, m4⟩, m5, m6, m7⟩ := hM0
    rcases hb with rfl | rfl
    · refine ⟨fun q => absurd rfl q, fun _ => ?_⟩
      refine wX_pageCopy (d := 97) ok.1 ok.2.2.1 pj p4 (by omega) k2 (fun S1 f1 q1 q2 => ?_)
      refine gK_ok e6 ⟨Or.inr rfl, Or.inr rfl, 1, rfl, ?_⟩
      refine mM_mark (d := 99) (wM_within (d := 98) ?_)
      rw [hw]
      refine ⟨fun q => absurd q (by decide), fun _ => ⟨fun _ => ?_, fun q => absurd rfl q⟩⟩
      refine bM_mark_17 ⟨nI_in (by omega) (by decide), ⟨fun _ => ⟨fun _ => ?_, fun q => absurd rfl q⟩, fun q => absurd rfl q⟩⟩
      refine bM_mark_37 ?_
      rw [nI_clamp (by omega), show (1 : Int32) + nI j = nI (1 + j) from nI_add 1 j, show (0 : Int32) = nI 0 from rfl]
      refine wM_lays2 (d := 98) (by decide) (by omega) (by omega) (fun S2 f2 h2 => ⟨fun _ => ?_, fun q => absurd rfl q⟩)
      rw [show (60 : Int32) * nI j = nI (60 * j) by rw [show (60 : Int32) = nI 60 from rfl, nI_mulN]]
      refine wM_copies (d := 98) (p0 := 1032) (a := 0) (p2 := 1034) (b := 60 * j) rfl rfl (by decide) (by decide) (by show 60 * j + 60 ≤ 240; omega) (by decide) (by decide) ?_
      show (_ ∨ _) ∧ _
      refine ⟨Or.inr rfl, rfl, (g.1, g.2.1, g.2.2.1, putMk g.2.2.2.1 j g.2.1, g.2.2.2.2), t, ok, ⟨⟨hT, ?_, ?_⟩, ?_, ?_, ?_, ?_, ?_⟩, ?_⟩
      all_goals sorry
    · refine ⟨fun _ => ?_, fun q => absurd q (by decide)⟩
      sorry
