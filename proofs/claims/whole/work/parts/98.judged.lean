/-! the tie of judged -/
def jOK (r : zR) (x : zJ) : Prop := okZ r x.1 ∧ (∀ b, x.2.1 = some b → b < 40) ∧ ∀ b, x.2.2 = some b → b < 40
theorem or_some {o : Option Nat} {k b : Nat} (h : o.or (some k) = some b) : o = some b ∨ b = k := by
  cases o with
  | none => cases h; exact Or.inr rfl
  | some c => exact Or.inl h
theorem jOK.step {r : zR} {x : zJ} {l : zL} {k : Nat} (hr : okR r) (h : jOK r x) (hl : okLn r l) (hk : k < 40) : jOK r (jStep r k l x) := by
  obtain ⟨h1, h2, h3⟩ := h
  refine ⟨okZ_line hr h1 hl, fun b hb => ?_, fun b hb => ?_⟩
  · have hb : (if (lineZ r x.1 l).2 = true then x.2.1 else x.2.1.or (some k)) = some b := hb
    split at hb
    · exact h2 b hb
    · rcases or_some hb with q | q
      · exact h2 b q
      · omega
  · have hb : (if (cameL r x.1 l && lastC r (lineZ r x.1 l).1) = true then x.2.2.or (some k) else x.2.2) = some b := hb
    split at hb
    · rcases or_some hb with q | q
      · exact h3 b q
      · omega
    · exact h3 b hb
theorem wsI_ne {o : Option Nat} (h : ∀ b, o = some b → b < 40) : (wsI o = -1 ↔ o = none) ∧ ((0 : Int32) ≤ wsI o ↔ ¬ o = none) := by
  cases o with
  | none => exact ⟨⟨fun _ => rfl, fun _ => rfl⟩, ⟨fun q => absurd q (by decide), fun q => absurd rfl q⟩⟩
  | some b =>
    have hb := h b rfl
    exact ⟨⟨fun q => absurd (show (-1 : Int32) = nI b from q.symm) (m1_ne (by omega)), fun q => (by cases q)⟩, ⟨fun _ q => (by cases q), fun _ => nI_pos' (by omega)⟩⟩
section
variable {d : Nat} {Q : Value → aS → Prop} {S : aS} {r : zR} {z : zS} {t : Nat}
theorem bX_judged18 {w : Int32} {ls : List zL} (hr : okR r) (hT : isT t) (hlen : ls.length ≤ 40) (hls : ∀ l, l ∈ ls → okLn r l) : ∀ m k x S, k + m = ls.length → jOK r x → gr S 0 2 = t → RX r S t → stX r x.1 S 113 → lsX ls S 40 → (∀ S', frY (pcX 113) S S' → stX r (jAll r (ls.drop k) k x).1 S' 113 → aBX (d + 6) 128 Q 18 [some (.ref 0), some (.int w), some (.int (wsI (jAll r (ls.drop k) k x).2.1)), some (.int (wsI (jAll r (ls.drop k) k x).2.2)), some (.int (nI ls.length)), none, none] [] S') → aBX (d + 6) 128 Q 18 [some (.ref 0), some (.int w), some (.int (wsI x.2.1)), some (.int (wsI x.2.2)), some (.int (nI k)), none, none] [] S := by
  have rcp : ∀ i, rcX t i → ¬ pcX 113 i := fun i hi hc => hc.elim (stG_113.rc hT i hi) (rc_sc hT i hi)
  intro m
  induction m with
  | zero =>
    intro k x S hk hj hg h hs hL hx
    obtain rfl : k = ls.length := by omega
    have := hx S frY.rf
    rw [List.drop_length] at this
    exact this hs
  | succ m ih =>
    intro k x S hk hj hg h hs hL hx
    obtain ⟨l, hl⟩ : ∃ l, ls[k]? = some l := ⟨ls[k]'(by omega), List.getElem?_eq_getElem (by omega)⟩
    have hokl := hls l (List.mem_of_getElem? hl)
    have hdrop : ls.drop k = l :: ls.drop (k + 1) := by
      rw [List.drop_eq_getElem_cons (by omega)]
      congr 1
      exact (List.getElem?_eq_some_iff.mp hl).2
    rw [hdrop] at hx
    have hx : ∀ S', frY (pcX 113) S S' → stX r (jAll r (ls.drop (k + 1)) (k + 1) (jStep r k l x)).1 S' 113 → aBX (d + 6) 128 Q 18 [some (.ref 0), some (.int w), some (.int (wsI (jAll r (ls.drop (k + 1)) (k + 1) (jStep r k l x)).2.1)), some (.int (wsI (jAll r (ls.drop (k + 1)) (k + 1) (jStep r k l x)).2.2)), some (.int (nI ls.length)), none, none] [] S' := hx
    have hj2 := hj.step hr hokl (show k < 40 by omega)
    have e2 : gi S 40 2 = nI ls.length := hL.1
    have e45 : ga S 45 k = lnI l := hL.2 k l hl
    refine bX_FoldedRealm_judged_18 ?_
    rw [e2]
    refine ⟨fun q => absurd q (nI_ge (by omega) (by omega)), fun _ => mX_Page_lineAt (d := d + 5) (gK_ok rfl ⟨fun q => absurd q (nI_pos (by omega)), fun _ => ⟨fun q => absurd q (nI_ge (a := k) (b := 40) (by omega) (by decide)), fun _ => gK_ok rfl (gK_ok rfl ⟨nI_in (N := 40) (by omega) (by decide), ?_⟩)⟩⟩)⟩
    rw [nI_clamp (by omega), show ga S (art 40 1) k = lnI l from e45]
    show aWX (d + 6) 97 [.ref 113, .ref (gr S 0 2), .int (lnI l)] S _
    rw [hg]
    refine wX_follow (d := d + 1) hr hj.1 hT h hs hokl (fun S1 hf1 hs1 => ?_)
    have h1 := h.kept hT hf1 rcp
    have hg1 : gr S1 0 2 = t := (hf1.gr 0 2).trans hg
    have hL1 : lsX ls S1 40 := hL.kept (fun k => (hf1.1 40 k (fun q => by unfold pcX scE at q; rw [stC_113] at q; omega)).1) (fun k => (hf1.1 45 k (fun q => by unfold pcX scE at q; rw [stC_113] at q; omega)).2.1)
    have go : ∀ b3, b3 = (jStep r k l x).2.2 → aBX (d + 6) 128 Q 18 [some (.ref 0), some (.int w), some (.int (wsI (jStep r k l x).2.1)), some (.int (wsI b3)), some (.int (nI (k + 1))), none, none] [] S1 := by
      rintro b3 rfl
      exact ih (k + 1) (jStep r k l x) S1 (by omega) hj2 hg1 h1 hs1 hL1 (fun S2 hf2 hs2 => hx S2 (hf1.tr hf2) hs2)
    have e3 : (jStep r k l x).2.2 = if (cameL r x.1 l && lastC r (lineZ r x.1 l).1) = true then x.2.2.or (some k) else x.2.2 := rfl
    have e1 : (jStep r k l x).2.1 = if (lineZ r x.1 l).2 = true then x.2.1 else x.2.1.or (some k) := rfl
    have k42 : aBX (d + 6) 128 Q 42 [some (.ref 0), some (.int w), some (.int (wsI (jStep r k l x).2.1)), some (.int (wsI x.2.2)), some (.int (nI k)), some (.int (lnI l)), some (.int (bB (lineZ r x.1 l).2))] [] S1 := by
      refine bX_FoldedRealm_judged_42 ?_
      rw [(wsI_ne hj.2.2).1, nI_1]
      cases hd : (lineZ r x.1 l).2 with
      | false =>
        refine ⟨fun _ => go x.2.2 ?_, fun q => absurd rfl q⟩
        rw [e3, if_neg (by unfold cameL; rw [hd]; simp)]
      | true =>
        refine ⟨fun q => absurd q (by decide), fun _ => ⟨fun q => go x.2.2 ?_, fun q => ?_⟩⟩
        · cases hf : x.2.2 with
          | none => exact absurd hf q
          | some b =>
            rw [e3, hf]
            split <;> rfl
        · have hokz := hj2.1
          have hwr := hokz.2.1
          have hfo := hr.2.2.1.2
          refine mX_Standing_cameBy (d := d + 5) (gK_ok rfl ?_)
          have hcame : cameL r x.1 l = (decide (l.1 = 0) && decide (zWr (lineZ r x.1 l).1 = 0)) := by unfold cameL; rw [hd, Bool.true_and]
          have hno : cameL r x.1 l = false → aBX (d + 6) 128 Q 18 [some (.ref 0), some (.int w), some (.int (wsI (jStep r k l x).2.1)), some (.int (wsI x.2.2)), some (.int (nI (k + 1))), none, none] [] S1 := fun hc => go x.2.2 (by rw [e3, hc]; rfl)
          have gK0 : ∀ {X : Prop}, X → aG (gK 113 8) X := fun x => gK_ok rfl x
          by_cases c : l.1 = 0
          · have hwl := hokl.2.1 c
            have hwd := hr.2.1
            have el : lnI l = nI l.2 := by unfold lnI; rw [if_pos c]
            rw [el, show gi S1 113 3 = nI (zWr (lineZ r x.1 l).1) from hs1.2.1, nI_eq0 (by have : zWr (lineZ r x.1 l).1 < rFo r := hwr; omega)]
            rw [decide_eq_true c, Bool.true_and] at hcame
            refine ⟨fun q => absurd q (nI_pos (by omega)), fun _ => ⟨fun q => absurd q (nI_ge (a := l.2) (b := 16) (by omega) (by decide)), fun _ => gK0 ⟨fun e => ⟨Or.inl rfl, ?_⟩, fun e => ⟨Or.inr rfl, ?_⟩⟩⟩⟩
            · exact ⟨fun _ => hno (by rw [hcame, decide_eq_false e]), fun q => absurd rfl q⟩
            · refine ⟨fun q => absurd q (by decide), fun _ => ?_⟩
              rw [decide_eq_true e] at hcame
              show aWX (d + 6) 99 [.ref 113, .ref (gr S1 0 2)] S1 _
              rw [hg1]
              refine wX_lastClashes (d := d + 1) (z := (lineZ r x.1 l).1) hr hokz hT h1 hs1 (came_sp hcame) ?_
              have e3' := e3
              rw [hcame, Bool.true_and] at e3'
              cases hb : lastC r (lineZ r x.1 l).1 with
              | false =>
                rw [hb, if_neg (by decide)] at e3'
                exact ⟨fun _ => go x.2.2 e3'.symm, fun q => absurd rfl q⟩
              | true =>
                rw [hb, if_pos rfl, q] at e3'
                exact ⟨fun q => absurd q (by decide), fun _ => go (some k) e3'.symm⟩
          · have hf : cameL r x.1 l = false := by rw [hcame, decide_eq_false c, Bool.false_and]
            have fin : (bB false = 0 → aBX (d + 6) 128 Q 18 [some (.ref 0), some (.int w), some (.int (wsI (jStep r k l x).2.1)), some (.int (wsI x.2.2)), some (.int (nI (k + 1))), none, none] [] S1) := fun _ => hno hf
            by_cases c2 : l.1 = 1
            · have el : lnI l = nI (16 + l.2) := by unfold lnI; rw [if_neg c, if_pos c2]
              have h9 := hokl.2.2 c2
              rw [el]
              exact ⟨fun q => absurd q (nI_pos (by omega)), fun _ => ⟨fun _ => ⟨Or.inl rfl, ⟨fun _ => hno hf, fun q => absurd rfl q⟩⟩, fun q => absurd (nI_le (a := 16) (b := 16 + l.2) (by omega) (by omega)) q⟩⟩
            · have el : lnI l = -1 := by unfold lnI; rw [if_neg c, if_neg c2]
              rw [el]
              exact ⟨fun _ => ⟨Or.inl rfl, ⟨fun _ => hno hf, fun q => absurd rfl q⟩⟩, fun q => absurd (by decide) q⟩
    simp only [aI]
    rw [(wsI_ne hj.2.1).1]
    cases hd : (lineZ r x.1 l).2 with
    | true =>
      rw [hd, if_pos rfl] at e1
      rw [e1, hd] at k42
      exact ⟨fun _ => k42, fun q => absurd q (by decide)⟩
    | false =>
      rw [hd, if_neg (by decide)] at e1
      rw [e1, hd] at k42
      refine ⟨fun q => absurd rfl q, fun _ => ⟨fun q => ?_, fun q => ?_⟩⟩
      · cases hf : x.2.1 with
        | none => exact absurd hf q
        | some b =>
          rw [hf] at k42
          exact k42
      · rw [q] at k42
        exact k42
theorem bM_judged25 {w : Int32} {ls : List zL} (hn : ∀ v w, v < rWd r → w < rWd r → rCl r v w = rCl r w v) (hr : okR r) (hlen : ls.length ≤ 40) (hls : ∀ l, l ∈ ls → okLn r l) : ∀ m k x S, k + m = ls.length → jOK r x → RM r S → stM r x.1 (ga S 1032) 0 → lsM ls S 0 → (∀ S', frM trC trF S S' → stM r (jAll r (ls.drop k) k x).1 (ga S' 1032) 0 → lsM ls S' 0 → aBM (d + 7) 71 Q 25 [some (.ref 1000), some (.int w), some (.int (wsI (jAll r (ls.drop k) k x).2.1)), some (.int (wsI (jAll r (ls.drop k) k x).2.2)), some (.int (nI ls.length)), none] [] S') → aBM (d + 7) 71 Q 25 [some (.ref 1000), some (.int w), some (.int (wsI x.2.1)), some (.int (wsI x.2.2)), some (.int (nI k)), none] [] S := by
  intro m
  induction m with
  | zero =>
    intro k x S hk hj h hs hL hx
    obtain rfl : k = ls.length := by omega
    have := hx S frM.rf
    rw [List.drop_length] at this
    exact this hs hL
  | succ m ih =>
    intro k x S hk hj h hs hL hx
    obtain ⟨l, hl⟩ : ∃ l, ls[k]? = some l := ⟨ls[k]'(by omega), List.getElem?_eq_getElem (by omega)⟩
    have hokl := hls l (List.mem_of_getElem? hl)
    have hdrop : ls.drop k = l :: ls.drop (k + 1) := by
      rw [List.drop_eq_getElem_cons (by omega)]
      congr 1
      exact (List.getElem?_eq_some_iff.mp hl).2
    rw [hdrop] at hx
    have hx : ∀ S', frM trC trF S S' → stM r (jAll r (ls.drop (k + 1)) (k + 1) (jStep r k l x)).1 (ga S' 1032) 0 → lsM ls S' 0 → aBM (d + 7) 71 Q 25 [some (.ref 1000), some (.int w), some (.int (wsI (jAll r (ls.drop (k + 1)) (k + 1) (jStep r k l x)).2.1)), some (.int (wsI (jAll r (ls.drop (k + 1)) (k + 1) (jStep r k l x)).2.2)), some (.int (nI ls.length)), none] [] S' := hx
    have hj2 := hj.step hr hokl (show k < 40 by omega)
    have e2 : ga S 1027 0 = nI ls.length := hL.1
    obtain ⟨L1, L2⟩ := hL.2 k l hl
    rw [Nat.mul_zero, Nat.zero_add] at L1 L2
    refine bM_judged_25 ?_
    rw [c0, e2]
    refine ⟨vin (by decide), fun q => absurd q (nI_ge (by omega) (by omega)), fun _ => wM_goes hr hj.1 h hs hokl (by omega) L1 L2 (fun S1 hf1 hs1 => ?_)⟩
    have h1 := trC_rm h hf1
    have ar : ∀ i, 1027 ≤ i → i ≤ 1031 → ∀ k, ga S1 i k = ga S i k := fun i a b k => hf1.1 i k (by unfold trC rwC eC; omega)
    have hL1 := hL.kept ar
    have go : ∀ b3, b3 = (jStep r k l x).2.2 → aBM (d + 7) 71 Q 25 [some (.ref 1000), some (.int w), some (.int (wsI (jStep r k l x).2.1)), some (.int (wsI b3)), some (.int (nI (k + 1))), none] [] S1 := by
      rintro b3 rfl
      exact ih (k + 1) (jStep r k l x) S1 (by omega) hj2 h1 hs1 hL1 (fun S2 hf2 hs2 => hx S2 (hf1.tr hf2) hs2)
    have e3 : (jStep r k l x).2.2 = if (cameL r x.1 l && lastC r (lineZ r x.1 l).1) = true then x.2.2.or (some k) else x.2.2 := rfl
    have e1 : (jStep r k l x).2.1 = if (lineZ r x.1 l).2 = true then x.2.1 else x.2.1.or (some k) := rfl
    have k41 : aBM (d + 7) 71 Q 41 [some (.ref 1000), some (.int w), some (.int (wsI (jStep r k l x).2.1)), some (.int (wsI x.2.2)), some (.int (nI k)), some (.int (bB (lineZ r x.1 l).2))] [] S1 := by
      refine bM_judged_41 ?_
      have hokz := hj2.1
      have hwr : zWr (lineZ r x.1 l).1 < rFo r := hokz.2.1
      have hfo := hr.2.2.1.2
      rw [(wsI_ne hj.2.2).2, nI_1, nI_clamp (by omega), ar 1028 (by decide) (by decide), L1, nI_eq0 (by have := hokl.1; omega), c1, show ga S1 1032 1 = nI (zWr (lineZ r x.1 l).1) from hs1.2.1, nI_eq0 (by omega)]
      cases hd : (lineZ r x.1 l).2 with
      | false =>
        refine ⟨fun _ => go x.2.2 ?_, fun q => absurd rfl q⟩
        rw [e3, if_neg (by unfold cameL; rw [hd]; simp)]
      | true =>
        have hcame : cameL r x.1 l = (decide (l.1 = 0) && decide (zWr (lineZ r x.1 l).1 = 0)) := by unfold cameL; rw [hd, Bool.true_and]
        refine ⟨fun q => absurd q (by decide), fun _ => ⟨nI_in (by omega) (by decide), fun c => go x.2.2 ?_, fun c => ⟨vin (by decide), fun c4 => go x.2.2 ?_, fun c4 => ⟨fun q => go x.2.2 ?_, fun q => ?_⟩⟩⟩⟩
        · rw [e3, hcame, decide_eq_false c]; rfl
        · rw [e3, hcame, decide_eq_false c4, Bool.and_false]; rfl
        · cases hf : x.2.2 with
          | none => exact absurd hf q
          | some b =>
            rw [e3, hf]
            split <;> rfl
        · have q := Classical.not_not.mp q
          rw [decide_eq_true c, decide_eq_true c4] at hcame
          refine wM_doesLastClash (d := d + 4) (z := (lineZ r x.1 l).1) hn hr hokz h1 hs1 ?_
          have e3' := e3
          rw [hcame] at e3'
          cases hb : lastC r (lineZ r x.1 l).1 with
          | false =>
            rw [hb, if_neg (by decide)] at e3'
            exact ⟨fun _ => go x.2.2 e3'.symm, fun q => absurd rfl q⟩
          | true =>
            rw [hb, if_pos (by decide), q] at e3'
            exact ⟨fun q => absurd q (by decide), fun _ => go (some k) e3'.symm⟩
    simp only [aI]
    rw [(wsI_ne hj.2.1).2]
    cases hd : (lineZ r x.1 l).2 with
    | true =>
      rw [hd, if_pos rfl] at e1
      rw [e1, hd] at k41
      exact ⟨fun _ => k41, fun q => absurd q (by decide)⟩
    | false =>
      rw [hd, if_neg (by decide)] at e1
      rw [e1, hd] at k41
      refine ⟨fun q => absurd rfl q, fun _ => ⟨fun q => ?_, fun q => ?_⟩⟩
      · cases hf : x.2.1 with
        | none => exact absurd hf q
        | some b =>
          rw [hf] at k41
          exact k41
      · rw [Classical.not_not.mp q] at k41
        exact k41
end
theorem tie_judged : ok_judged Rel := by
  intro a
  refine tie_q (fun g t ok hT => ?_)
  obtain ⟨okr, okn, ⟨okz, okl, okd⟩, okt⟩ := id ok
  by_cases hok : (0 : Int32) ≤ a ∧ a ≤ 2
  · obtain ⟨w, hw, rfl⟩ := nI_of2 (n := 2) (by decide) (Int32.not_lt.mpr hok.1) hok.2
    have hw3 : w = 0 ∨ w = 1 ∨ w = 2 := by omega
    have hj0 : jOK g.1 (z0 g.1, none, none) := ⟨okZ_0 okr, fun b q => (by cases q), fun b q => (by cases q)⟩
    refine ⟨if w = 0 then wsI (jAll g.1 g.2.1.2.1 0 (z0 g.1, none, none)).2.1 else if w = 1 then wsI (jAll g.1 g.2.1.2.1 0 (z0 g.1, none, none)).2.2 else zGo (jAll g.1 g.2.1.2.1 0 (z0 g.1, none, none)).1, fun S Q h hx => ?_, fun S Q h hx => ?_⟩
    · refine mX_FoldedRealm_judged (d := 99) ⟨fun q => absurd q (nI_pos (by omega)), fun _ => ⟨fun _ => ?_, fun q => absurd hok.2 q⟩⟩
      rw [h.1.2.1]
      refine wX_stBegin (d := 98) okr hT stG_113 h.2.1 (fun S1 hf1 hs1 => ?_)
      have hf1' : frY (pcX 113) S S1 := hf1.le (fun _ q => Or.inl q)
      have rcp : ∀ i, rcX t i → ¬ pcX 113 i := fun i hi hc => hc.elim (stG_113.rc hT i hi) (rc_sc hT i hi)
      have hL1 : lsX g.2.1.2.1 S1 40 := h.2.2.1.2.1.kept (fun k => (hf1'.1 40 k (fun q => by unfold pcX scE at q; rw [stC_113] at q; omega)).1) (fun k => (hf1'.1 45 k (fun q => by unfold pcX scE at q; rw [stC_113] at q; omega)).2.1)
      refine bX_judged18 (d := 93) (ls := g.2.1.2.1) okr hT okl.1 (fun l hl => okl.2 l hl) g.2.1.2.1.length 0 (z0 g.1, none, none) S1 (by omega) hj0 ((hf1.gr 0 2).trans h.1.2.1) (h.2.1.kept hT hf1' rcp) hs1 hL1 (fun S2 hf2 hs2 => ?_)
      rw [List.drop_zero] at hs2 ⊢
      have hf2' := hf1'.tr hf2
      have hx := hx S2 (hf2'.le (fun i q => q.elim (fun e => Or.inr (by have := stC_113.mp e; omega)) Or.inl))
      have e2 : gi S2 40 2 = nI g.2.1.2.1.length := (hf2'.1 40 2 (fun q => by unfold pcX scE at q; rw [stC_113] at q; omega)).1.trans h.2.2.1.2.1.1
      refine bX_FoldedRealm_judged_18 ?_
      rw [e2, show gi S2 113 6 = _ from hs2.2.2.1]
      refine ⟨fun _ => ?_, fun q => absurd (nI_le (Nat.le_refl _) (by have := okl.1; omega)) q⟩
      rcases hw3 with rfl | rfl | rfl
      · exact ⟨fun _ => ⟨fun q => absurd rfl q, fun _ => hx⟩, fun q => absurd q (by decide)⟩
      · exact ⟨fun _ => ⟨fun _ => hx, fun q => absurd q (by decide)⟩, fun q => absurd q (by decide)⟩
      · exact ⟨fun q => absurd rfl q, fun _ => hx⟩
    · have h' := MM_0 ok h
      refine mM_judged (d := 99) (wM_within (d := 98) ?_)
      rw [if_pos hok]
      refine ⟨fun _ => ?_, fun q => absurd q (by decide)⟩
      have b32 : ∀ k, ga (si S 1000 0 0) 1032 k = ga S 1032 k := fun _ => rfl
      have hf0 : frM scM scF S (si S 1000 0 0) := frM_0
      generalize si S 1000 0 0 = S0 at *
      refine wM_copies (d := 98) (p0 := 1032) (a := 0) (p2 := 1033) (b := 0) rfl rfl (by decide) (by decide) (by decide) (by decide) (by decide) ?_
      have hfl : frM (fun i => i = 1033) nF S0 (lay S0 1032 0 1033 0 60) := frM_lay rfl
      have hr1 := h'.1.kept hfl (fun i hi => by omega)
      refine wM_fresh (d := 98) okr hr1.1 (fun S1 hf1 hs1 => ?_)
      have hf1' : frM trC trF (lay S0 1032 0 1033 0 60) S1 := hf1.le (fun _ q => Or.inr q) (fun _ q => q.elim)
      have hL1 : lsM g.2.1.2.1 S1 0 := h'.2.1.2.1.kept (fun i a b k => (hf1.1 i k (by unfold sC; omega)).trans (hfl.1 i k (by omega)))
      refine bM_judged25 (d := 92) (ls := g.2.1.2.1) okn.2 okr okl.1 (fun l hl => okl.2 l hl) g.2.1.2.1.length 0 (z0 g.1, none, none) S1 (by omega) hj0 (trC_rm hr1 hf1') hs1 hL1 (fun S2 hf2 hs2 hL2 => ?_)
      rw [List.drop_zero] at hs2 ⊢
      obtain ⟨k1, k2⟩ := trial_back (S2 := S2) (hf1'.tr hf2)
      have hx := hx _ (hf0.tr k1) (fun k hk => (k2 k hk).trans (b32 k))
      refine bM_judged_25 ?_
      rw [c0, hL2.1, c2, show ga S2 1032 2 = _ from hs2.2.2.1]
      refine ⟨vin (by decide), fun _ => ⟨vin (by decide), wM_copies (d := 98) (p0 := 1033) (a := 0) (p2 := 1032) (b := 0) rfl rfl (by decide) (by decide) (by decide) (by decide) (by decide) ?_⟩, fun q => absurd (nI_le (Nat.le_refl _) (by have := okl.1; omega)) q⟩
      rcases hw3 with rfl | rfl | rfl
      · exact ⟨fun q => absurd rfl q, fun _ => hx⟩
      · exact ⟨fun _ => ⟨fun q => absurd rfl q, fun _ => hx⟩, fun q => absurd q (by decide)⟩
      · exact ⟨fun _ => ⟨fun _ => hx, fun q => absurd q (by decide)⟩, fun q => absurd q (by decide)⟩
  · refine ⟨-2, fun S Q h hx => ?_, fun S Q h hx => ?_⟩
    · have hx := hx S frY.rf
      exact mX_FoldedRealm_judged (d := 99) ⟨fun _ => hx, fun q1 => ⟨fun q2 => absurd ⟨Int32.not_lt.mp q1, q2⟩ hok, fun _ => hx⟩⟩
    · have hx := hx _ frM_0 (fun _ _ => rfl)
      refine mM_judged (d := 99) (wM_within (d := 98) ?_)
      rw [if_neg hok]
      exact ⟨fun q => absurd rfl q, fun _ => hx⟩
