/-! writing a word: what becomes of a standing; rows of a whole that is full -/
def okY (r : zR) (z : zS) : Prop := (zSe z < rWr r ∨ (rWr r = 0 ∧ zSe z = 0)) ∧ zWr z ≤ rFo r ∧ zSp z ≤ 10 ∧ (∀ f, f < zWr z → zSt z f < rWd r ∧ rFd r (zSt z f) = f) ∧ (∀ w, w < rWd r → zLe z w ≤ 9) ∧ ∀ k f, k < zSp z → f < rFo r → zSk z k f < rWd r ∧ rFd r (zSk z k f) = f
theorem okZ.Y {r : zR} {z : zS} (h : okZ r z) : okY r z := ⟨h.1, Nat.le_of_lt h.2.1, h.2.2⟩
section
variable {d : Nat} {Q : Value → aS → Prop} {S : aS} {r : zR} {z : zS} {t w : Nat} {x : Int32}
theorem wX_hasWholeY (hz : okY r z) (ht : isSt t) (hs : stX r z S t) (h : Q (.int (bI (idx (zSp z) x))) S) : aWX (d + 1) 86 [.ref t, .int x] S Q := by
  have hw := hz.2.2.1
  refine mX_Standing_hasWhole ?_
  simp only [aG, gK, ht.1, hs.2.2.2.1, Nat.beq_refl, cond_true, true_or, or_true, true_and]
  rcases idx_cases (zSp z) (by omega) x with ⟨e, c | ⟨c1, c2⟩⟩ | ⟨j, hj, rfl, e⟩
  · rw [e] at h
    exact ⟨fun _ => h, fun q => absurd c q⟩
  · rw [e] at h
    exact ⟨fun q => absurd q c1, fun _ => ⟨fun _ => h, fun q => absurd c2 q⟩⟩
  · rw [e] at h
    exact ⟨fun q => absurd q (nI_pos (by omega)), fun _ => ⟨fun q => absurd q (nI_ge hj (by omega)), fun _ => ⟨fun q => absurd q (nI_ge (a := j) (b := 10) (by omega) (by decide)), fun _ => h⟩⟩⟩
theorem wM_fallsOffY (hr : okR r) (hz : okY r z) (hw : w < zSp z) (hs : stM r z (ga S 1032) 0) (h : ∀ S', frM sC nF S S' → stM r (zOff z w) (ga S' 1032) 0 → Q .null S') : aWM (d + 1) 56 [.ref 1000, .int (nI w)] S Q := by
  have hsp := hz.2.2.1
  have hwd := hr.2.1
  have hwr := hz.2.1
  have hfo := hr.2.2.1.2
  refine mM_fallsOff ?_
  have e0 : (20 : Int32) + 4 * nI w = nI (20 + 4 * w) := by
    rw [show (4 : Int32) = nI 4 from rfl, show (20 : Int32) = nI 20 from rfl, nI_mulN, nI_add]
  rw [e0]
  have loop : ∀ m k, 20 + 4 * w + k + m = 56 → aBM d 56 Q 6 [some (.ref 1000), none, some (.int (nI (20 + 4 * w + k)))] [] (sft S (20 + 4 * w) k) := by
    intro m
    induction m with
    | zero =>
      intro k hk
      have hk' : 20 + 4 * w + k = 56 := by omega
      rw [hk']
      refine bM_fallsOff_6 ⟨fun _ => ⟨vin (by decide), vin (by decide), ?_⟩, fun q => absurd (show (56 : Int32) ≤ nI 56 by decide) q⟩
      have e1 : ga (sft S (20 + 4 * w) k) 1032 (3 : Int32).toNatClampNeg = nI (zSp z) := by
        show ga (sft S (20 + 4 * w) k) 1032 3 = _
        rw [ga_sft, if_pos rfl, if_neg (by omega)]
        exact hs.2.2.2.1
      have e2 : nI (zSp z) - 1 = nI (zSp z - 1) := by
        have := nI_pred (zSp z - 1)
        rw [show zSp z - 1 + 1 = zSp z by omega] at this
        exact this
      rw [e1, e2]
      refine h _ (frM_sft.tr (frM_sa rfl)) ?_
      have hga : ∀ i, ga (sa (sft S (20 + 4 * w) k) 1032 (3 : Int32).toNatClampNeg (nI (zSp z - 1))) 1032 i = if i = 3 then nI (zSp z - 1) else (if 20 + 4 * w ≤ i ∧ i < 56 then ga S 1032 (i + 4) else ga S 1032 i) := by
        intro i
        rw [ga_sa, ga_sft, if_pos rfl, hk']
        by_cases c : i = 3
        · subst c
          rw [if_pos ⟨rfl, rfl⟩, if_pos rfl]
        · rw [if_neg (fun q => c q.2), if_neg c]
      obtain ⟨s1, s2, s3, s4, s5, s6, s7⟩ := hs
      refine ⟨?_, ?_, ?_, ?_, fun f hf => ?_, fun v hv => ?_, fun j f hj hf => ?_⟩
      · rw [hga, if_neg (by decide), if_neg (by omega)]; exact s1
      · rw [hga, if_neg (by decide), if_neg (by omega)]; exact s2
      · rw [hga, if_neg (by decide), if_neg (by omega)]; exact s3
      · rw [hga, if_pos rfl]; rfl
      · have hf' : f < zWr z := hf
        rw [hga, if_neg (by omega), if_neg (by omega)]; exact s5 f hf
      · rw [hga, if_neg (by omega), if_neg (by omega)]; exact s6 v hv
      · have hj' : j < zSp z - 1 := hj
        rw [hga, if_neg (by omega)]
        show _ = nI (if j < w then zSk z j f else zSk z (j + 1) f)
        by_cases c : j < w
        · rw [if_pos c, if_neg (by omega)]
          exact s7 j f (by omega) hf
        · rw [if_neg c, if_pos (by omega)]
          have := s7 (j + 1) f (by omega) hf
          rw [show 0 + 20 + 4 * (j + 1) + f = 0 + 20 + 4 * j + f + 4 by omega] at this
          exact this
    | succ m ih =>
      intro k hk
      have hn := ih (k + 1) (by omega)
      rw [← sft_step] at hn
      refine bM_fallsOff_6 ⟨fun q => absurd q (nI_ge (a := 20 + 4 * w + k) (b := 56) (by omega) (by decide)), fun _ => ?_⟩
      rw [show (4 : Int32) = nI 4 from rfl, nI_add, nI_clamp (by omega), nI_clamp (by omega), nI_1]
      exact ⟨nI_in (by omega) (by decide), nI_in (by omega) (by decide), hn⟩
  have h9 := loop (36 - 4 * w) 0 (by omega)
  rw [sft_0] at h9
  exact h9
theorem wX_closeGapY (hr : okR r) (hz : okY r z) (ht : isSt t) (hn : stN t) (hw : w < zSp z) (hs : stX r z S t) (h : ∀ S', frX (stC t) S S' → stX r (zOff z w) S' t → Q .null S') : aWX (d + 2) 93 [.ref t, .int (nI w)] S Q := by
  have hsp := hz.2.2.1
  have hfo := hr.2.2.1.2
  refine mX_Standing_closeGap (gK_ok ht.1 (wX_hasWholeY hz ht hs ?_))
  rw [idx_some (by omega) hw]
  refine ⟨fun q => absurd q bI_some, fun _ => gK_ok ht.1 ?_⟩
  have e1 : (nI w + 1) * 4 = nI (4 * (w + 1)) := by
    rw [nI_1, show (4 : Int32) = nI 4 from rfl, nI_mulN, Nat.mul_comm]
  have e2 : nI (4 * (w + 1)) - 4 = nI (4 * w) := by
    rw [show (4 : Int32) = nI 4 from rfl, nI_subN (by omega), show 4 * (w + 1) - 4 = 4 * w by omega]
  have e3 : nI (zSp z) * 4 - nI (4 * (w + 1)) = nI (4 * (zSp z - (w + 1))) := by
    rw [show (4 : Int32) = nI 4 from rfl, nI_mulN, nI_subN (by omega), show zSp z * 4 - 4 * (w + 1) = 4 * (zSp z - (w + 1)) by omega]
  rw [hs.2.2.2.1, e1, e2, e3]
  refine ⟨fun q => absurd q (nI_nlt (b := zSp z) (a := 10) hsp (by decide)), fun _ => gK_ok ht.1 (gK_ok ht.1 (gK_ok ht.1 (gK_ok ht.2.2.2.1 ⟨?_, ?_⟩)))⟩
  · refine ⟨ht.2.2.2.1, nI_pos (by omega), nI_pos (by omega), nI_pos (by omega), ?_, ?_⟩ <;> rw [nI_clamp (by omega), nI_clamp (by omega), ht.2.2.2.2.2.2] <;> omega
  · refine bX_Standing_closeGap_29 (gK_ok ht.1 (gK_ok ht.1 ?_))
    have e4 : gi (scp S (art t 2) (nI (4 * (w + 1))) (art t 2) (nI (4 * w)) (nI (4 * (zSp z - (w + 1))))) t 5 - 1 = nI (zSp z - 1) := by
      show gi S t 5 - 1 = _
      rw [hs.2.2.2.1]
      have := nI_pred (zSp z - 1)
      rw [show zSp z - 1 + 1 = zSp z by omega] at this
      exact this
    rw [e4]
    refine h _ ((frX_scp (Or.inr (Or.inr (Or.inr rfl)))).tr (frX_si (Or.inl rfl))) ?_
    have hga : ∀ i k, ga (si (scp S (art t 2) (nI (4 * (w + 1))) (art t 2) (nI (4 * w)) (nI (4 * (zSp z - (w + 1))))) t 5 (nI (zSp z - 1))) i k = if i = art t 2 then (if 4 * w ≤ k ∧ k < 4 * w + 4 * (zSp z - (w + 1)) then ga S (art t 2) (4 * (w + 1) + (k - 4 * w)) else ga S (art t 2) k) else ga S i k := by
      intro i k
      rw [ga_si]
      exact ga_scpN S _ _ _ _ _ (by omega) (by omega) (by omega) i k
    have hgi : ∀ k, k ≠ 5 → gi (si (scp S (art t 2) (nI (4 * (w + 1))) (art t 2) (nI (4 * w)) (nI (4 * (zSp z - (w + 1))))) t 5 (nI (zSp z - 1))) t k = gi S t k := by
      intro k hk
      rw [gi_si, if_neg (fun q => hk q.2)]
      rfl
    obtain ⟨s1, s2, s3, s4, s5, s6, s7⟩ := hs
    refine ⟨(hgi 4 (by decide)).trans s1, (hgi 3 (by decide)).trans s2, (hgi 6 (by decide)).trans s3, ?_, fun f hf => ?_, fun v hv => ?_, fun j f hj hf => ?_⟩
    · rw [gi_si, if_pos ⟨rfl, rfl⟩]
      rfl
    · rw [hga, if_neg hn.2.2]
      exact s5 f hf
    · rw [hga, if_neg hn.2.1]
      exact s6 v hv
    · have hj' : j < zSp z - 1 := hj
      rw [hga, if_pos rfl]
      show _ = nI (if j < w then zSk z j f else zSk z (j + 1) f)
      by_cases c : j < w
      · rw [if_pos c, if_neg (by omega)]
        exact s7 j f (by omega) hf
      · rw [if_neg c, if_pos (by omega), show 4 * (w + 1) + (4 * j + f - 4 * w) = 4 * (j + 1) + f by omega]
        exact s7 (j + 1) f (by omega) hf
end
def zLay (z : zS) (w : Nat) : zS := ((zSe z, zWr z + 1, zSp z), zGo z, (fun f => if f = zWr z then w else zSt z f), (fun v => if v = w then zLe z v - 1 else zLe z v), zSk z)
def zGd (z : zS) (g : Int32) : zS := (z.1, g, z.2.2)
def zCut (z : zS) : zS := if zSp z = 10 then zOff z 0 else z
def zTop (z : zS) : zS := ((zSe z, zWr z, zSp z + 1), zGo z, zSt z, zLe z, fun k f => if k = zSp z then zSt z f else zSk z k f)
def nxt (r : zR) (z : zS) : Nat := if rWr r = 0 then 0 else (zSe z + 1) % rWr r
def zFin (r : zR) (z : zS) : zS := ((nxt r z, 0, zSp z), z.2)
/-- what a whole does by the words of its strip -/
def doV (r : zR) (z : zS) : Nat := dsV r (zSp z) (nSum (fun i => rGo r (zSt z i)) (rFo r)) (nMax (fun i => rGo r (zSt z i)) (rFo r))
def zEnd (r : zR) (z : zS) : zS := zFin r (zTop (zCut (zGd z (zGo z + nI (doV r z)))))
def zPut (r : zR) (z : zS) (w : Nat) : zS := if zWr z + 1 < rFo r then zLay z w else zEnd r (zLay z w)
theorem okY_lay {r : zR} {z : zS} {w : Nat} (h : okZ r z) (hw : w < rWd r) (hf : rFd r w = zWr z) : okY r (zLay z w) := by
  obtain ⟨h1, h2, h3, h4, h5, h6⟩ := h
  refine ⟨h1, h2, h3, fun f hf2 => ?_, fun v hv => ?_, h6⟩
  · have hf3 : f < zWr z + 1 := hf2
    show (if f = zWr z then w else zSt z f) < rWd r ∧ rFd r (if f = zWr z then w else zSt z f) = f
    by_cases c : f = zWr z
    · rw [if_pos c]; exact ⟨hw, by rw [c]; exact hf⟩
    · rw [if_neg c]; exact h4 f (by omega)
  · show (if v = w then zLe z v - 1 else zLe z v) ≤ 9
    have := h5 v hv
    split <;> omega
theorem okY_off {r : zR} {z : zS} {w : Nat} (h : okY r z) (hw : w < zSp z) : okY r (zOff z w) := by
  obtain ⟨h1, h2, h3, h4, h5, h6⟩ := h
  refine ⟨h1, h2, ?_, h4, h5, fun k f hk hf => ?_⟩
  · show zSp z - 1 ≤ 10
    omega
  · have hk' : k < zSp z - 1 := hk
    show (if k < w then zSk z k f else zSk z (k + 1) f) < rWd r ∧ rFd r (if k < w then zSk z k f else zSk z (k + 1) f) = f
    by_cases c : k < w
    · rw [if_pos c]
      exact h6 k f (by omega) hf
    · rw [if_neg c]
      exact h6 (k + 1) f (by omega) hf
theorem okY_cut {r : zR} {z : zS} (h : okY r z) : okY r (zCut z) ∧ zSp (zCut z) ≤ 9 ∧ zWr (zCut z) = zWr z ∧ zSt (zCut z) = zSt z := by
  have h3 := h.2.2.1
  unfold zCut
  by_cases c : zSp z = 10
  · rw [if_pos c]
    exact ⟨okY_off h (by omega), by show zSp z - 1 ≤ 9; omega, rfl, rfl⟩
  · rw [if_neg c]
    exact ⟨h, by omega, rfl, rfl⟩
theorem okZ_end {r : zR} {z : zS} (hr : okR r) (h : okY r z) (hw : zWr z = rFo r) : okZ r (zEnd r z) := by
  have hg : okY r (zGd z (zGo z + nI (doV r z))) := h
  obtain ⟨⟨h1, h2, h3, h4, h5, h6⟩, c1, c2, c3⟩ := okY_cut hg
  have hfo := hr.2.2.1
  unfold zEnd
  generalize zCut (zGd z (zGo z + nI (doV r z))) = y at *
  have hwy : zWr y = rFo r := c2.trans hw
  refine ⟨?_, ?_, ?_, fun f hf => ?_, h5, fun k f hk hf => ?_⟩
  · show nxt r (zTop y) < rWr r ∨ (rWr r = 0 ∧ nxt r (zTop y) = 0)
    unfold nxt
    by_cases c : rWr r = 0
    · rw [if_pos c]; exact Or.inr ⟨c, rfl⟩
    · rw [if_neg c]; exact Or.inl (Nat.mod_lt _ (by omega))
  · show 0 < rFo r
    omega
  · show zSp y + 1 ≤ 10
    omega
  · exact absurd hf (Nat.not_lt_zero _)
  · have hk2 : k < zSp y + 1 := hk
    show (if k = zSp y then zSt y f else zSk y k f) < rWd r ∧ rFd r (if k = zSp y then zSt y f else zSk y k f) = f
    by_cases c : k = zSp y
    · rw [if_pos c]; exact h4 f (by omega)
    · rw [if_neg c]; exact h6 k f (by omega) hf
theorem okZ_put {r : zR} {z : zS} {w : Nat} (hr : okR r) (h : okZ r z) (hw : w < rWd r) (hf : rFd r w = zWr z) : okZ r (zPut r z w) := by
  have hl := okY_lay h hw hf
  have h2 := h.2.1
  unfold zPut
  by_cases c : zWr z + 1 < rFo r
  · rw [if_pos c]
    exact ⟨hl.1, c, hl.2.2⟩
  · rw [if_neg c]
    exact okZ_end hr hl (by show zWr z + 1 = rFo r; omega)
