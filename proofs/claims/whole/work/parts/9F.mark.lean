/-! the tie: mark -/
def isPg (c : Nat) : Prop := c = 40 ∨ ∃ j, j < 4 ∧ c = 128 + 6 * j
theorem isPg.all {c : Nat} (h : isPg c) : akd c = 4 ∧ art c 0 = c + 1 ∧ art c 1 = c + 5 ∧ akd (c + 5) = 20 ∧ aln (c + 5) = 40 ∧ isSt (c + 1) ∧ art (c + 1) 0 = c + 2 ∧ art (c + 1) 1 = c + 3 ∧ art (c + 1) 2 = c + 4 := by
  rcases h with rfl | ⟨j, hj, rfl⟩
  · exact ⟨rfl, rfl, rfl, rfl, rfl, isSt_all 41 (by decide) rfl, rfl, rfl, rfl⟩
  · obtain ⟨e1, e2, e3, e4, e5, e6, e7, e8, e9, e10⟩ := pg_st j hj
    rw [show 128 + 6 * j + 1 = 129 + 6 * j by omega, show 128 + 6 * j + 5 = 133 + 6 * j by omega]
    exact ⟨e6, e4, e5, e9, e10, isSt_all _ (by omega) e7, by omega, by omega, by omega⟩
theorem isPg.far {c p : Nat} (h : isPg c) (h2 : isPg p) (hne : c ≠ p) : c + 6 ≤ p ∨ p + 6 ≤ c := by
  rcases h with rfl | ⟨j, hj, rfl⟩ <;> rcases h2 with rfl | ⟨k, hk, rfl⟩ <;> omega
def pgC (c i : Nat) : Prop := c ≤ i ∧ i ≤ c + 5
section
variable {d : Nat} {Q : Value → aS → Prop} {S : aS} {r : zR} {c p : Nat}
theorem wX_takeLines {ls : List zL} (hl : ls.length ≤ 40) (hc : isPg c) (hp : isPg p) (hne : c ≠ p) (hs : lsX ls S p) (h : ∀ S', frX (pgC c) S S' → lsX ls S' c → (∀ i k, ¬ (i = c ∧ k = 2) → gi S' i k = gi S i k) → (∀ i k, i ≠ c + 5 → ga S' i k = ga S i k) → Q .null S') : aWX (d + 1) 39 [.ref c, .ref (p + 5), .int (gi S p 2)] S Q := by
  obtain ⟨a1, a2, a3, a4, a5, -⟩ := hc.all
  obtain ⟨b1, b2, b3, b4, b5, -⟩ := hp.all
  have far := hc.far hp hne
  obtain ⟨s1, s2⟩ := hs
  have e40 : (Int32.ofNat (aln (p + 5))) = nI 40 := by rw [b5]; rfl
  have f1 : (if (40 : Int32) < nI 40 then (40 : Int32) else nI 40) = nI 40 := by decide
  have f2 : (if nI 40 < nI ls.length then nI 40 else nI ls.length) = nI ls.length := if_neg (nI_nlt hl (by decide))
  have f3 : (if (0 : Int32) < nI ls.length then nI ls.length else 0) = nI ls.length := by
    by_cases q : ls.length = 0
    · rw [q]; decide
    · exact if_pos (nI_lt (a := 0) (by omega) (by omega))
  refine mX_Page_takeLines ?_
  rw [e40, s1, f1, f2, f3, gi_si, if_pos ⟨rfl, rfl⟩, a3]
  refine gK_ok a1 (gK_ok b4 (gK_ok a1 (gK_ok a1 (gK_ok a1 (gK_ok b4 ⟨acp_ok a4 (by omega) (by omega) (by omega), bX_Page_takeLines_18 ?_⟩)))))
  refine h _ (frX.tr (frX_si ⟨by omega, by omega⟩) (frX_scp ⟨by omega, by omega⟩)) ⟨?_, fun k l hk => ?_⟩ (fun i k hi => ?_) (fun i k hi => ?_)
  · show gi (si S c 2 (nI ls.length)) c 2 = _
    rw [gi_si, if_pos ⟨rfl, rfl⟩]
  · rw [ga_scp, if_pos rfl, nI_clamp (by omega), if_pos (List.getElem?_eq_some_iff.mp hk).1]
    exact s2 k l hk
  · show gi (si S c 2 (nI ls.length)) i k = _
    rw [gi_si, if_neg hi]
  · rw [ga_scp, if_neg hi]
    rfl
theorem wX_pageCopy {z : zP} (hr : okR r) (hz : okP r z) (hc : isPg c) (hp : isPg p) (hne : c ≠ p) (hs : pgX r z S p) (h : ∀ S', frX (pgC c) S S' → pgX r z S' c → gi S' c 5 = gi S c 5 → Q .null S') : aWX (d + 2) 38 [.ref c, .ref p] S Q := by
  obtain ⟨a1, a2, a3, a4, a5, a6, a7, a8, a9⟩ := hc.all
  obtain ⟨b1, b2, b3, b4, b5, b6, b7, b8, b9⟩ := hp.all
  have far := hc.far hp hne
  refine mX_Page_copyFrom (gK_ok a1 (gK_ok a1 (gK_ok b1 ?_)))
  rw [a2, b2]
  have hC : ∀ i, stC (c + 1) i ↔ c + 1 ≤ i ∧ i ≤ c + 4 := fun i => by unfold stC; rw [a7, a8, a9]; omega
  have hP : ∀ i, stC (p + 1) i ↔ p + 1 ≤ i ∧ i ≤ p + 4 := fun i => by unfold stC; rw [b7, b8, b9]; omega
  have hd : stD (c + 1) (p + 1) := by
    refine ⟨fun q => ?_, fun q => ?_, fun q => ?_, fun q => ?_, by omega, by omega, by omega⟩
    all_goals (try rw [b7] at q)
    all_goals (try rw [b8] at q)
    all_goals (try rw [b9] at q)
    all_goals (rw [hC] at q; omega)
  refine wX_copyFrom hr hz.1 a6 b6 hd hs.1 (fun S1 hf1 hs1 => ?_)
  show aBX (d + 1) 38 Q 5 _ [] S1
  refine bX_Page_copyFrom_5 (gK_ok b1 (gK_ok b1 ?_))
  rw [b3]
  have g1 : ∀ i k, ¬ (c + 1 ≤ i ∧ i ≤ c + 4) → gi S1 i k = gi S i k ∧ ga S1 i k = ga S i k := fun i k hi => hf1.1 i k (fun q => hi ((hC i).mp q))
  refine wX_takeLines hz.2.1.1 hc hp hne (hs.2.1.kept (fun k => (g1 p k (by omega)).1) (fun k => (g1 (p + 5) k (by omega)).2)) (fun S2 hf2 hl2 k2 k3 => ?_)
  show aBX (d + 1) 38 Q 11 _ [] S2
  refine bX_Page_copyFrom_11 (gK_ok b1 (gK_ok a1 (gK_ok b1 (gK_ok a1 ?_))))
  rw [gi_si, if_neg (fun q => hne q.1.symm)]
  have e3 : ∀ k, gi S2 p k = gi S p k := fun k => (k2 p k (fun q => hne q.1.symm)).trans (g1 p k (by omega)).1
  obtain ⟨r1, b, r2, r3⟩ := hs.2.2
  refine h _ (frX.tr (frX.tr (frX.tr (hf1.le (fun i hi => by rw [hC] at hi; unfold pgC; omega)) hf2) (frX_si ⟨by omega, by omega⟩)) (frX_si ⟨by omega, by omega⟩)) ⟨?_, ?_, ?_, b, r2, ?_⟩ ?_
  · refine (hs1.kept (C := fun i => i = c ∨ i = c + 5) ⟨fun i k hi => ⟨k2 i k (fun q => hi (Or.inl q.1)), k3 i k (fun q => hi (Or.inr q))⟩, hf2.2⟩ (fun i hi => by rw [hC] at hi; omega)).kept (C := fun i => i = c ∨ i = c + 5) (frX.tr (frX_si (Or.inl rfl)) (frX_si (Or.inl rfl))) (fun i hi => by rw [hC] at hi; omega)
  · refine ⟨?_, hl2.2⟩
    rw [gi_si, if_neg (by simp), gi_si, if_neg (by simp)]
    exact hl2.1
  · rw [gi_si, if_pos ⟨rfl, rfl⟩, e3]
    exact r1
  · rw [gi_si, if_neg (by simp), gi_si, if_pos ⟨rfl, rfl⟩, e3]
    exact r3
  · rw [gi_si, if_neg (by simp), gi_si, if_neg (by simp), ← (g1 c 5 (by omega)).1]
    exact k2 c 5 (by omega)
end
