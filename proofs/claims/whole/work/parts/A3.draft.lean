/-! the draft of the reference -/
def loU (S : aS) (l o n c : Nat) : Option zF → Prop
  | some F => ∃ h cs a, eEx o h cs F ∧ h ≤ 6 ∧ ga S 1012 (2 + l) = nI a ∧ ga S 1013 (2 + l) = nI (a + cs.length) ∧ 1000 ≤ a ∧ a + cs.length ≤ c ∧ cAt S a cs ∧ dep n F
  | none => ga S 1012 (2 + l) = 1000 ∧ ga S 1013 (2 + l) = 1000
def dM (D : zD) (c : Nat) (S : aS) : Prop := (ga S 1002 4 = nI (rWr D.1) ∧ ga S 1002 5 = nI (rWd D.1) ∧ ga S 1002 6 = nI (rFo D.1) ∧ ga S 1002 7 = nI (rPa D.1)) ∧ (∀ k, k < rWr D.1 → ga S 1005 (5 + k) = nI (rKi D.1 k) ∧ gb S 1003 (5 + k) = lN (enc 27 (D.2.1 k)) ∧ ∀ w, w < 12 → ga S 1010 (60 + 12 * k + w) = nI (rLi D.1 k w)) ∧ (∀ w, w < rWd D.1 → ga S 1006 (12 + w) = nI (rFd D.1 w) ∧ ga S 1007 (12 + w) = nI (rWe D.1 w) ∧ ga S 1008 (12 + w) = nI (rGo D.1 w) ∧ ga S 1009 (12 + w) = nI (rLe D.1 w) ∧ gb S 1004 (12 + w) = lN (enc 27 (rNm D.1 w)) ∧ ∃ x, clB D.1 w x ∧ ga S 1011 (12 + w) = nI x) ∧ loU S 0 1 5 c (rWf D.1) ∧ loU S 1 6 3 c (rDf D.1) ∧ gi S 1000 23 = nI c ∧ gi S 1000 25 = bT D.2.2
theorem loM.keptU {S S' : aS} {l o n : Nat} {f : Option zF} (hl : l < 2) (h : loM S l o n f) (hf : frU S S') : loM S' l o n f := by
  have a2 : ∀ i, i = 1012 ∨ i = 1013 → ga S' i l = ga S i l := fun i hi => hf.1 i l (by unfold upA; omega)
  cases f with
  | none =>
    show ga S' 1013 l = ga S' 1012 l
    rw [a2 1013 (Or.inr rfl), a2 1012 (Or.inl rfl)]
    exact h
  | some F =>
    obtain ⟨hh, cs, a, e1, e2, e3, e4, e5, e6, e7⟩ := h
    refine ⟨hh, cs, a, e1, e2, (a2 1012 (Or.inl rfl)).trans e3, (a2 1013 (Or.inr rfl)).trans e4, e5, fun i c hi => ?_, e7⟩
    have := (List.getElem?_eq_some_iff.mp hi).1
    rw [hf.1 1014 _ (by unfold upA; omega)]
    exact e6 i c hi
theorem RM.keptU {r : zR} {S S' : aS} (hr : okR r) (h : RM r S) (hf : frU S S') : RM r S' := by
  obtain ⟨⟨a1, a2, a3, a4, a5, a6, a7, a8, a9, a10⟩, h2, h3, h4, h5⟩ := h
  have hwr := hr.1
  have hwd := hr.2.1
  have g : ∀ i k, ¬ upA i k → ga S' i k = ga S i k := hf.1
  refine ⟨⟨?_, ?_, ?_, ?_, fun k hk => ?_, fun w hw => ?_, fun w hw => ?_, fun w hw => ?_, fun w hw => ?_, fun k w hk hw => ?_⟩, h2.keptU (by decide) hf, h3.keptU (by decide) hf, fun v hv => ?_, fun w hw => ?_⟩
  · rw [g _ _ (by unfold upA; omega)]; exact a1
  · rw [g _ _ (by unfold upA; omega)]; exact a2
  · rw [g _ _ (by unfold upA; omega)]; exact a3
  · rw [g _ _ (by unfold upA; omega)]; exact a4
  · rw [g _ _ (by unfold upA; omega)]; exact a5 k hk
  · rw [g _ _ (by unfold upA; omega)]; exact a6 w hw
  · rw [g _ _ (by unfold upA; omega)]; exact a7 w hw
  · rw [g _ _ (by unfold upA; omega)]; exact a8 w hw
  · rw [g _ _ (by unfold upA; omega)]; exact a9 w hw
  · rw [g _ _ (by unfold upA; omega)]; exact a10 k w hk hw
  · obtain ⟨c, c1, c2⟩ := h4 v hv
    exact ⟨c, c1, by rw [g _ _ (by unfold upA; omega)]; exact c2⟩
  · rw [hf.2.1 _ _ (by unfold upB; omega)]; exact h5 w hw
