/-! the class keeps how it was, and gives it back -/
theorem fl16 : ∀ a, a < 32 → 0 ≤ (nI a ^^^ 16) ∧ nI a - nI a / 16 * 16 = nI (a % 16) := by decide +kernel
theorem ara48 : ∀ a, a < 16 → ara 48 a = 49 + 4 * a ∧ akd (49 + 4 * a) = 8 ∧ art (49 + 4 * a) 0 = 50 + 4 * a ∧ art (49 + 4 * a) 1 = 51 + 4 * a ∧ art (49 + 4 * a) 2 = 52 + 4 * a := by decide +kernel
theorem isSt_h {a : Nat} (h : a < 16) : isSt (49 + 4 * a) := isSt_all _ (by omega) (ara48 a h).2.1
theorem stC_h {a i : Nat} (h : a < 16) : stC (49 + 4 * a) i ↔ (49 + 4 * a ≤ i ∧ i ≤ 52 + 4 * a) := by
  obtain ⟨-, -, e1, e2, e3⟩ := ara48 a h
  unfold stC
  rw [e1, e2, e3]
  omega
theorem stC_41 {i : Nat} : stC 41 i ↔ (41 ≤ i ∧ i ≤ 44) := by
  have e1 : art 41 0 = 42 := rfl
  have e2 : art 41 1 = 43 := rfl
  have e3 : art 41 2 = 44 := rfl
  unfold stC
  rw [e1, e2, e3]
  omega
theorem stD_h {a : Nat} (h : a < 16) : stD (49 + 4 * a) 41 ∧ stD 41 (49 + 4 * a) := by
  obtain ⟨-, -, e1, e2, e3⟩ := ara48 a h
  have f1 : art 41 0 = 42 := rfl
  have f2 : art 41 1 = 43 := rfl
  have f3 : art 41 2 = 44 := rfl
  unfold stD
  rw [stC_h h, stC_h h, stC_h h, stC_h h, stC_41, stC_41, stC_41, stC_41, e1, e2, e3, f1, f2, f3]
  omega
/-- the rows of what was kept, from one place on round -/
def hsX (r : zR) (hs : List zS) (S : aS) : Prop := ∃ fi : Nat, fi < 16 ∧ gi S 47 1 = nI fi ∧ gi S 47 2 = nI hs.length ∧ hs.length ≤ 16 ∧ ∀ k z, hs[k]? = some z → okZ r z ∧ stX r z S (49 + 4 * ((fi + k) % 16))
def hC (i : Nat) : Prop := 47 ≤ i ∧ i ≤ 112
section
variable {d : Nat} {Q : Value → aS → Prop} {S : aS} {r : zR} {z : zS} {hs : List zS}
theorem wX_floor16 {a : Nat} (ha : a < 32) (h : Q (.int (nI (a % 16))) S) : aWX (d + 1) 151 [.int (nI a), .int 16] S Q := by
  obtain ⟨e1, e2⟩ := fl16 a ha
  refine mX_Math_floorMod ⟨by decide, fun _ => ?_, fun q => absurd e1 q⟩
  rw [e2]
  exact h
theorem wX_keep (hr : okR r) (hz : okZ r z) (hh : hsX r hs S) (hst : stX r z S 41) (h : ∀ S', frX hC S S' → hsX r (hKeep hs z) S' → Q .null S') : aWX (d + 2) 19 [.ref 47, .ref 41] S Q := by
  obtain ⟨fi, g0, g1, g2, g3, g4⟩ := hh
  refine mX_History_keep ?_
  rw [g1, g2, nI_add]
  refine wX_floor16 (by omega) ?_
  have hx : (fi + hs.length) % 16 < 16 := Nat.mod_lt _ (by decide)
  refine ⟨nI_in hx (by decide), ?_⟩
  rw [nI_clamp (by omega), (ara48 _ hx).1]
  refine wX_copyFrom hr hz (isSt_h hx) (isSt_all 41 (by decide) rfl) (stD_h hx).1 hst (fun S1 hf hs1 => ?_)
  have k1 : gi S1 47 1 = nI fi := (hf.1 47 1 (by rw [stC_h hx]; omega)).1.trans g1
  have k2 : gi S1 47 2 = nI hs.length := (hf.1 47 2 (by rw [stC_h hx]; omega)).1.trans g2
  have hfc : frX hC S S1 := hf.le (fun i hi => by rw [stC_h hx] at hi; unfold hC; omega)
  have old : ∀ k z1, hs[k]? = some z1 → (fi + k) % 16 ≠ (fi + hs.length) % 16 → okZ r z1 ∧ stX r z1 S1 (49 + 4 * ((fi + k) % 16)) := by
    intro k z1 hk hne
    obtain ⟨b1, b2⟩ := g4 k z1 hk
    have hk16 : (fi + k) % 16 < 16 := Nat.mod_lt _ (by decide)
    refine ⟨b1, b2.kept hf (fun i hi => ?_)⟩
    rw [stC_h hk16] at hi
    rw [stC_h hx]
    omega
  have kp : ∀ (i v : Nat) (z1 : zS) (t : Nat), i < 16 → t = 49 + 4 * i → stX r z1 S1 t → ∀ k, stX r z1 (si S1 47 k (nI v)) t := by
    intro i v z1 t hi ht hs2 k
    subst ht
    refine hs2.kept (C := fun j => j = 47) (frX_si rfl) (fun j hj => ?_)
    rw [stC_h hi] at hj
    show ¬ j = 47
    omega
  show (((16 : Int32) ≤ (gi S1 47 2) → _) ∧ _)
  rw [k1, k2, show (16 : Int32) = nI 16 from rfl, nI_leI (by decide) (show hs.length < 2 ^ 31 by omega)]
  unfold hKeep at h
  refine ⟨fun c => ⟨by decide, ?_⟩, fun c => ?_⟩
  · have c16 : hs.length = 16 := by omega
    rw [if_pos c16] at h
    rw [nI_1, show nI (fi + 1) - nI (fi + 1) / nI 16 * nI 16 = nI ((fi + 1) % 16) from (fl16 (fi + 1) (by omega)).2]
    refine h _ (hfc.tr (frX_si (by unfold hC; omega))) ⟨(fi + 1) % 16, Nat.mod_lt _ (by decide), ?_, ?_, ?_, fun k z1 hk => ?_⟩
    · rw [gi_si, if_pos ⟨rfl, rfl⟩]
    · rw [gi_si, if_neg (by decide), k2, List.length_append, List.length_tail, c16]
      rfl
    · rw [List.length_append, List.length_tail, c16]
      exact Nat.le_refl 16
    · have htl : hs.tail.length = 15 := by rw [List.length_tail, c16]
      have hkk : ((fi + 1) % 16 + k) % 16 = (fi + (k + 1)) % 16 := by omega
      rw [hkk]
      have hk16 : (fi + (k + 1)) % 16 < 16 := Nat.mod_lt _ (by decide)
      rcases Nat.lt_trichotomy k 15 with c2 | c2 | c2
      · rw [List.getElem?_append_left (by omega), List.getElem?_tail] at hk
        obtain ⟨b1, b2⟩ := old (k + 1) z1 hk (by omega)
        exact ⟨b1, kp _ _ z1 _ hk16 rfl b2 1⟩
      · subst c2
        rw [List.getElem?_append_right (by omega), htl] at hk
        cases hk
        refine ⟨hz, kp _ _ z _ hk16 rfl ?_ 1⟩
        rw [show (fi + (15 + 1)) % 16 = (fi + hs.length) % 16 by omega]
        exact hs1
      · rw [List.getElem?_eq_none (by rw [List.length_append, htl]; show 15 + 1 ≤ k; omega)] at hk
        cases hk
  · have cl : ¬ hs.length = 16 := by omega
    rw [if_neg cl] at h
    rw [nI_1]
    refine h _ (hfc.tr (frX_si (by unfold hC; omega))) ⟨fi, g0, ?_, ?_, ?_, fun k z1 hk => ?_⟩
    · rw [gi_si, if_neg (by decide)]
      exact k1
    · rw [gi_si, if_pos ⟨rfl, rfl⟩, List.length_append]
      rfl
    · rw [List.length_append]
      show hs.length + 1 ≤ 16
      omega
    · have hk16 : (fi + k) % 16 < 16 := Nat.mod_lt _ (by decide)
      rcases Nat.lt_trichotomy k hs.length with c2 | c2 | c2
      · rw [List.getElem?_append_left c2] at hk
        obtain ⟨b1, b2⟩ := old k z1 hk (by omega)
        exact ⟨b1, kp _ _ z1 _ hk16 rfl b2 2⟩
      · subst c2
        rw [List.getElem?_append_right (Nat.le_refl _), Nat.sub_self] at hk
        cases hk
        exact ⟨hz, kp _ _ z _ hk16 rfl hs1 2⟩
      · rw [List.getElem?_eq_none (by rw [List.length_append]; show hs.length + 1 ≤ k; omega)] at hk
        cases hk
theorem wX_giveBack (hr : okR r) (hh : hsX r hs S) (h0 : hs = [] → Q (.int 0) S) (h : ∀ hs' z S', hs = hs' ++ [z] → frX (fun i => i = 47 ∨ stC 41 i) S S' → hsX r hs' S' → okZ r z → stX r z S' 41 → Q (.int 1) S') : aWX (d + 2) 20 [.ref 47, .ref 41] S Q := by
  obtain ⟨fi, g0, g1, g2, g3, g4⟩ := hh
  refine mX_History_giveBack ?_
  simp only [true_or, or_true, true_and]
  rw [g2]
  refine ⟨fun c => ?_, fun c => ?_⟩
  · obtain ⟨hs', z, rfl⟩ : ∃ hs' z, hs = hs' ++ [z] := by
      have hne : hs ≠ [] := fun q => absurd c (by rw [q]; decide)
      exact ⟨hs.dropLast, hs.getLast hne, (List.dropLast_concat_getLast hne).symm⟩
    have hlen : (hs' ++ [z]).length = hs'.length + 1 := by rw [List.length_append]; rfl
    rw [hlen] at g3
    rw [hlen, nI_pred, gi_si, if_neg (by decide), gi_si, if_pos ⟨rfl, rfl⟩, g1, nI_add]
    refine wX_floor16 (by omega) ?_
    have hx : (fi + hs'.length) % 16 < 16 := Nat.mod_lt _ (by decide)
    refine ⟨nI_in hx (by decide), ?_⟩
    rw [nI_clamp (by omega), (ara48 _ hx).1]
    obtain ⟨a1, a2⟩ := g4 hs'.length z (by rw [List.getElem?_append_right (Nat.le_refl _), Nat.sub_self]; rfl)
    have f0 : frX (fun i => i = 47 ∨ stC 41 i) S (si S 47 2 (nI hs'.length)) := frX_si (Or.inl rfl)
    have kp : ∀ (S1 : aS) (i : Nat) (z1 : zS), frX (fun i => i = 47 ∨ stC 41 i) S S1 → i < 16 → stX r z1 S (49 + 4 * i) → stX r z1 S1 (49 + 4 * i) := by
      intro S1 i z1 hf hi hs2
      refine hs2.kept hf (fun j hj => ?_)
      rw [stC_h hi] at hj
      rw [stC_41]
      omega
    refine wX_copyFrom hr a1 (isSt_all 41 (by decide) rfl) (isSt_h hx) (stD_h hx).2 (kp _ _ z f0 hx a2) (fun S1 hf hs1 => ?_)
    have hf1 : frX (fun i => i = 47 ∨ stC 41 i) S S1 := f0.tr (hf.le (fun i hi => Or.inr hi))
    refine h hs' z S1 rfl hf1 ⟨fi, g0, ?_, ?_, by omega, fun k z1 hk => ?_⟩ a1 hs1
    · rw [(hf.1 47 1 (by rw [stC_41]; omega)).1, gi_si, if_neg (by decide)]
      exact g1
    · rw [(hf.1 47 2 (by rw [stC_41]; omega)).1, gi_si, if_pos ⟨rfl, rfl⟩]
    · have hlt : k < hs'.length := (List.getElem?_eq_some_iff.mp hk).1
      obtain ⟨b1, b2⟩ := g4 k z1 (by rw [List.getElem?_append_left hlt]; exact hk)
      exact ⟨b1, kp S1 _ z1 hf1 (Nat.mod_lt _ (by decide)) b2⟩
  · refine h0 ?_
    cases hs with
    | nil => rfl
    | cons a t => exact absurd (by show nI 0 < nI (t.length + 1); exact nI_lt (by omega) (by simp only [List.length_cons] at g3; omega)) c
end
