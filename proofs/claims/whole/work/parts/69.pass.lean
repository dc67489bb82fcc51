/-! the seat moves on, a step back: the class -/
/-- the cells of a Realm -/
def reC (t i : Nat) : Prop := t ≤ i ∧ i ≤ t + 16
theorem art_re : ∀ t, t = 6 ∨ t = 23 → ∀ k, k < 16 → art t k = 0 ∨ reC t (art t k) := by
  rintro t (rfl | rfl)
  · have key : ∀ k, k < 16 → (Nat.beq (art 6 k) 0 || (Nat.ble 6 (art 6 k) && Nat.ble (art 6 k) 22)) = true := by decide +kernel
    intro k hk
    rcases (Bool.or_eq_true _ _).mp (key k hk) with q | q
    · exact Or.inl (Nat.eq_of_beq_eq_true q)
    · obtain ⟨a, b⟩ := (Bool.and_eq_true _ _).mp q
      exact Or.inr ⟨Nat.le_of_ble_eq_true a, Nat.le_of_ble_eq_true b⟩
  · have key : ∀ k, k < 16 → (Nat.beq (art 23 k) 0 || (Nat.ble 23 (art 23 k) && Nat.ble (art 23 k) 39)) = true := by decide +kernel
    intro k hk
    rcases (Bool.or_eq_true _ _).mp (key k hk) with q | q
    · exact Or.inl (Nat.eq_of_beq_eq_true q)
    · obtain ⟨a, b⟩ := (Bool.and_eq_true _ _).mp q
      exact Or.inr ⟨Nat.le_of_ble_eq_true a, Nat.le_of_ble_eq_true b⟩
/-- which cell the realm is -/
def isT (t : Nat) : Prop := t = 6 ∨ t = 23
theorem isT.re {t : Nat} (h : isT t) : isRe t := by
  rcases h with rfl | rfl
  · exact isRe_6
  · exact isRe_23
theorem rlX.kept {r : zR} {S S' : aS} {t : Nat} {C : Nat → Prop} (ht : isT t) (h : rlX r S t) (hf : frX C S S') (hc : ∀ i, reC t i → ¬ C i) : rlX r S' t := by
  have g : ∀ k, gi S' t k = gi S t k := fun k => (hf.1 t k (hc t ⟨Nat.le_refl _, Nat.le_add_right _ _⟩)).1
  have a : ∀ j, j = 1 ∨ j = 4 ∨ j = 5 ∨ j = 6 ∨ j = 7 ∨ j = 9 → ∀ k, ga S' (art t j) k = ga S (art t j) k := by
    intro j hj k
    have hr : reC t (art t j) := by
      rcases ht with rfl | rfl <;> rcases hj with rfl | rfl | rfl | rfl | rfl | rfl <;> exact ⟨by decide, by decide⟩
    exact (hf.1 _ k (hc _ hr)).2
  unfold rlX
  simp only [g, a 1 (by simp), a 4 (by simp), a 5 (by simp), a 6 (by simp), a 7 (by simp), a 9 (by simp)]
  exact h
theorem hsX.kept {r : zR} {hs : List zS} {S S' : aS} {C : Nat → Prop} (h : hsX r hs S) (hf : frX C S S') (hc : ∀ i, hC i → ¬ C i) : hsX r hs S' := by
  obtain ⟨fi, g0, g1, g2, g3, g4⟩ := h
  have n47 := hc 47 (by unfold hC; omega)
  refine ⟨fi, g0, (hf.1 47 1 n47).1.trans g1, (hf.1 47 2 n47).1.trans g2, g3, fun k z hk => ?_⟩
  obtain ⟨b1, b2⟩ := g4 k z hk
  have hlt : (fi + k) % 16 < 16 := Nat.mod_lt _ (by decide)
  refine ⟨b1, b2.kept hf (fun i hi => hc i ?_)⟩
  rw [stC_h hlt] at hi
  unfold hC
  omega
section
variable {d : Nat} {Q : Value → aS → Prop} {S : aS} {r : zR} {z : zS} {hs : List zS} {t : Nat}
theorem wX_pass (hr : okR r) (hz : okZ r z) (hg : gr S 0 2 = t) (ht : isT t) (hrl : rlX r S t) (hs1 : stX r z S 41) (hh : hsX r hs S) (h0 : canP r z = false → Q (.int (-1)) S)
    (h : canP r z = true → ∀ S', frX (fun i => hC i ∨ i = 41) S S' → hsX r (hKeep hs z) S' → stX r (zSeat z (nxS r z)) S' 41 → Q (.int (nI (nxS r z))) S') : aWX (d + 4) 125 [.ref 0] S Q := by
  have hw := hr.1
  have hwr := hz.2.1
  have hfo := hr.2.2.1.2
  refine mX_FoldedRealm_pass ?_
  rw [hg]
  refine wX_canMoveSeat (z := z) hr hz (isSt_all 41 (by decide) rfl) hs1 ht.re hrl ?_
  cases hc : canP r z with
  | false => exact ⟨fun q => absurd rfl q, fun _ => h0 hc⟩
  | true =>
    have hwp : 0 < rWr r := by
      unfold canP at hc
      exact of_decide_eq_true ((Bool.and_eq_true _ _).mp hc).2
    have hse : zSe z < rWr r := by
      rcases hz.1 with q | q
      · exact q
      · omega
    refine ⟨fun _ => ?_, fun q => absurd q (by decide)⟩
    refine wX_keep hr hz hh hs1 (fun S5 hf hk => ?_)
    have hg5 : gr S5 0 2 = t := by
      have : S5.2.2.1 = S.2.2.1 := hf.2.2.1
      show S5.2.2.1 0 2 = t
      rw [this]
      exact hg
    have hreC : ∀ i, reC t i → ¬ hC i := by
      intro i hi
      unfold reC at hi
      unfold hC
      rcases ht with rfl | rfl <;> omega
    have hrl5 := hrl.kept ht hf hreC
    have hs5 : stX r z S5 41 := hs1.kept hf (fun i hi => by rw [stC_41] at hi; unfold hC; omega)
    show aWX (d + 3) 95 [.ref 41, .ref (gr S5 0 2)] S5 _
    rw [hg5]
    refine mX_Standing_moveSeat (gK_ok rfl (gK_ok rfl ?_))
    rw [hs5.1]
    refine wX_seatBehind hr ht.re hrl5 ?_
    show aG (gK 41 8) (aV Value.null (Q (Value.int (gi (si S5 41 4 (pNext r (nI (zSe z)))) 41 4)) (si S5 41 4 (pNext r (nI (zSe z))))))
    refine gK_ok rfl ?_
    have e3 : pNext r (nI (zSe z)) = nI (nxS r z) := by
      unfold pNext
      rw [if_neg (by omega), nI_1]
      exact md5 _ (by omega) (by omega) _ (by omega)
    rw [e3]
    show Q (.int (gi (si S5 41 4 (nI (nxS r z))) 41 4)) (si S5 41 4 (nI (nxS r z)))
    have e4 : gi (si S5 41 4 (nI (nxS r z))) 41 4 = nI (nxS r z) := by rw [gi_si, if_pos ⟨rfl, rfl⟩]
    rw [e4]
    refine h hc _ ((hf.le (fun i hi => Or.inl hi)).tr (frX_si (Or.inr rfl))) (hk.kept (C := fun i => i = 41) (frX_si rfl) (fun i hi => by unfold hC at hi; omega)) ?_
    obtain ⟨s1, s2, s3, s4, s5, s6, s7⟩ := hs5
    refine ⟨e4, ?_, ?_, ?_, s5, s6, s7⟩
    · rw [gi_si, if_neg (by decide)]; exact s2
    · rw [gi_si, if_neg (by decide)]; exact s3
    · rw [gi_si, if_neg (by decide)]; exact s4
theorem wX_undo (hr : okR r) (hh : hsX r hs S) (h0 : hs = [] → Q (.int 0) S) (h : ∀ hs' z S', hs = hs' ++ [z] → frX (fun i => i = 47 ∨ stC 41 i) S S' → hsX r hs' S' → okZ r z → stX r z S' 41 → Q (.int 1) S') : aWX (d + 3) 127 [.ref 0] S Q :=
  mX_FoldedRealm_undo (wX_giveBack hr hh (fun e => ⟨Or.inl rfl, h0 e⟩) (fun hs' z S' e1 e2 e3 e4 e5 => ⟨Or.inr rfl, h hs' z S' e1 e2 e3 e4 e5⟩))
end
