/-! the tie: rests -/
theorem isPz_in (x : Int32) : (if (0 : Int32) ≤ x ∧ x ≤ 9 then (1 : Int32) else 0) = isPz x := by
  unfold isPz
  by_cases a : x < 0
  · rw [if_pos a, if_neg (fun q => absurd a (Int32.not_lt.mpr q.1))]
  · rw [if_neg a]
    by_cases b : 9 < x
    · rw [if_pos b, if_neg (fun q => absurd b (Int32.not_lt.mpr q.2))]
    · rw [if_neg b, if_pos ⟨Int32.not_lt.mp a, Int32.not_lt.mp b⟩]
theorem isPz_or (x : Int32) : isPz x = 0 ∨ isPz x = 1 := by
  unfold isPz
  by_cases a : x < 0
  · rw [if_pos a]; exact Or.inl rfl
  · rw [if_neg a]
    by_cases b : 9 < x
    · rw [if_pos b]; exact Or.inl rfl
    · rw [if_neg b]; exact Or.inr rfl
theorem oneP_k : ∀ k, k < 4 → oneP (nI k) = nI k / 2 ∧ othP (nI k) = nI k - nI k / 2 * 2 := by decide +kernel
theorem wM_gets {d : Nat} {Q : Value → aS → Prop} {S : aS} {a b n x y : Int32} (h : Q (.int (pzX x y a b n)) S) : aWM (d + 1) 97 [.int a, .int b, .int n, .int x, .int y] S Q := by
  unfold pzX at h
  refine mM_getsBy ⟨fun c => ⟨fun c2 => ?_, fun c2 => ?_⟩, fun c => ⟨fun c2 => ?_, fun c2 => ?_⟩⟩
  · rw [if_neg c, if_neg c2] at h; exact h
  · rw [if_neg c, if_pos c2] at h; exact h
  · rw [if_pos c, if_neg c2] at h; exact h
  · rw [if_pos c, if_pos c2] at h; exact h
theorem rL_no {a b n w : Int32} (hw : w < -1) : ∀ m k f, f + m ≤ 4 → rL a b n w m k (nI f) = none
  | 0, k, f, _ => by
    unfold rL
    rw [if_neg (fun q => by rw [q] at hw; exact absurd hw (by decide))]
  | m + 1, k, f, h => by
    unfold rL
    have c : ¬ nI f = w := fun q => by
      rw [← q] at hw
      have := Int32.lt_trans hw (show (-1 : Int32) < 0 by decide)
      exact absurd this (nI_pos (by omega))
    rw [if_neg c, nI_1, rL_no hw m (k + 1) (f + 1) (by omega), rL_no hw m (k + 1) f (by omega)]
    exact ite_self _
theorem tie_rests : ok_rests Rel := by
  rintro a b n w SX SM ⟨g, t, ok, hX, hM⟩
  have R0 : ∀ v, Rel SX (si SM 1000 0 v) := fun v => ⟨g, t, ok, hX, hM.kept ok (frM_si (by unfold scF; omega)) (fun _ _ => rfl)⟩
  have R1 : ∀ u v, Rel SX (si (si SM 1000 0 u) 1000 0 v) := fun u v => ⟨g, t, ok, hX, hM.kept ok (frM.tr (frM_si (by unfold scF; omega)) (frM_si (by unfold scF; omega))) (fun _ _ => rfl)⟩
  have e1 : ∀ S v, gi (si S 1000 0 v) 1000 0 = v := fun S v => by rw [gi_si, if_pos ⟨rfl, rfl⟩]
  have thr : restP a b n w = none → ∃ rv, Value.int 0 = Value.int rv ∧ aWM dd 0 [.ref 1000] (si SM 1000 0 1) (fun v2 SM2 => ((restP a b n w = none ∧ v2 = .int 1) ∨ (restP a b n w = some rv ∧ v2 = .int 0)) ∧ Rel SX SM2) := fun e => by
    refine ⟨0, rfl, mM_thrown (d := 99) ⟨Or.inl ⟨e, ?_⟩, R0 1⟩⟩
    rw [e1]
  have loop : isPz a = 1 ∧ isPz b = 1 ∧ isPz n = 1 → ∀ m k f, k + m = 4 → restP a b n w = rL a b n w m k f → aBM 99 98 (fun v SM1 => ∃ rv, v = .int rv ∧ aWM dd 0 [.ref 1000] SM1 (fun v2 SM2 => ((restP a b n w = none ∧ v2 = .int 1) ∨ (restP a b n w = some rv ∧ v2 = .int 0)) ∧ Rel SX SM2)) 33 [some (.ref 1000), some (.int a), some (.int b), some (.int n), some (.int w), some (.int f), some (.int (nI k)), none, none] [] (si SM 1000 0 0) := by
    intro hp m
    induction m with
    | zero =>
      intro k f hk e
      obtain rfl : k = 4 := by omega
      refine bM_rests_33 ⟨fun _ => ⟨fun c => ⟨fun _ => ?_, fun q => absurd q c⟩, fun c => ⟨fun q => absurd c q, fun _ => ?_⟩⟩, fun q => absurd (by decide) q⟩
      · refine ⟨0, rfl, mM_thrown (d := 99) ⟨Or.inl ⟨e.trans (if_neg c), ?_⟩, R1 0 1⟩⟩
        rw [e1]
      · refine ⟨f, rfl, mM_thrown (d := 99) ⟨Or.inr ⟨e.trans (if_pos c), ?_⟩, R1 0 0⟩⟩
        rw [e1]
    | succ m ih =>
      intro k f hk e
      obtain ⟨o1, o2⟩ := oneP_k k (by omega)
      refine bM_rests_33 ⟨fun q => absurd q (nI_ge (a := k) (b := 4) (by omega) (by decide)), fun _ => ⟨by decide, by decide, ?_⟩⟩
      rw [← o2, ← o1]
      refine wM_gets (d := 98) (wM_gets (d := 98) ?_)
      have skip : isR a b n (nI k) = false → aBM 99 98 _ 33 [some (.ref 1000), some (.int a), some (.int b), some (.int n), some (.int w), some (.int f), some (.int (nI k + 1)), none, none] [] (si SM 1000 0 0) := fun q => by
        rw [nI_1]
        refine ih (k + 1) f (by omega) ?_
        rw [e]
        show (if isR a b n (nI k) = true then _ else _) = _
        rw [if_neg (by rw [q]; decide)]
      refine ⟨fun c => skip ?_, fun c => wM_gets (d := 98) (wM_gets (d := 98) ⟨fun c2 => ?_, fun c2 => skip ?_⟩)⟩
      · unfold isR
        rw [decide_eq_true c]
        rfl
      · have hr : isR a b n (nI k) = true := by
          unfold isR
          rw [decide_eq_false c, decide_eq_false (Int32.not_lt.mpr c2)]
          rfl
        have e2 : restP a b n w = if f = w then some (nI k) else rL a b n w m (k + 1) (f + 1) := by
          rw [e]
          show (if isR a b n (nI k) = true then _ else _) = _
          rw [if_pos hr]
        refine ⟨fun c3 => ?_, fun c3 => ?_⟩
        · rw [nI_1]
          exact ih (k + 1) (f + 1) (by omega) (by rw [e2, if_neg c3])
        · rw [if_pos c3] at e2
          refine ⟨nI k, rfl, mM_thrown (d := 99) ⟨Or.inr ⟨e2, ?_⟩, R0 0⟩⟩
          rw [e1]
      · unfold isR
        rw [decide_eq_true (Int32.not_le.mp c2)]
        exact Bool.and_false _
  have np : ∀ q : ¬ (isPz a = 1 ∧ isPz b = 1 ∧ isPz n = 1), restP a b n w = none := fun q => if_neg q
  refine mM_rests (d := 99) (wM_within (d := 98) ?_)
  rw [isPz_in]
  refine ⟨fun c => ⟨fun q => absurd (e1 _ _) q, fun _ => thr (np (fun q => by rw [c] at q; exact absurd q.1 (by decide)))⟩, fun c => wM_within (d := 98) ?_⟩
  rw [isPz_in]
  refine ⟨fun c2 => ⟨fun q => absurd (e1 _ _) q, fun _ => thr (np (fun q => by rw [c2] at q; exact absurd q.2.1 (by decide)))⟩, fun c2 => wM_within (d := 98) ?_⟩
  rw [isPz_in]
  refine ⟨fun c3 => ⟨fun q => absurd (e1 _ _) q, fun _ => thr (np (fun q => by rw [c3] at q; exact absurd q.2.2 (by decide)))⟩, fun c3 => ?_⟩
  have hp : isPz a = 1 ∧ isPz b = 1 ∧ isPz n = 1 := ⟨(isPz_or a).resolve_left c, (isPz_or b).resolve_left c2, (isPz_or n).resolve_left c3⟩
  have ep : restP a b n w = rL a b n w 4 0 0 := if_pos hp
  refine ⟨fun c4 => ⟨fun q => absurd (e1 _ _) q, fun _ => thr (ep.trans (rL_no c4 4 0 0 (by decide)))⟩, fun c4 => ⟨fun _ => loop hp 4 0 0 rfl ep, fun q => ?_⟩⟩
  rw [e1] at q
  exact absurd q (by decide)
