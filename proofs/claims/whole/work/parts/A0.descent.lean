/-! an E read by the class: sums, tests, and, or -/
section
variable {tp : List Nat} {w : Bool} {t D : Nat}
theorem cS_of {m : Nat} (ht : okT tp) (hd : isDf t) (hD : D < 7) (h : cM tp w t (m + 5) D) : cS tp w t (m + 6) D := by
  intro Q S q a hi hE hO
  have h1k := ht.1
  have ha := hi.2.2.2.1
  refine mX_FormulaReader_readSum ?_
  have bad : ∀ T i v, oEr t a S T v → erL tp w D q v → aBX (m + 5) 11 Q 7 [some (.ref 5), some (.ref t), some (.int (nI D)), some (.int 0), some (.int i), none] [] T := fun T i v o e => bX_FormulaReader_readSum_7 ⟨fun _ => ⟨Or.inl rfl, hE T v o e⟩, fun _ => ⟨fun _ => ⟨Or.inl rfl, hE T v o e⟩, fun q => absurd rfl q⟩⟩
  have loop : ∀ n i T q1 ss cs F, tp.length < q1 + n → i ≤ q1 → oOk tp t a q S T q1 ss → q + cs.length ≤ q1 → vL w eSu 2 D ss cs F → smL tp w D q q1 cs → ((fun q => srT tp q ≠ 31) q1) → aBX (m + 5) 11 Q 7 [some (.ref 5), some (.ref t), some (.int (nI D)), some (.int 1), some (.int (nI i)), none] [] T := by
    intro n
    induction n with
    | zero => exact fun i T q1 ss cs F hn _ o => absurd o.2.2.1.1 (by omega)
    | succ n ih =>
      intro i T q1 ss cs F hn hi2 o hq v s g
      have hp := o.2.2.1
      have hpl := hp.1
      have hin : i < 2 ^ 31 := by omega
      have go : (srT tp q1 = 29 ∨ srT tp q1 = 30) → aBX (m + 5) 11 Q 22 [some (.ref 5), some (.ref t), some (.int (nI D)), none, some (.int (nI i)), none] [] T := fun c => by
        have hlt := lt_sr hp (by omega)
        have hnx := nx_gt hlt
        have step : ∀ op cd : Int32, ((srT tp q1 = 29 ∧ op = -16 ∧ cd = 20) ∨ (srT tp q1 = 30 ∧ op = -17 ∧ cd = 21)) → aWX (m + 5) 109 [.ref 1] T (fun v4 S5 => aV v4 (aWX (m + 5) 12 [.ref 5, .ref t, .int (nI D)] S5 (fun v6 S7 => aI v6 (fun x8 => aWX (m + 5) 3 [.ref t, .int op] S7 (fun v9 S10 => aV v9 (aBX (m + 5) 11 Q 7 [some (.ref 5), some (.ref t), some (.int (nI D)), some (.int x8), some (.int (nI i + 1)), none] [] S10)))))) := fun op cd hc => by
          refine right (m := m + 1) (P := fun x8 S10 => aBX (m + 5) 11 Q 7 [some (.ref 5), some (.ref t), some (.int (nI D)), some (.int x8), some (.int (nI i + 1)), none] [] S10) ht hd h hi.2.2.2.2 ha o hlt (fun S' v oe e => bad S' _ v oe (er_arith (v := cd) ht hp s hq (by rcases hc with ⟨a1, -, a3⟩ | ⟨a1, -, a3⟩; exact Or.inl ⟨a1, a3⟩; exact Or.inr (Or.inl ⟨a1, a3⟩)) hlt e)) (fun S' q3 ss' cs' G o3 hq3 v3 s3 g3 => ?_)
          have h34 := o3.2.2.2.1
          show aBX _ _ _ 7 [_, _, _, _, some (.int (nI i + 1)), none] [] S'
          rw [nI_1]
          exact ih (i + 1) S' q3 _ _ _ (by omega) (by omega) o3 (by rw [List.length_append, List.length_cons]; omega) (vL_add (by rcases hc with ⟨-, a2, a3⟩ | ⟨-, a2, a3⟩; exact Or.inl ⟨a2, a3⟩; exact Or.inr ⟨a2, a3⟩) v v3) (sm_arith (v := cd) ht hp s hq (by rcases hc with ⟨a1, -, a3⟩ | ⟨a1, -, a3⟩; exact Or.inl ⟨a1, a3⟩; exact Or.inr (Or.inl ⟨a1, a3⟩)) hlt s3) g3
        refine bX_FormulaReader_readSum_22 (wX_is (k := 29) (d := m + 4) o.2.1 (by decide) ?_)
        by_cases c1 : srT tp q1 = 29
        · rw [decide_eq_true c1]
          exact ⟨fun q => absurd q (by decide), fun _ => step (-16) 20 (Or.inl ⟨c1, rfl, rfl⟩)⟩
        · rw [decide_eq_false c1]
          exact ⟨fun _ => step (-17) 21 (Or.inr ⟨c.resolve_left c1, rfl, rfl⟩), fun q => absurd rfl q⟩
      refine bX_FormulaReader_readSum_7 ⟨fun c => ⟨Or.inr rfl, hO T q1 ss cs F o hq v s ?_⟩, fun _ => ⟨fun q => absurd q (by decide), fun _ => wX_is (k := 29) (d := m + 4) o.2.1 (by decide) ?_⟩⟩
      · rw [show (1000 : Int32) = nI 1000 from rfl, nI_leI (by decide) (by omega)] at c
        have e0 := sr_far ht hp (by omega)
        refine ⟨?_, ?_, ?_⟩ <;> rw [e0] <;> decide
      · by_cases c1 : srT tp q1 = 29
        · rw [decide_eq_true c1]
          exact ⟨fun _ => go (Or.inl c1), fun q => absurd q (by decide)⟩
        · rw [decide_eq_false c1]
          refine ⟨fun q => absurd rfl q, fun _ => wX_is (k := 30) (d := m + 4) o.2.1 (by decide) ?_⟩
          by_cases c2 : srT tp q1 = 30
          · rw [decide_eq_true c2]
            exact ⟨fun q => absurd q (by decide), fun _ => go (Or.inr c2)⟩
          · rw [decide_eq_false c2]
            refine ⟨fun _ => ⟨Or.inr rfl, hO T q1 ss cs F o hq v s ?_⟩, fun q => absurd rfl q⟩
            exact ⟨g, c1, c2⟩
  refine h _ S q a hi (fun S1 v o e => bad S1 0 v o e) (fun S1 q1 ss cs F o hq v s g => ?_)
  exact loop (tp.length + 1) 0 S1 q1 ss cs F (by omega) (Nat.zero_le _) o hq (vL_up (by decide) (fun _ _ _ _ => eSu_M) v) s g
theorem cT_of {m : Nat} (ht : okT tp) (hd : isDf t) (hD : D < 7) (h : cS tp w t (m + 6) D) : cT tp w t (m + 7) D := by
  intro Q S q a hi hE hO
  have h1k := ht.1
  have ha := hi.2.2.2.1
  refine mX_FormulaReader_readTest ?_
  refine h _ S q a hi (fun S1 v o e => ⟨fun _ => ⟨Or.inl rfl, hE S1 v o e.T⟩, fun q => absurd rfl q⟩) (fun T q1 ss cs F o hq v s g => ⟨fun q => absurd q (by decide), fun _ => ?_⟩)
  have hp := o.2.2.1
  have hpl := hp.1
  have go : (srT tp q1 = 27 ∨ srT tp q1 = 28) → aBX (m + 6) 10 Q 17 [some (.ref 5), some (.ref t), some (.int (nI D)), none, none] [] T := fun c => by
    have hlt := lt_sr hp (by omega)
    have hnx := nx_gt hlt
    have step : ∀ op cd : Int32, ((srT tp q1 = 27 ∧ op = -14 ∧ cd = 24) ∨ (srT tp q1 = 28 ∧ op = -15 ∧ cd = 25)) → aWX (m + 6) 109 [.ref 1] T (fun v4 S5 => aV v4 (aWX (m + 6) 11 [.ref 5, .ref t, .int (nI D)] S5 (fun v6 S7 => aI v6 (fun x8 => aWX (m + 6) 3 [.ref t, .int op] S7 (fun v9 S10 => aV v9 ((x8 = 0 ∨ x8 = 1) ∧ Q (.int x8) S10)))))) := fun op cd hc => by
      have hc1 : (srT tp q1 = 27 ∧ cd = 24) ∨ (srT tp q1 = 28 ∧ cd = 25) := by
        rcases hc with ⟨a1, -, a3⟩ | ⟨a1, -, a3⟩
        · exact Or.inl ⟨a1, a3⟩
        · exact Or.inr ⟨a1, a3⟩
      have hc2 : (op = -14 ∧ cd = 24) ∨ (op = -15 ∧ cd = 25) := by
        rcases hc with ⟨-, a2, a3⟩ | ⟨-, a2, a3⟩
        · exact Or.inl ⟨a2, a3⟩
        · exact Or.inr ⟨a2, a3⟩
      refine right (m := m + 2) (P := fun x8 S10 => (x8 = 0 ∨ x8 = 1) ∧ Q (.int x8) S10) ht hd h hi.2.2.2.2 ha o hlt (fun S' v oe e => ⟨Or.inl rfl, hE S' v oe (er_cmp (v := cd) ht hp hD s hq hc1 hlt e)⟩) (fun S' q3 ss' cs' G o3 hq3 v3 s3 g3 => ⟨Or.inr rfl, ?_⟩)
      exact hO S' q3 _ _ _ o3 (by rw [List.length_append, List.length_cons]; omega) (vL_cmp hc2 v v3) (sm_cmp (v := cd) ht hp hD s hq hc1 hlt s3) g3
    refine bX_FormulaReader_readTest_17 (wX_is (k := 27) (d := m + 5) o.2.1 (by decide) ?_)
    by_cases c1 : srT tp q1 = 27
    · rw [decide_eq_true c1]
      exact ⟨fun q => absurd q (by decide), fun _ => step (-14) 24 (Or.inl ⟨c1, rfl, rfl⟩)⟩
    · rw [decide_eq_false c1]
      exact ⟨fun _ => step (-15) 25 (Or.inr ⟨c.resolve_left c1, rfl, rfl⟩), fun q => absurd rfl q⟩
  refine wX_is (k := 27) (d := m + 5) o.2.1 (by decide) ?_
  by_cases c1 : srT tp q1 = 27
  · rw [decide_eq_true c1]
    exact ⟨fun _ => go (Or.inl c1), fun q => absurd q (by decide)⟩
  · rw [decide_eq_false c1]
    refine ⟨fun q => absurd rfl q, fun _ => wX_is (k := 28) (d := m + 5) o.2.1 (by decide) ?_⟩
    by_cases c2 : srT tp q1 = 28
    · rw [decide_eq_true c2]
      exact ⟨fun q => absurd q (by decide), fun _ => go (Or.inr c2)⟩
    · rw [decide_eq_false c2]
      exact ⟨fun _ => ⟨Or.inr rfl, hO T q1 ss cs F o hq (vL_up (by decide) (fun _ _ _ _ => eTs_A) v) (s.T (fun c => c.elim c1 c2)) g⟩, fun q => absurd rfl q⟩
theorem cE_of {m : Nat} (ht : okT tp) (hd : isDf t) (hD : D < 7) (h : cT tp w t (m + 7) D) : cE tp w t (m + 8) D := by
  intro Q S q a hi hE hO
  have h1k := ht.1
  have ha := hi.2.2.2.1
  refine mX_FormulaReader_readE ?_
  have bad : ∀ T i v, oEr t a S T v → erT tp w D q v → aBX (m + 7) 9 Q 7 [some (.ref 5), some (.ref t), some (.int (nI D)), some (.int 0), some (.int i), none] [] T := fun T i v o e => bX_FormulaReader_readE_7 ⟨fun _ => ⟨Or.inl rfl, hE T v o e⟩, fun _ => ⟨fun _ => ⟨Or.inl rfl, hE T v o e⟩, fun q => absurd rfl q⟩⟩
  have loop : ∀ n i T q1 ss cs F, tp.length < q1 + n → i ≤ q1 → oOk tp t a q S T q1 ss → q + cs.length ≤ q1 → vL w eEx 4 D ss cs F → smT tp w D q q1 cs → ((fun q => srT tp q ≠ 31 ∧ srT tp q ≠ 29 ∧ srT tp q ≠ 30) q1) → aBX (m + 7) 9 Q 7 [some (.ref 5), some (.ref t), some (.int (nI D)), some (.int 1), some (.int (nI i)), none] [] T := by
    intro n
    induction n with
    | zero => exact fun i T q1 ss cs F hn _ o => absurd o.2.2.1.1 (by omega)
    | succ n ih =>
      intro i T q1 ss cs F hn hi2 o hq v s g
      have hp := o.2.2.1
      have hpl := hp.1
      have hin : i < 2 ^ 31 := by omega
      have go : (srT tp q1 = 23 ∨ srT tp q1 = 24) → aBX (m + 7) 9 Q 22 [some (.ref 5), some (.ref t), some (.int (nI D)), none, some (.int (nI i)), none] [] T := fun c => by
        have hlt := lt_sr hp (by omega)
        have hnx := nx_gt hlt
        have step : ∀ op cd : Int32, ((srT tp q1 = 23 ∧ op = -12 ∧ cd = 26) ∨ (srT tp q1 = 24 ∧ op = -13 ∧ cd = 27)) → aWX (m + 7) 109 [.ref 1] T (fun v4 S5 => aV v4 (aWX (m + 7) 10 [.ref 5, .ref t, .int (nI D)] S5 (fun v6 S7 => aI v6 (fun x8 => aWX (m + 7) 3 [.ref t, .int op] S7 (fun v9 S10 => aV v9 (aBX (m + 7) 9 Q 7 [some (.ref 5), some (.ref t), some (.int (nI D)), some (.int x8), some (.int (nI i + 1)), none] [] S10)))))) := fun op cd hc => by
          refine right (m := m + 3) (P := fun x8 S10 => aBX (m + 7) 9 Q 7 [some (.ref 5), some (.ref t), some (.int (nI D)), some (.int x8), some (.int (nI i + 1)), none] [] S10) ht hd h hi.2.2.2.2 ha o hlt (fun S' v oe e => bad S' _ v oe (er_join (v := cd) ht hp hD s hq (by rcases hc with ⟨a1, -, a3⟩ | ⟨a1, -, a3⟩; exact Or.inl ⟨a1, a3⟩; exact Or.inr ⟨a1, a3⟩) hlt e)) (fun S' q3 ss' cs' G o3 hq3 v3 s3 g3 => ?_)
          have h34 := o3.2.2.2.1
          show aBX _ _ _ 7 [_, _, _, _, some (.int (nI i + 1)), none] [] S'
          rw [nI_1]
          exact ih (i + 1) S' q3 _ _ _ (by omega) (by omega) o3 (by rw [List.length_append, List.length_cons]; omega) (vL_join (by rcases hc with ⟨-, a2, a3⟩ | ⟨-, a2, a3⟩; exact Or.inl ⟨a2, a3⟩; exact Or.inr ⟨a2, a3⟩) v v3) (sm_join (v := cd) ht hp hD s hq (by rcases hc with ⟨a1, -, a3⟩ | ⟨a1, -, a3⟩; exact Or.inl ⟨a1, a3⟩; exact Or.inr ⟨a1, a3⟩) hlt s3) g3
        refine bX_FormulaReader_readE_22 (wX_is (k := 23) (d := m + 6) o.2.1 (by decide) ?_)
        by_cases c1 : srT tp q1 = 23
        · rw [decide_eq_true c1]
          exact ⟨fun q => absurd q (by decide), fun _ => step (-12) 26 (Or.inl ⟨c1, rfl, rfl⟩)⟩
        · rw [decide_eq_false c1]
          exact ⟨fun _ => step (-13) 27 (Or.inr ⟨c.resolve_left c1, rfl, rfl⟩), fun q => absurd rfl q⟩
      refine bX_FormulaReader_readE_7 ⟨fun c => ⟨Or.inr rfl, hO T q1 ss cs F o hq v s ?_⟩, fun _ => ⟨fun q => absurd q (by decide), fun _ => wX_is (k := 23) (d := m + 6) o.2.1 (by decide) ?_⟩⟩
      · rw [show (1000 : Int32) = nI 1000 from rfl, nI_leI (by decide) (by omega)] at c
        have e0 := sr_far ht hp (by omega)
        refine ⟨?_, ?_, ?_, ?_, ?_⟩ <;> rw [e0] <;> decide
      · by_cases c1 : srT tp q1 = 23
        · rw [decide_eq_true c1]
          exact ⟨fun _ => go (Or.inl c1), fun q => absurd q (by decide)⟩
        · rw [decide_eq_false c1]
          refine ⟨fun q => absurd rfl q, fun _ => wX_is (k := 24) (d := m + 6) o.2.1 (by decide) ?_⟩
          by_cases c2 : srT tp q1 = 24
          · rw [decide_eq_true c2]
            exact ⟨fun q => absurd q (by decide), fun _ => go (Or.inr c2)⟩
          · rw [decide_eq_false c2]
            refine ⟨fun _ => ⟨Or.inr rfl, hO T q1 ss cs F o hq v s ?_⟩, fun q => absurd rfl q⟩
            exact ⟨g.2.1, g.2.2, g.1, c1, c2⟩
  refine h _ S q a hi (fun S1 v o e => bad S1 0 v o e) (fun S1 q1 ss cs F o hq v s g => ?_)
  exact loop (tp.length + 1) 0 S1 q1 ss cs F (by omega) (Nat.zero_le _) o hq (vL_up (by decide) (fun _ _ _ _ => eEx_T) v) s g
end
