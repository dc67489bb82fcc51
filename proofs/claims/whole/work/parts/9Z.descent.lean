/-! an E read by the class: products, sums, tests, and, or -/
theorem lt_sr {tp : List Nat} {q : Nat} (hl : plT tp q) (h : srT tp q ≠ 0) : q < tp.length := by
  rcases srT_cases hl.1 with ⟨-, e⟩ | ⟨a, -⟩ | ⟨a, -⟩ | ⟨a, -⟩
  · exact absurd e h
  · exact a
  · exact a
  · exact a
theorem sr_far {tp : List Nat} {q : Nat} (ht : okT tp) (hl : plT tp q) (h : 1000 ≤ q) : srT tp q = 0 := by
  have h1 := ht.1
  have h2 := hl.1
  rcases srT_cases hl.1 with ⟨-, e⟩ | ⟨a, -⟩ | ⟨a, -⟩ | ⟨a, -⟩
  · exact e
  all_goals omega
section
variable {tp : List Nat} {w : Bool} {t D : Nat} {ss ss' cs cs' : List Int32} {F G : zF}
theorem vL_mul (h1 : vL w eMu 1 D ss cs F) (h2 : vL w ePa 0 D ss' cs' G) : vL w eMu 1 D (ss ++ (ss' ++ [-18])) (cs ++ 22 :: cs') (fun f => F f * G f) := by
  obtain ⟨⟨a, a1, a2⟩, ⟨b, b0, b1, b2⟩, c1⟩ := h1
  obtain ⟨⟨a', a1', a2'⟩, ⟨b', b0', b1', b2'⟩, c1'⟩ := h2
  exact ⟨⟨max a a', by omega, eMu_mul a2 a2'⟩, ⟨max b (b' + 1), by omega, by omega, eSt_bin (by decide) (by decide) (fun d Q S x y h => jX_times h) b2 b2' b0'⟩, dep_2 (J := fun x y => x * y) c1 c1'⟩
theorem vL_add {op c : Int32} (hc : (op = -16 ∧ c = 20) ∨ (op = -17 ∧ c = 21)) (h1 : vL w eSu 2 D ss cs F) (h2 : vL w eMu 1 D ss' cs' G) : vL w eSu 2 D (ss ++ (ss' ++ [op])) (cs ++ c :: cs') (fun f => if c = 21 then F f - G f else F f + G f) := by
  obtain ⟨⟨a, a1, a2⟩, ⟨b, b0, b1, b2⟩, c1⟩ := h1
  obtain ⟨⟨a', a1', a2'⟩, ⟨b', b0', b1', b2'⟩, c1'⟩ := h2
  have key : ∀ d (Q : Value → aS → Prop) S x y, Q (.int (if c = 21 then x - y else x + y)) S → aWX (d + 1) 8 [.int op, .int x, .int y] S Q := by
    intro d Q S x y h
    rcases hc with ⟨rfl, rfl⟩ | ⟨rfl, rfl⟩
    · rw [if_neg (by decide)] at h
      exact jX_plus h
    · rw [if_pos rfl] at h
      exact jX_minus h
  refine ⟨⟨max a a', by omega, eSu_add (by rcases hc with ⟨-, e⟩ | ⟨-, e⟩ <;> simp [e]) a2 a2'⟩, ⟨max b (b' + 1), by omega, by omega, eSt_bin (J := fun x y => if c = 21 then x - y else x + y) ?_ ?_ key b2 b2' b0'⟩, dep_2 (J := fun x y => if c = 21 then x - y else x + y) c1 c1'⟩
  · rcases hc with ⟨rfl, -⟩ | ⟨rfl, -⟩ <;> decide
  · rcases hc with ⟨rfl, -⟩ | ⟨rfl, -⟩ <;> decide
theorem vL_cmp {op c : Int32} (hc : (op = -14 ∧ c = 24) ∨ (op = -15 ∧ c = 25)) (h1 : vL w eSu 2 D ss cs F) (h2 : vL w eSu 2 D ss' cs' G) : vL w eTs 3 D (ss ++ (ss' ++ [op])) (cs ++ c :: cs') (fun f => cmpV c (F f) (G f)) := by
  obtain ⟨⟨a, a1, a2⟩, ⟨b, b0, b1, b2⟩, c1⟩ := h1
  obtain ⟨⟨a', a1', a2'⟩, ⟨b', b0', b1', b2'⟩, c1'⟩ := h2
  have key : ∀ d (Q : Value → aS → Prop) S x y, Q (.int (cmpV c x y)) S → aWX (d + 1) 8 [.int op, .int x, .int y] S Q := by
    intro d Q S x y h
    rcases hc with ⟨rfl, rfl⟩ | ⟨rfl, rfl⟩
    · exact jX_less h
    · exact jX_same h
  refine ⟨⟨max a a', by omega, eTs_cmp (by rcases hc with ⟨-, e⟩ | ⟨-, e⟩ <;> simp [e]) a2 a2'⟩, ⟨max b (b' + 1), by omega, by omega, eSt_bin (J := fun x y => cmpV c x y) ?_ ?_ key b2 b2' b0'⟩, dep_2 (J := fun x y => cmpV c x y) c1 c1'⟩
  · rcases hc with ⟨rfl, -⟩ | ⟨rfl, -⟩ <;> decide
  · rcases hc with ⟨rfl, -⟩ | ⟨rfl, -⟩ <;> decide
theorem vL_join {op c : Int32} (hc : (op = -12 ∧ c = 26) ∨ (op = -13 ∧ c = 27)) (h1 : vL w eEx 4 D ss cs F) (h2 : vL w eTs 3 D ss' cs' G) : vL w eEx 4 D (ss ++ (ss' ++ [op])) (cs ++ c :: cs') (fun f => joiV c (F f) (G f)) := by
  obtain ⟨⟨a, a1, a2⟩, ⟨b, b0, b1, b2⟩, c1⟩ := h1
  obtain ⟨⟨a', a1', a2'⟩, ⟨b', b0', b1', b2'⟩, c1'⟩ := h2
  have key : ∀ d (Q : Value → aS → Prop) S x y, Q (.int (joiV c x y)) S → aWX (d + 1) 8 [.int op, .int x, .int y] S Q := by
    intro d Q S x y h
    rcases hc with ⟨rfl, rfl⟩ | ⟨rfl, rfl⟩
    · exact jX_and h
    · exact jX_or h
  refine ⟨⟨max a a', by omega, eEx_join (by rcases hc with ⟨-, e⟩ | ⟨-, e⟩ <;> simp [e]) a2 a2'⟩, ⟨max b (b' + 1), by omega, by omega, eSt_bin (J := fun x y => joiV c x y) ?_ ?_ key b2 b2' b0'⟩, dep_2 (J := fun x y => joiV c x y) c1 c1'⟩
  · rcases hc with ⟨rfl, -⟩ | ⟨rfl, -⟩ <;> decide
  · rcases hc with ⟨rfl, -⟩ | ⟨rfl, -⟩ <;> decide
theorem vL_up {K K' : Nat → Nat → List Int32 → zF → Prop} {x x' : Nat} (hx : x ≤ x') (hK : ∀ o h cs F, K o h cs F → K' o h cs F) (h : vL w K x D ss cs F) : vL w K' x' D ss cs F := by
  obtain ⟨⟨a, a1, a2⟩, ⟨b, b0, b1, b2⟩, c1⟩ := h
  exact ⟨⟨a, a1, hK _ _ _ _ a2⟩, ⟨b, b0, by omega, b2⟩, c1⟩
/-- after an operand and a sign: the right operand, then its step -/
theorem right {K : Nat → Nat → List Int32 → zF → Prop} {sm : Nat → Nat → Nat → List Int32 → Prop} {er : Nat → Nat → Int32 → Prop} {fi : Nat → Prop} {j x m a q q1 : Nat} {S T : aS} {op : Int32} {P : Int32 → aS → Prop} (ht : okT tp) (hd : isDf t) (h : cX tp w t K sm er fi j x (m + 4) D) (h0 : gi S t 0 = bT w) (ha : a ≤ q) (o : oOk tp t a q S T q1 ss) (hlt : q1 < tp.length) (hE : ∀ S' v, oEr t a S S' v → er D (nxT tp q1) v → P 0 S') (hO : ∀ S' q3 ss' cs' G, oOk tp t a q S S' q3 (ss ++ (ss' ++ [op])) → nxT tp q1 + cs'.length ≤ q3 → vL w K x D ss' cs' G → sm D (nxT tp q1) q3 cs' → fi q3 → P 1 S') : aWX (m + 4) 109 [.ref 1] T (fun v4 S5 => aV v4 (aWX (m + 4) j [.ref 5, .ref t, .int (nI D)] S5 (fun v6 S7 => aI v6 (fun x8 => aWX (m + 4) 3 [.ref t, .int op] S7 (fun v9 S10 => aV v9 (P x8 S10)))))) := by
  have o' := o
  obtain ⟨a1, a2, a3, a4, a5, a6, a7, a8⟩ := o
  obtain ⟨hfo, n1, n2, -⟩ := hd.fo
  have h1k := ht.1
  have hnx := nx_gt hlt
  refine wX_nx (d := m + 1) ht a2 a3 (fun S2 k2 t2 => ?_)
  have i2 : iX tp w t (nxT tp q1) (a + ss.length) S2 := ⟨t2, plT_nx a3, (k2.1 t 5 (fun c => n1 c.1)).trans a6, by omega, by rw [k2.1 t 0 (fun c => n1 c.1), a1.1 t 0 n1 (by omega)]; exact h0⟩
  refine h _ S2 _ _ i2 (fun S3 v oe er => ?_) (fun S3 q3 ss' cs' G o3 hq3 v3 s3 f3 => ?_)
  · obtain ⟨b1, b2, b, b3, b4, b5⟩ := oe
    exact er_add (d := m + 3) hd ((a1.tr (frE_K k2)).tr (b1.le (by omega))) b2 (by omega) b4 b5 (fun S' oe => hE S' v oe er)
  · have hb := o3.2.2.2.2.2.2.2
    have hp := o3.2.2.1.1
    refine wX_add (d := m + 3) hfo o3.2.2.2.2.2.1 (by omega) (fun _ => ?_) (fun c => by omega)
    exact hO _ q3 ss' cs' G (ok_bin ht hd o' ha hlt k2 o3 rfl) hq3 v3 s3 f3
theorem cM_of {m : Nat} (ht : okT tp) (hd : isDf t) (h : cP tp w t (m + 4) D) : cM tp w t (m + 5) D := by
  intro Q S q a hi hE hO
  have h1k := ht.1
  have ha := hi.2.2.2.1
  refine mX_FormulaReader_readProduct ?_
  have bad : ∀ T i v, oEr t a S T v → erL tp w D q v → aBX (m + 4) 12 Q 7 [some (.ref 5), some (.ref t), some (.int (nI D)), some (.int 0), some (.int i)] [] T := fun T i v o e => bX_FormulaReader_readProduct_7 ⟨fun _ => ⟨Or.inl rfl, hE T v o e⟩, fun _ => ⟨fun _ => ⟨Or.inl rfl, hE T v o e⟩, fun q => absurd rfl q⟩⟩
  have loop : ∀ n i T q1 ss cs F, tp.length < q1 + n → i ≤ q1 → oOk tp t a q S T q1 ss → q + cs.length ≤ q1 → vL w eMu 1 D ss cs F → smL tp w D q q1 cs → aBX (m + 4) 12 Q 7 [some (.ref 5), some (.ref t), some (.int (nI D)), some (.int 1), some (.int (nI i))] [] T := by
    intro n
    induction n with
    | zero => exact fun i T q1 ss cs F hn _ o => absurd o.2.2.1.1 (by omega)
    | succ n ih =>
      intro i T q1 ss cs F hn hi2 o hq v s
      have hp := o.2.2.1
      have hpl := hp.1
      refine bX_FormulaReader_readProduct_7 ⟨fun c => ⟨Or.inr rfl, hO T q1 ss cs F o hq v s ?_⟩, fun _ => ⟨fun q => absurd q (by decide), fun _ => wX_is (k := 31) (d := m + 3) o.2.1 (by decide) ?_⟩⟩
      · rw [show (1000 : Int32) = nI 1000 from rfl, nI_leI (by decide) (by omega)] at c
        rw [sr_far ht hp (by omega)]
        decide
      · by_cases c : srT tp q1 = 31
        · rw [decide_eq_true c]
          refine ⟨fun q => absurd q (by decide), fun _ => ?_⟩
          have hlt := lt_sr hp (by omega)
          refine right ht hd h hi.2.2.2.2 ha o hlt (fun S' v oe e => bad S' _ v oe (er_arith ht hp s hq (Or.inr (Or.inr ⟨c, rfl⟩)) hlt e.L)) (fun S' q3 ss' cs' G o3 hq3 v3 s3 _ => ?_)
          have hnx := nx_gt hlt
          have h34 := o3.2.2.2.1
          rw [nI_1]
          exact ih (i + 1) S' q3 _ _ _ (by omega) (by omega) o3 (by rw [List.length_append, List.length_cons]; omega) (vL_mul v v3) (sm_arith ht hp s hq (Or.inr (Or.inr ⟨c, rfl⟩)) hlt s3.L)
        · rw [decide_eq_false c]
          exact ⟨fun _ => ⟨Or.inr rfl, hO T q1 ss cs F o hq v s c⟩, fun q => absurd rfl q⟩
  refine h _ S q a hi (fun S1 v o e => bad S1 0 v o e.L) (fun S1 q1 ss cs F o hq v s _ => ?_)
  exact loop (tp.length + 1) 0 S1 q1 ss cs F (by omega) (Nat.zero_le _) o hq (vL_up (by decide) (fun _ _ _ _ => eMu_P) v) s.L
end
