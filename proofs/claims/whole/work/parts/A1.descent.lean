/-! an E read by the class: parts, all -/
section
variable {tp : List Nat} {w : Bool} {t D : Nat}
theorem gi_bT {b : Bool} : (bT b = 0 ↔ b = false) := by
  cases b
  · exact ⟨fun _ => rfl, fun _ => rfl⟩
  · exact ⟨fun h => absurd h (by decide), fun h => by cases h⟩
theorem nWo {i : Nat} (hi : i < (if w = true then 5 else 3)) : i < 5 ∧ (if w = true then 0 else 5) + i < 8 := by
  cases w
  · have hi : i < 3 := hi
    exact ⟨by omega, show 5 + i < 8 by omega⟩
  · have hi : i < 5 := hi
    exact ⟨hi, show 0 + i < 8 by omega⟩
/-- what begins the part decides: told by the sort and the fact -/
theorem part_in {m : Nat} {Q : Value → aS → Prop} {S : aS} {q : Nat} (ht : okT tp) (hd : isDf t) (hs : tkX tp q S) (hl : plT tp q) (h0 : gi S t 0 = bT w) (hbad : ¬ isOp tp w q → aWX (m + 3) 106 [.ref 1, .int 1] S (fun v4 S5 => aI v4 (fun x6 => (x6 = 0 ∨ x6 = 1) ∧ Q (.int x6) S5))) (hgo : ∀ x3 : Int32, isOp tp w q → ((∃ i, i < (if w = true then 5 else 3) ∧ ast (2240 + ((if w = true then 0 else 5) + i)) = wdT tp q ∧ x3 = nI i) ∨ ((∀ i, i < (if w = true then 5 else 3) → ast (2240 + ((if w = true then 0 else 5) + i)) ≠ wdT tp q) ∧ x3 = -1)) → aBX (m + 3) 13 Q 26 [some (.ref 5), some (.ref t), some (.int (nI D)), some (.int x3), some (.ref (2000 + srT tp q)), none] [] S) : aWX (m + 4) 13 [.ref 5, .ref t, .int (nI D)] S Q := by
  obtain ⟨hfo, n1, n2, -⟩ := hd.fo
  refine mX_FormulaReader_readPart (gK_ok hfo.1 ?_)
  rw [h0]
  have hg4 := hs.2.2.2.1
  have h32 : srT tp q ≤ 99 := Nat.le_trans srT_le (by decide)
  refine wX_factTold (d := m) ht hs hl.1 (fun i hi e => ?_) (fun n => ?_)
  · have hop : isOp tp w q := Or.inr (Or.inr (Or.inr ⟨i, hi, e⟩))
    have hg := hgo (nI i) hop (Or.inl ⟨i, hi, e, rfl⟩)
    show aG (gC (gr S 1 4)) _
    rw [hg4]
    refine gC_ok h32 ⟨fun _ => hg, fun _ => gC_ok h32 ⟨fun _ => hg, fun _ => gC_ok h32 ⟨fun _ => hg, fun _ => ⟨fun _ => hg, fun c => ?_⟩⟩⟩⟩
    have hi5 := (nWo hi).1
    exact absurd c.symm (m1_ne (by omega))
  · show aG (gC (gr S 1 4)) _
    rw [hg4]
    have hg : isOp tp w q → _ := fun hop => hgo (-1) hop (Or.inr ⟨n, rfl⟩)
    refine gC_ok h32 ⟨fun c => hg (Or.inl (by omega)), fun c1 => gC_ok h32 ⟨fun c => hg (Or.inr (Or.inl (by omega))), fun c2 => gC_ok h32 ⟨fun c => hg (Or.inr (Or.inr (Or.inl (by omega)))), fun c3 => ⟨fun c => absurd rfl c, fun _ => hbad (fun hop => ?_)⟩⟩⟩⟩
    rcases hop with e | e | e | ⟨i, hi, e⟩
    · exact c1 (by omega)
    · exact c2 (by omega)
    · exact c3 (by omega)
    · exact n i hi e
theorem part_fail {m : Nat} {Q : Value → aS → Prop} {S : aS} {q a : Nat} {k : Int32} (ht : okT tp) (hd : isDf t) (hi : iX tp w t q a S) (hE : ∀ S', oEr t a S S' (k + 16 * nI q) → Q (.int 0) S') : aWX (m + 3) 106 [.ref 1, .int k] S (fun v4 S5 => aI v4 (fun x6 => (x6 = 0 ∨ x6 = 1) ∧ Q (.int x6) S5)) := by
  obtain ⟨-, n1, -, -⟩ := hd.fo
  have h1 := ht.1
  have h2 := hi.2.1.1
  have h3 := hi.2.2.2.1
  refine wX_fail (d := m + 2) hi.1 ⟨Or.inl rfl, hE _ ⟨frE_fail, ?_, a, Nat.le_refl _, by omega, ?_⟩⟩
  · rw [gi_si, if_pos ⟨rfl, rfl⟩]
  · rw [gi_si, if_neg (fun c => n1 c.1)]
    exact hi.2.2.1
theorem cP_5 {m : Nat} (ht : okT tp) (hd : isDf t) : cP tp w t (m + 4) 5 := by
  intro Q S q a hi hE hO
  refine part_in (D := 5) ht hd hi.1 hi.2.1 hi.2.2.2.2 (fun hn => part_fail ht hd hi (fun S' o => hE S' _ o (er_bad1 ht hi.2.1 hn))) (fun x3 hop _ => ?_)
  exact bX_FormulaReader_readPart_26 ⟨fun c => absurd c (by decide), fun _ => part_fail ht hd hi (fun S' o => hE S' _ o (er_bad5 ht hi.2.1 hop))⟩
theorem ok_val {a q : Nat} {S S2 : aS} {v : Int32} (ht : okT tp) (hd : isDf t) (hi : iX tp w t q a S) (hlt : q < tp.length) (k2 : frK (si (sa S (art t 3) a v) t 5 (nI (a + 1))) S2) (t2 : tkX tp (nxT tp q) S2) : oOk tp t a q S S2 (nxT tp q) [v] := by
  obtain ⟨-, n1, -, -⟩ := hd.fo
  have hnx := nx_gt hlt
  refine ⟨(frE_add (Nat.le_refl _)).tr (frE_K k2), t2, plT_nx hi.2.1, hnx, ?_, ?_, sAt_1 ?_, hnx⟩
  · rw [k2.1 1 7 (by omega), gi_si, if_neg (fun c => n1 c.1.symm), gi_sa]
  · rw [k2.1 t 5 (fun c => n1 c.1), gi_si, if_pos ⟨rfl, rfl⟩]
    rfl
  · rw [k2.2.2.2.1, ga_si, ga_sa, if_pos ⟨rfl, rfl⟩]
theorem cP_of {m : Nat} (ht : okT tp) (hd : isDf t) (hD : D < 5) (hP : cP tp w t (m + 4) (D + 1)) (hP9 : cP tp w t (m + 9) (D + 1)) : cP tp w t (m + 10) D := by
  have hE' : cE tp w t (m + 8) (D + 1) := cE_of ht hd (by omega) (cT_of ht hd (by omega) (cS_of ht hd (by omega) (cM_of ht hd hP)))
  intro Q S q a hi hE hO
  obtain ⟨hfo, n1, n2, -⟩ := hd.fo
  have h1k := ht.1
  have hl := hi.2.1
  have h4 := hi.2.2.2.1
  refine part_in (m := m + 6) (D := D) ht hd hi.1 hl hi.2.2.2.2 (fun hn => part_fail (m := m + 6) ht hd hi (fun S' o => hE S' _ o (er_bad1 ht hl hn))) (fun x3 hop hx => ?_)
  have hlt : q < tp.length := by
    refine lt_sr hl (fun e => ?_)
    rcases hop with c | c | c | ⟨i, hii, c⟩
    · omega
    · omega
    · omega
    · have := fc_name ht hl.1 (nWo hii).2 c
      omega
  have hnx := nx_gt hlt
  have h32 : srT tp q ≤ 99 := Nat.le_trans srT_le (by decide)
  refine bX_FormulaReader_readPart_26 ⟨fun _ => gC_ok h32 ⟨fun c2 => ⟨fun cx => ?_, fun cx => ?_⟩, fun c2 => ?_⟩, fun c => absurd (nI_lt (b := 5) (by omega) (by decide)) c⟩
  · have nf : ∀ i, i < (if w = true then 5 else 3) → ast (2240 + ((if w = true then 0 else 5) + i)) ≠ wdT tp q := by
      rcases hx with ⟨i, hii, e, rfl⟩ | ⟨n, -⟩
      · have := (nWo hii).1
        exact absurd cx.symm (m1_ne (by omega))
      · exact n
    have h2225 : srT tp q = 22 ∨ srT tp q = 25 := by
      rcases hop with c | c | c | ⟨i, hii, c⟩
      · omega
      · exact Or.inl c
      · exact Or.inr c
      · exact absurd c (nf i hii)
    refine bX_FormulaReader_readPart_49 (wX_nx (d := m + 6) ht hi.1 hl (fun S2 k2 t2 => gC_ok h32 ⟨fun c22 => gC_ok h32 ⟨fun c25 => by omega, fun c25 => ?_⟩, fun c22 => ?_⟩))
    · have hk : srT tp q = 25 := by omega
      have i2 : iX tp w t (nxT tp q) a S2 := ⟨t2, plT_nx hl, (k2.1 t 5 (fun c => n1 c.1)).trans hi.2.2.1, by omega, (k2.1 t 0 (fun c => n1 c.1)).trans hi.2.2.2.2⟩
      have e7 : gi S2 1 7 = gi S 1 7 := k2.1 1 7 (by omega)
      rw [nI_1 D]
      refine mX_FormulaReader_readToClose ?_
      refine hE' _ S2 _ _ i2 (fun S3 v oe e => ⟨fun q => absurd rfl q, fun _ => ⟨Or.inl rfl, ⟨fun _ => ⟨Or.inl rfl, hE S3 v ⟨(frE_K k2).tr oe.1, oe.2⟩ (er_open ht hl hlt hD hk e)⟩, fun q => absurd rfl q⟩⟩⟩) (fun S3 q1 ss cs F o hq v s g => ⟨fun _ => wX_is (k := 26) (d := m + 7) o.2.1 (by decide) ?_, fun q => absurd q (by decide)⟩)
      obtain ⟨o1, o2, o3, o4, o5, o6, o7, o8⟩ := o
      have o3l := o3.1
      by_cases c26 : srT tp q1 = 26
      · rw [decide_eq_true c26]
        refine ⟨fun _ => ?_, fun q => absurd q (by decide)⟩
        have hlt1 := lt_sr o3 (by omega)
        have hnx1 := nx_gt hlt1
        refine wX_nx (d := m + 5) ht o2 o3 (fun S4 k4 t4 => ?_)
        refine ⟨Or.inr rfl, ⟨fun q => absurd q (by decide), fun _ => ⟨Or.inr rfl, ?_⟩⟩⟩
        obtain ⟨⟨h, a1, a2⟩, ⟨hh, b0, b1, b2⟩, c1⟩ := v
        refine hO S4 (nxT tp q1) ss (28 :: (cs ++ [29])) F ⟨((frE_K k2).tr o1).tr (frE_K k4), t4, plT_nx o3, by omega, ?_, ?_, sAt_fr o7 (frE_K k4) (Nat.le_refl _), by omega⟩ ?_ ⟨⟨h + 1, by omega, ePa_E a2⟩, ⟨hh, b0, by omega, b2⟩, c1⟩ (sm_open ht hl hlt hD hk s hq o3 hlt1 c26) trivial
        · rw [k4.1 1 7 (by omega), o5, e7]
        · rw [k4.1 t 5 (fun c => n1 c.1)]
          exact o6
        · rw [List.length_cons, List.length_append, List.length_singleton]
          omega
      · rw [decide_eq_false c26]
        refine ⟨fun q => absurd rfl q, fun _ => ?_⟩
        refine wX_fail (d := m + 7) o2 ⟨Or.inl rfl, ⟨fun _ => ⟨Or.inl rfl, hE _ (1 + 16 * nI q1) ⟨((frE_K k2).tr o1).tr frE_fail, ?_, a + ss.length, by omega, by omega, ?_⟩ (er_noclose ht hl hlt hD hk s o3 g c26)⟩, fun q => absurd rfl q⟩⟩
        · rw [gi_si, if_pos ⟨rfl, rfl⟩]
        · rw [gi_si, if_neg (fun c => n1 c.1)]
          exact o6
    · have hk : srT tp q = 22 := by omega
      have i2 : iX tp w t (nxT tp q) a S2 := ⟨t2, plT_nx hl, (k2.1 t 5 (fun c => n1 c.1)).trans hi.2.2.1, by omega, (k2.1 t 0 (fun c => n1 c.1)).trans hi.2.2.2.2⟩
      have e7 : gi S2 1 7 = gi S 1 7 := k2.1 1 7 (by omega)
      rw [nI_1 D]
      refine hP9 _ S2 _ _ i2 (fun S3 v oe e => ?_) (fun S3 q3 ss cs F o hq v s _ => ?_)
      · obtain ⟨b1, b2, b, b3, b4, b5⟩ := oe
        exact er_add (d := m + 8) (P := fun S10 => ((0 : Int32) = 0 ∨ (0 : Int32) = 1) ∧ Q (.int 0) S10) hd ((frE_K k2).tr b1) b2 b3 b4 b5 (fun S' oe => ⟨Or.inl rfl, hE S' v oe (er_not ht hl hlt hD hk e)⟩)
      · obtain ⟨o1, o2, o3, o4, o5, o6, o7, o8⟩ := o
        have o3l := o3.1
        obtain ⟨⟨h, a1, a2⟩, ⟨hh, b0, b1, b2⟩, c1⟩ := v
        refine wX_add (d := m + 8) hfo o6 (by omega) (fun _ => ⟨Or.inr rfl, ?_⟩) (fun c => by omega)
        have f4 : frE t (a + ss.length) S3 (si (sa S3 (art t 3) (a + ss.length) (-11)) t 5 (nI (a + ss.length + 1))) := frE_add (Nat.le_refl _)
        refine hO _ q3 (ss ++ [-11]) (30 :: cs) (fun f => if F f = 0 then 1 else 0) ⟨((frE_K k2).tr o1).tr (f4.le (by omega)), tkX_add hd o2, o3, by omega, ?_, ?_, sAt_app (sAt_fr o7 f4 (Nat.le_refl _)) (sAt_1 ?_), ?_⟩ ?_ ⟨⟨h + 1, by omega, ePa_not a2⟩, ⟨hh, b0, by omega, eSt_not b2 b0⟩, dep_1 (J := fun x => if x = 0 then 1 else 0) c1⟩ (sm_not ht hl hlt hD hk s) trivial
        · rw [gi_si, if_neg (fun c => n1 c.1.symm), gi_sa, o5, e7]
        · rw [gi_si, if_pos ⟨rfl, rfl⟩, List.length_append, List.length_singleton]
          exact congrArg nI (by omega)
        · rw [ga_si, ga_sa, if_pos ⟨rfl, rfl⟩]
        · rw [List.length_append, List.length_singleton]
          omega
        · rw [List.length_cons]
          omega
  · obtain ⟨i, hii, e, rfl⟩ : ∃ i, i < (if w = true then 5 else 3) ∧ ast (2240 + ((if w = true then 0 else 5) + i)) = wdT tp q ∧ x3 = nI i := by
      rcases hx with x | ⟨-, e⟩
      · exact x
      · exact absurd e cx
    have hk := fc_name ht hl.1 (nWo hii).2 e
    have hi8 := (nWo hii).2
    refine mX_Formula_addFact (d := m + 8) (gK_ok hfo.1 (wX_add (d := m + 7) hfo hi.2.2.1 (by omega) (fun _ => bX_Formula_addFact_5 ?_) (fun c => by omega)))
    refine bX_FormulaReader_readPart_49 (wX_nx (d := m + 6) ht (tkX_add hd hi.1) hl (fun S2 k2 t2 => gC_ok h32 ⟨fun _ => gC_ok h32 ⟨fun _ => ⟨Or.inr rfl, ?_⟩, fun c => by omega⟩, fun c => by omega⟩))
    refine hO S2 (nxT tp q) [-1 - nI i] [nI ((if w = true then 0 else 5) + i + 1)] (fun f => f i) (ok_val ht hd hi hlt k2 t2) hnx ⟨⟨0, by omega, ?_⟩, ⟨1, by decide, by omega, eSt_fact (nWo hii).1⟩, dep_f hii⟩ (sm_val ht hl hlt hD (Or.inr ⟨i, hii, e, rfl⟩)) trivial
    rw [show (if w = true then 0 else 5) + i + 1 = (if w = true then 0 else 5) + 1 + i by omega]
    exact ePa_fact (by omega)
  · have hk : srT tp q = 2 := by omega
    have hn := nvT_le hl.1 hk
    rw [hi.1.2.2.2.2.1 hk]
    refine wX_add (d := m + 8) hfo hi.2.2.1 (by omega) (fun _ => ?_) (fun c => by omega)
    refine bX_FormulaReader_readPart_49 (wX_nx (d := m + 6) ht (tkX_add hd hi.1) hl (fun S2 k2 t2 => gC_ok h32 ⟨fun _ => gC_ok h32 ⟨fun _ => ⟨Or.inr rfl, ?_⟩, fun c => by omega⟩, fun c => by omega⟩))
    exact hO S2 (nxT tp q) [nI (nvT tp q)] [nI (100 + nvT tp q)] (fun _ => nI (nvT tp q)) (ok_val ht hd hi hlt k2 t2) hnx ⟨⟨0, by omega, ePa_num hn⟩, ⟨1, by decide, by omega, eSt_num hn⟩, dep_0⟩ (sm_val ht hl hlt hD (Or.inl ⟨hk, rfl⟩)) trivial
/-- an E, from the outside -/
theorem cE_0 {m : Nat} (ht : okT tp) (hd : isDf t) : cE tp w t (m + 38) 0 := by
  have p5 : ∀ m, cP tp w t (m + 4) 5 := fun m => cP_5 ht hd
  have p4 : ∀ m, cP tp w t (m + 10) 4 := fun m => cP_of ht hd (by decide) (p5 m) (p5 (m + 5))
  have p3 : ∀ m, cP tp w t (m + 16) 3 := fun m => cP_of (m := m + 6) ht hd (by decide) (p4 m) (p4 (m + 5))
  have p2 : ∀ m, cP tp w t (m + 22) 2 := fun m => cP_of (m := m + 12) ht hd (by decide) (p3 m) (p3 (m + 5))
  have p1 : ∀ m, cP tp w t (m + 28) 1 := fun m => cP_of (m := m + 18) ht hd (by decide) (p2 m) (p2 (m + 5))
  have p0 : ∀ m, cP tp w t (m + 34) 0 := fun m => cP_of (m := m + 24) ht hd (by decide) (p1 m) (p1 (m + 5))
  exact cE_of (m := m + 30) ht hd (by decide) (cT_of (m := m + 30) ht hd (by decide) (cS_of (m := m + 30) ht hd (by decide) (cM_of (m := m + 30) ht hd (p0 m))))
end
