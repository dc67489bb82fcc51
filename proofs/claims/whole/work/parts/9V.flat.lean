/-! an E read by the reference: what each sign does -/
theorem nvP_lt {tp : List Nat} {q : Nat} : ∀ n, (∀ i, i < n → sgT tp (q + i) ≤ 57) → nvP tp q n < 10 ^ n
  | 0, _ => Nat.one_pos
  | n + 1, h => by
    have := nvP_lt n (fun i hi => h i (by omega))
    have h2 := h n (by omega)
    rw [nvP_1, Nat.pow_succ]
    omega
theorem nvT_le {tp : List Nat} {q : Nat} (hl : q ≤ tp.length) (h : srT tp q = 2) : nvT tp q ≤ 9999 := by
  obtain ⟨a, b, c⟩ := srT_2 hl h
  have e : enT tp q = rnT isDg tp q := by
    unfold enT
    rw [if_pos a, if_neg (by rw [dg_lt b]; decide), if_pos b]
  have := nvP_lt (tp := tp) (q := q) (nT tp q) (fun i hi => by
    unfold nT at hi
    rw [e] at hi
    exact (of_decide_eq_true (rn_all (P := isDg) hl (q + i) (by omega) (by omega))).2)
  have h2 : (10 : Nat) ^ nT tp q ≤ 10 ^ 4 := Nat.pow_le_pow_right (by decide) c
  unfold nvT
  omega
theorem MS.step {tp : List Nat} {w : Bool} {q q' c c' D B E : Nat} {S S' : aS} (h : MS tp w q c D B S) (hf : frR c D E S S') (h1 : tkM tp q' S') (h2 : gi S' 1000 23 = nI c') : MS tp w q' c' D B S' := by
  obtain ⟨-, -, m3, m4, m5, m6⟩ := h
  refine ⟨h1, h2, (hf.1.2.2.1 24 (by unfold flF; omega)).trans m3, m4, fun j a b => (hf.2.2.1 j b).trans (m5 j a b), m6.imp_right (fun e => (hf.2.2.1 B m4).trans e)⟩
theorem gi_tk {S S' : aS} {k : Nat} (h : frM noC tkF S S') (hk : ¬ tkF k) : gi S' 1000 k = gi S 1000 k := h.2.2.1 k hk
section
variable {d : Nat} {Q : Value → aS → Prop} {S : aS} {tp : List Nat} {q c D B : Nat} {w : Bool}
/-- a code laid, the next token -/
theorem rw_put {v : Int32} {P : aS → Prop} (ht : okT tp) (hl : plT tp q) (hM : MS tp w q c D B S) (hc : c < 2000) (h : ∀ S', frR c D (D + 1) S S' → MS tp w (nxT tp q) (c + 1) D B S' → ga S' 1014 c = v → P S') : aWM (d + 2) 10 [.ref 1000, .int v] S (fun v1 S2 => aV v1 (aWM (d + 2) 6 [.ref 1000] S2 (fun v2 S3 => aV v2 (P S3)))) := by
  refine wM_puts hM.2.1 hc ?_
  show aWM (d + 2) 6 [.ref 1000] (si (sa S 1014 c v) 1000 23 (nI (c + 1))) _
  have t1 : tkM tp q (si (sa S 1014 c v) 1000 23 (nI (c + 1))) := tk_si (tk_sa hM.1 (by decide)) (by decide)
  refine wM_nx ht t1 hl (fun S' f1 t2 => ?_)
  have f : frR c D (D + 1) S S' := (frR_put (Nat.le_refl _)).tr (frR_tk f1)
  refine h S' f (hM.step f t2 ?_) ?_
  · rw [gi_tk f1 (by unfold tkF; omega), gi_si, if_pos ⟨rfl, rfl⟩]
  · rw [f1.1 1014 c (fun q => q), ga_si, ga_sa, if_pos ⟨rfl, rfl⟩]
theorem rw_val {v : Int32} (ht : okT tp) (hl : plT tp q) (hM : MS tp w q c D B S) (hD : D < 5) (hc : c < 2000) (hv : (srT tp q = 2 ∧ v = nI (100 + nvT tp q)) ∨ ∃ i, i < (if w = true then 5 else 3) ∧ ast (2240 + ((if w = true then 0 else 5) + i)) = wdT tp q ∧ v = nI ((if w = true then 0 else 5) + i + 1)) (h : ∀ S', frR c D (D + 1) S S' → MS tp w (nxT tp q) (c + 1) B B S' → ga S' 1014 c = v → rw0 d Q B S') : rw1 d Q D S := by
  have hf8 : ∀ i, i < (if w = true then 5 else 3) → (if w = true then 0 else 5) + i < 8 := fun i hi => by
    cases w
    · have hi : i < 3 := hi
      show 5 + i < 8
      omega
    · have hi : i < 5 := hi
      show 0 + i < 8
      omega
  have hop : isOp tp w q := by
    rcases hv with ⟨e, -⟩ | ⟨i, hi, e, -⟩
    · exact Or.inl e
    · exact Or.inr (Or.inr (Or.inr ⟨i, hi, e⟩))
  have hs23 : srT tp q = 2 ∨ srT tp q = 3 := by
    rcases hv with ⟨e, -⟩ | ⟨i, hi, e, -⟩
    · exact Or.inl e
    · exact Or.inr (fc_name ht hl.1 (hf8 i hi) e)
  have fin : aWM (d + 2) 10 [.ref 1000, .int v] S (fun v1 S2 => aV v1 (aBM (d + 2) 12 Q 82 [some (.ref 1000), some (.int (nI D)), some (.int 0), none, none, none] [] S2)) := by
    refine wM_puts hM.2.1 hc ?_
    show aBM (d + 2) 12 Q 82 _ [] (si (sa S 1014 c v) 1000 23 (nI (c + 1)))
    have t1 : tkM tp q (si (sa S 1014 c v) 1000 23 (nI (c + 1))) := tk_si (tk_sa hM.1 (by decide)) (by decide)
    have f0 : frR c D (D + 1) S (si (sa S 1014 c v) 1000 23 (nI (c + 1))) := frR_put (Nat.le_refl _)
    obtain ⟨-, -, m3, m4, m5, m6⟩ := hM.step f0 t1 (by rw [gi_si, if_pos ⟨rfl, rfl⟩])
    refine rw_pop82 ht hl t1 (by omega) m4 m5 m6 (fun S' f1 t2 => ?_)
    have f : frR c D (D + 1) S S' := f0.tr (frR_tk f1)
    refine h S' f ⟨t2, ?_, (gi_tk f1 (by unfold tkF; omega)).trans m3, Nat.le_refl _, fun j a b => absurd a (by omega), m6.imp_right (fun e => (f1.1 1015 B (fun q => q)).trans e)⟩ ?_
    · rw [gi_tk f1 (by unfold tkF; omega), gi_si, if_pos ⟨rfl, rfl⟩]
    · rw [f1.1 1014 c (fun q => q), ga_si, ga_sa, if_pos ⟨rfl, rfl⟩]
  refine rw_go36 ht hl hM hop (fun f hf => ?_)
  rw [decide_eq_false (by omega), decide_eq_false (by omega)]
  refine bM_reads_36 ⟨fun _ => ⟨fun q => absurd rfl q, fun _ => ⟨fun _ => ?_, fun q => absurd rfl q⟩⟩, fun c5 => ?_⟩
  · rcases hv with ⟨e, rfl⟩ | ⟨i, hi, e, rfl⟩
    · have f0 : f = 0 := by
        rcases hf with ⟨j, hj, e2, -⟩ | ⟨-, e2⟩
        · have := fc_name ht hl.1 (hf8 j hj) e2
          omega
        · exact e2
      subst f0
      have e8 := hM.1.2.2.2.2.2 ((srT_n2 hl.1).mp e)
      refine ⟨fun _ => ?_, fun q => absurd (by decide) q⟩
      rw [e8, show (100 : Int32) = nI 100 from rfl, nI_add]
      exact fin
    · have f1 : f = (if w = true then 0 else 5) + i + 1 := by
        rcases hf with ⟨j, hj, e2, rfl⟩ | ⟨n, -⟩
        · have : ∀ i, i < 8 → ∀ j, j < 8 → ast (2240 + i) = ast (2240 + j) → i = j := by decide +kernel
          have := this _ (hf8 i hi) _ (hf8 j hj) (e.trans e2.symm)
          omega
        · exact absurd e (n i hi)
      subst f1
      refine ⟨fun q => ?_, fun _ => fin⟩
      have := hf8 i hi
      rw [nI_le0 (by omega)] at q
      omega
  · rw [show (5 : Int32) = nI 5 from rfl, nI_eq (by omega) (by decide)] at c5
    omega
/-- not, an open sign -/
theorem rw_deep {o : Bool} (ht : okT tp) (hl : plT tp q) (hM : MS tp w q c D B S) (hD : D < 5) (hc : c < 2000) (ho : srT tp q = if o = true then 25 else 22) (h : ∀ S', frR c D (D + 1) S S' → MS tp w (nxT tp q) (c + 1) (D + 1) (if o = true then D + 1 else B) S' → ga S' 1016 (D + 1) = 0 → ga S' 1014 c = (if o = true then 28 else 30) → rw1 d Q (D + 1) S') : rw1 d Q D S := by
  have hop : isOp tp w q := by
    cases o
    · exact Or.inr (Or.inl ho)
    · exact Or.inr (Or.inr (Or.inl ho))
  have e1 : nI D + 1 = nI (D + 1) := nI_1 D
  have n5 : ¬ nI D = 5 := fun c5 => by
    rw [show (5 : Int32) = nI 5 from rfl, nI_eq (by omega) (by decide)] at c5
    omega
  have fin : ∀ y : Int32, y = (if o = true then 2 else 1) → aWM (d + 2) 6 [.ref 1000] (sa (sa (si (sa S 1014 c (if o = true then 28 else 30)) 1000 23 (nI (c + 1))) 1015 (nI D + 1).toNatClampNeg y) 1016 (nI D + 1).toNatClampNeg (vp_nar .boolean 0)) (fun v3 S4 => aV v3 (aBM (d + 2) 12 Q 9 [some (.ref 1000), some (.int (nI D + 1)), some (.int 1), none, none, none] [] S4)) := by
    intro y hy
    rw [e1, nI_clamp (by omega)]
    have f0 : frR c D (D + 1) S (sa (sa (si (sa S 1014 c (if o = true then 28 else 30)) 1000 23 (nI (c + 1))) 1015 (D + 1) y) 1016 (D + 1) (vp_nar .boolean 0)) := ((frR_put (Nat.le_refl _)).tr (frR_op (by omega))).tr (frR_cm (by omega))
    have t1 : tkM tp q (sa (sa (si (sa S 1014 c (if o = true then 28 else 30)) 1000 23 (nI (c + 1))) 1015 (D + 1) y) 1016 (D + 1) (vp_nar .boolean 0)) := tk_sa (tk_sa (tk_si (tk_sa hM.1 (by decide)) (by decide)) (by decide)) (by decide)
    refine wM_nx ht t1 hl (fun S' f1 t2 => ?_)
    have f : frR c D (D + 1) S S' := f0.tr (frR_tk f1)
    obtain ⟨-, -, m3, m4, m5, m6⟩ := hM
    have a15 : ga S' 1015 (D + 1) = y := by
      rw [f1.1 1015 _ (fun q => q), ga_sa, if_neg (by omega), ga_sa, if_pos ⟨rfl, rfl⟩]
    refine h S' f ⟨t2, ?_, (f.1.2.2.1 24 (by unfold flF; omega)).trans m3, ?_, fun j a b => ?_, ?_⟩ ?_ ?_
    · rw [gi_tk f1 (by unfold tkF; omega), gi_sa, gi_sa, gi_si, if_pos ⟨rfl, rfl⟩]
    · cases o
      · show B ≤ D + 1
        omega
      · exact Nat.le_refl _
    · cases o
      · have a : B < j := a
        by_cases cj : j = D + 1
        · rw [cj, a15, hy]; rfl
        · rw [f.2.2.1 j (by omega)]
          exact m5 j a (by omega)
      · have a : D + 1 < j := a
        omega
    · cases o
      · show B = 0 ∨ ga S' 1015 B = 2
        exact m6.imp_right (fun e => (f.2.2.1 B m4).trans e)
      · show D + 1 = 0 ∨ ga S' 1015 (D + 1) = 2
        exact Or.inr (by rw [a15, hy]; rfl)
    · rw [f1.1 1016 _ (fun q => q), ga_sa, if_pos ⟨rfl, rfl⟩]
      rfl
    · rw [f1.1 1014 c (fun q => q), ga_sa, if_neg (by omega), ga_sa, if_neg (by omega), ga_si, ga_sa, if_pos ⟨rfl, rfl⟩]
  have hvp : vp_in (nI D + 1) 7 := by
    rw [e1]
    exact nI_in (by omega) (by decide)
  refine rw_go36 ht hl hM hop (fun f hf => ?_)
  refine bM_reads_36 ⟨fun _ => ?_, fun c5 => absurd c5 n5⟩
  cases o with
  | true =>
    have ho : srT tp q = 25 := ho
    rw [decide_eq_false (by omega), decide_eq_true ho]
    refine ⟨fun q => absurd rfl q, fun _ => ⟨fun q => absurd q (by decide), fun _ => ⟨fun _ => ?_, fun q => absurd rfl q⟩⟩⟩
    refine bM_reads_53 (wM_puts hM.2.1 hc ⟨fun _ => ⟨hvp, hvp, fin 2 rfl⟩, fun q => absurd rfl q⟩)
  | false =>
    have ho : srT tp q = 22 := ho
    rw [decide_eq_true ho, decide_eq_false (by omega)]
    refine ⟨fun _ => ⟨fun q => absurd q (by decide), fun _ => ?_⟩, fun q => absurd q (by decide)⟩
    refine bM_reads_53 (wM_puts hM.2.1 hc ⟨fun q => absurd q (by decide), fun _ => ⟨hvp, hvp, fin 1 rfl⟩⟩)
end
