/-! a realm read: the reference -/
/-- the upper half of a row laid onto its lower half -/
def shR (a n : Nat) (S S' : aS) : Prop := (∀ i k, ga S' i k = if i = a ∧ k < n then ga S i (n + k) else ga S i k) ∧ (∀ i k, gb S' i k = gb S i k) ∧ (∀ k, gi S' 1000 k = gi S 1000 k)
section
variable {d : Nat} {Q : Value → aS → Prop} {S : aS} {tp : List Nat}
theorem wM_shifts {a n : Nat} (h1 : akd a = 30) (h2 : 2 * n ≤ aln a) (h3 : aln a ≤ 4000) (hx : ∀ S', shR a n S S' → Q .null S') : aWM (d + 1) 33 [.ref a, .int (nI n)] S Q := by
  refine mM_shifts ?_
  have loop : ∀ m k T, k + m = n → (∀ i j, ga T i j = if i = a ∧ j < k then ga S i (n + j) else ga S i j) → (∀ i j, gb T i j = gb S i j) → (∀ j, gi T 1000 j = gi S 1000 j) → aBM d 33 Q 2 [some (.ref a), some (.int (nI n)), some (.int (nI k))] [] T := by
    intro m
    induction m with
    | zero =>
      intro k T hk A B G
      obtain rfl : k = n := by omega
      exact bM_shifts_2 ⟨fun _ => hx T ⟨A, B, G⟩, fun z => absurd (nI_le (Nat.le_refl _) (by omega)) z⟩
    | succ m ih =>
      intro k T hk A B G
      refine bM_shifts_2 ?_
      rw [nI_leI (by omega) (by omega), nI_add, nI_1, nI_clamp (by omega), nI_clamp (by omega)]
      refine ⟨fun z => absurd z (by omega), fun _ => gK_ok h1 ⟨nI_in (by omega) (by omega), gK_ok h1 ⟨nI_in (by omega) (by omega), ih (k + 1) _ (by omega) (fun i j => ?_) (fun i j => by rw [gb_sa]; exact B i j) (fun j => by rw [gi_sa]; exact G j)⟩⟩⟩
      have e : ga T a (n + k) = ga S a (n + k) := by rw [A, if_neg (by omega)]
      rw [ga_sa, e, A i j]
      by_cases z : i = a ∧ j = k
      · rw [if_pos z, if_pos (by omega), z.1, z.2]
      · rw [if_neg z]
        by_cases y : i = a ∧ j < k
        · rw [if_pos y, if_pos (by omega)]
        · rw [if_neg y, if_neg (by omega)]
  exact loop n 0 S (by omega) (fun i j => by rw [if_neg (by omega)]) (fun _ _ => rfl) (fun _ => rfl)
theorem loM_of {U : aS} {l o n c : Nat} {f : Option zF} (hl : l < 2) (h : loU S l o n c f) (hc : c ≤ 2000) (a2 : ga U 1012 l = ga S 1012 (2 + l) - 1000) (a3 : ga U 1013 l = ga S 1013 (2 + l) - 1000) (a4 : ∀ k, k < 1000 → ga U 1014 k = ga S 1014 (1000 + k)) : loM U l o n f := by
  cases f with
  | none =>
    show ga U 1013 l = ga U 1012 l
    rw [a2, a3, h.1, h.2]
  | some F =>
    obtain ⟨hh, cs, a, e1, e2, e3, e4, e5, e6, e7, e8⟩ := h
    refine ⟨hh, cs, a - 1000, e1, e2, ?_, ?_, by omega, fun i x hi => ?_, e8⟩
    · rw [a2, e3]
      exact nI_subN (b := 1000) (by omega)
    · rw [a3, e4, show nI (a + cs.length) - 1000 = nI (a + cs.length - 1000) from nI_subN (b := 1000) (by omega)]
      exact congrArg nI (by omega)
    · have := (List.getElem?_eq_some_iff.mp hi).1
      rw [a4 _ (by omega), show 1000 + (a - 1000 + i) = a + i by omega]
      exact e7 i x hi
def lyC (i : Nat) : Prop := 1002 ≤ i ∧ i ≤ 1014
theorem wM_lays {D : zD} {c : Nat} (ok : okDr D) (h : dM D c S) (hc : c ≤ 2000) (hx : ∀ S', (∀ i k, ¬ lyC i → ga S' i k = ga S i k) → (∀ k, gi S' 1000 k = gi S 1000 k) → RM D.1 S' → Q .null S') : aWM (d + 3) 34 [.ref 1000] S Q := by
  have h5 := ok.1.1
  have h12 := ok.1.2.1
  refine mM_lays ?_
  show aWM (d + 2) 33 [.ref 1002, .int (nI 4)] S _
  refine wM_shifts (d := d + 1) rfl (by decide) (by decide) (fun S1 s1 => ?_)
  have loopN : ∀ m k T, k + m = 12 → (∀ i j, ga T i j = ga S1 i j) → (∀ j, gi T 1000 j = gi S1 1000 j) → (∀ i j, gb T i j = if i = 1004 ∧ j < k then gb S1 1004 (12 + j) else gb S1 i j) → aBM (d + 2) 34 Q 6 [some (.ref 1000), some (.int (nI k))] [] T := by
    intro m
    induction m with
    | succ m ih =>
      intro k T hk A G B
      refine bM_lays_6 ⟨fun z => absurd z (nI_ge (a := k) (b := 12) (by omega) (by decide)), fun _ => ?_⟩
      rw [show (12 : Int32) + nI k = nI (12 + k) from nI_add 12 k, nI_1, nI_clamp (by omega), nI_clamp (by omega)]
      refine ⟨nI_in (by omega) (by decide), nI_in (by omega) (by decide), ih (k + 1) _ (by omega) (fun i j => by rw [ga_sb]; exact A i j) (fun j => by rw [gi_sb]; exact G j) (fun i j => ?_)⟩
      have e : gb T 1004 (12 + k) = gb S1 1004 (12 + k) := by rw [B, if_neg (by omega)]
      rw [gb_sb, e, B i j]
      by_cases z : i = 1004 ∧ j = k
      · rw [if_pos z, if_pos (by omega), z.2]
      · rw [if_neg z]
        by_cases y : i = 1004 ∧ j < k
        · rw [if_pos y, if_pos (by omega)]
        · rw [if_neg y, if_neg (by omega)]
    | zero =>
      intro k T hk A G B
      obtain rfl : k = 12 := by omega
      refine bM_lays_6 ⟨fun _ => ?_, fun z => absurd (by decide) z⟩
      show aWM (d + 2) 33 [.ref 1005, .int (nI 5)] T _
      refine wM_shifts (d := d + 1) rfl (by decide) (by decide) (fun S3 s3 => ?_)
      show aWM (d + 2) 33 [.ref 1006, .int (nI 12)] S3 _
      refine wM_shifts (d := d + 1) rfl (by decide) (by decide) (fun S4 s4 => ?_)
      show aWM (d + 2) 33 [.ref 1007, .int (nI 12)] S4 _
      refine wM_shifts (d := d + 1) rfl (by decide) (by decide) (fun S5 s5 => ?_)
      show aWM (d + 2) 33 [.ref 1008, .int (nI 12)] S5 _
      refine wM_shifts (d := d + 1) rfl (by decide) (by decide) (fun S6 s6 => ?_)
      show aWM (d + 2) 33 [.ref 1009, .int (nI 12)] S6 _
      refine wM_shifts (d := d + 1) rfl (by decide) (by decide) (fun S7 s7 => ?_)
      show aWM (d + 2) 33 [.ref 1010, .int (nI 60)] S7 _
      refine wM_shifts (d := d + 1) rfl (by decide) (by decide) (fun S8 s8 => ?_)
      show aWM (d + 2) 33 [.ref 1011, .int (nI 12)] S8 _
      refine wM_shifts (d := d + 1) rfl (by decide) (by decide) (fun S9 s9 => ?_)
      show aWM (d + 2) 33 [.ref 1014, .int (nI 1000)] S9 _
      refine wM_shifts (d := d + 1) rfl (by decide) (by decide) (fun S10 s10 => ?_)
      show aBM (d + 2) 34 Q 55 [some (.ref 1000), some (.int 0)] [] S10
      have G10 : ∀ j, gi S10 1000 j = gi S 1000 j := fun j => by
        rw [s10.2.2, s9.2.2, s8.2.2, s7.2.2, s6.2.2, s5.2.2, s4.2.2, s3.2.2, G, s1.2.2]
      have B10 : ∀ j, j < 12 → gb S10 1004 j = gb S 1004 (12 + j) := fun j hj => by
        rw [s10.2.1, s9.2.1, s8.2.1, s7.2.1, s6.2.1, s5.2.1, s4.2.1, s3.2.1, B, if_pos ⟨rfl, hj⟩, s1.2.1]
      have A10 : ∀ i k, ga S10 i k = if i = 1014 ∧ k < 1000 then ga S i (1000 + k) else if i = 1011 ∧ k < 12 then ga S i (12 + k) else if i = 1010 ∧ k < 60 then ga S i (60 + k) else if i = 1009 ∧ k < 12 then ga S i (12 + k) else if i = 1008 ∧ k < 12 then ga S i (12 + k) else if i = 1007 ∧ k < 12 then ga S i (12 + k) else if i = 1006 ∧ k < 12 then ga S i (12 + k) else if i = 1005 ∧ k < 5 then ga S i (5 + k) else if i = 1002 ∧ k < 4 then ga S i (4 + k) else ga S i k := fun i k => by
        have st : ∀ (a n : Nat) (T T' : aS), shR a n T T' → ∀ j, i ≠ a → ga T' i j = ga T i j := fun a n T T' s j hne => by
          rw [s.1, if_neg (fun z => hne z.1)]
        have at1 : ∀ (a n : Nat) (T T' : aS), shR a n T T' → ∀ j, i = a → ga T' i j = if j < n then ga T i (n + j) else ga T i j := fun a n T T' s j he => by
          rw [s.1]
          by_cases z : j < n
          · rw [if_pos ⟨he, z⟩, if_pos z]
          · rw [if_neg (fun y => z y.2), if_neg z]
        by_cases e14 : i = 1014
        · have lo : ∀ j, ga S9 i j = ga S i j := fun j => by
            rw [st _ _ _ _ s9 j (by omega), st _ _ _ _ s8 j (by omega), st _ _ _ _ s7 j (by omega), st _ _ _ _ s6 j (by omega), st _ _ _ _ s5 j (by omega), st _ _ _ _ s4 j (by omega), st _ _ _ _ s3 j (by omega), A, st _ _ _ _ s1 j (by omega)]
          rw [at1 _ _ _ _ s10 k e14, lo, lo]
          by_cases z : k < 1000
          · rw [if_pos z, if_pos ⟨e14, z⟩]
          · rw [if_neg z, if_neg (by omega), if_neg (by omega), if_neg (by omega), if_neg (by omega), if_neg (by omega), if_neg (by omega), if_neg (by omega), if_neg (by omega), if_neg (by omega)]
        rw [st _ _ _ _ s10 k e14, if_neg (fun z => e14 z.1)]
        by_cases e11 : i = 1011
        · have lo : ∀ j, ga S8 i j = ga S i j := fun j => by
            rw [st _ _ _ _ s8 j (by omega), st _ _ _ _ s7 j (by omega), st _ _ _ _ s6 j (by omega), st _ _ _ _ s5 j (by omega), st _ _ _ _ s4 j (by omega), st _ _ _ _ s3 j (by omega), A, st _ _ _ _ s1 j (by omega)]
          rw [at1 _ _ _ _ s9 k e11, lo, lo]
          by_cases z : k < 12
          · rw [if_pos z, if_pos ⟨e11, z⟩]
          · rw [if_neg z, if_neg (by omega), if_neg (by omega), if_neg (by omega), if_neg (by omega), if_neg (by omega), if_neg (by omega), if_neg (by omega), if_neg (by omega)]
        rw [st _ _ _ _ s9 k e11, if_neg (fun z => e11 z.1)]
        by_cases e10 : i = 1010
        · have lo : ∀ j, ga S7 i j = ga S i j := fun j => by
            rw [st _ _ _ _ s7 j (by omega), st _ _ _ _ s6 j (by omega), st _ _ _ _ s5 j (by omega), st _ _ _ _ s4 j (by omega), st _ _ _ _ s3 j (by omega), A, st _ _ _ _ s1 j (by omega)]
          rw [at1 _ _ _ _ s8 k e10, lo, lo]
          by_cases z : k < 60
          · rw [if_pos z, if_pos ⟨e10, z⟩]
          · rw [if_neg z, if_neg (by omega), if_neg (by omega), if_neg (by omega), if_neg (by omega), if_neg (by omega), if_neg (by omega), if_neg (by omega)]
        rw [st _ _ _ _ s8 k e10, if_neg (fun z => e10 z.1)]
        by_cases e9 : i = 1009
        · have lo : ∀ j, ga S6 i j = ga S i j := fun j => by
            rw [st _ _ _ _ s6 j (by omega), st _ _ _ _ s5 j (by omega), st _ _ _ _ s4 j (by omega), st _ _ _ _ s3 j (by omega), A, st _ _ _ _ s1 j (by omega)]
          rw [at1 _ _ _ _ s7 k e9, lo, lo]
          by_cases z : k < 12
          · rw [if_pos z, if_pos ⟨e9, z⟩]
          · rw [if_neg z, if_neg (by omega), if_neg (by omega), if_neg (by omega), if_neg (by omega), if_neg (by omega), if_neg (by omega)]
        rw [st _ _ _ _ s7 k e9, if_neg (fun z => e9 z.1)]
        by_cases e8 : i = 1008
        · have lo : ∀ j, ga S5 i j = ga S i j := fun j => by
            rw [st _ _ _ _ s5 j (by omega), st _ _ _ _ s4 j (by omega), st _ _ _ _ s3 j (by omega), A, st _ _ _ _ s1 j (by omega)]
          rw [at1 _ _ _ _ s6 k e8, lo, lo]
          by_cases z : k < 12
          · rw [if_pos z, if_pos ⟨e8, z⟩]
          · rw [if_neg z, if_neg (by omega), if_neg (by omega), if_neg (by omega), if_neg (by omega), if_neg (by omega)]
        rw [st _ _ _ _ s6 k e8, if_neg (fun z => e8 z.1)]
        by_cases e7 : i = 1007
        · have lo : ∀ j, ga S4 i j = ga S i j := fun j => by
            rw [st _ _ _ _ s4 j (by omega), st _ _ _ _ s3 j (by omega), A, st _ _ _ _ s1 j (by omega)]
          rw [at1 _ _ _ _ s5 k e7, lo, lo]
          by_cases z : k < 12
          · rw [if_pos z, if_pos ⟨e7, z⟩]
          · rw [if_neg z, if_neg (by omega), if_neg (by omega), if_neg (by omega), if_neg (by omega)]
        rw [st _ _ _ _ s5 k e7, if_neg (fun z => e7 z.1)]
        by_cases e6 : i = 1006
        · have lo : ∀ j, ga S3 i j = ga S i j := fun j => by
            rw [st _ _ _ _ s3 j (by omega), A, st _ _ _ _ s1 j (by omega)]
          rw [at1 _ _ _ _ s4 k e6, lo, lo]
          by_cases z : k < 12
          · rw [if_pos z, if_pos ⟨e6, z⟩]
          · rw [if_neg z, if_neg (by omega), if_neg (by omega), if_neg (by omega)]
        rw [st _ _ _ _ s4 k e6, if_neg (fun z => e6 z.1)]
        by_cases e5 : i = 1005
        · have lo : ∀ j, ga T i j = ga S i j := fun j => by
            rw [A, st _ _ _ _ s1 j (by omega)]
          rw [at1 _ _ _ _ s3 k e5, lo, lo]
          by_cases z : k < 5
          · rw [if_pos z, if_pos ⟨e5, z⟩]
          · rw [if_neg z, if_neg (by omega), if_neg (by omega)]
        rw [st _ _ _ _ s3 k e5, if_neg (fun z => e5 z.1), A, s1.1]
      have cl3 : (3 : Int32).toNatClampNeg = 3 := by decide
      refine bM_lays_55 ⟨fun z => absurd z (by decide), fun _ => ⟨vin (by decide), vin (by decide), vin (by decide), vin (by decide), ?_⟩⟩
      refine bM_lays_55 ⟨fun z => absurd z (by decide), fun _ => ⟨vin (by decide), vin (by decide), vin (by decide), vin (by decide), ?_⟩⟩
      refine bM_lays_55 ⟨fun _ => ?_, fun z => absurd (by decide) z⟩
      rw [show ((2 : Int32) + (0 + 1)).toNatClampNeg = 3 by decide, show ((0 : Int32) + 1).toNatClampNeg = 1 by decide, show ((2 : Int32) + 0).toNatClampNeg = 2 by decide, c0]
      have U2 : ∀ l, l < 2 → ga (sa (sa (sa (sa S10 1012 0 (ga S10 1012 2 - 1000)) 1013 0 (ga (sa S10 1012 0 (ga S10 1012 2 - 1000)) 1013 2 - 1000)) 1012 1 (ga (sa (sa S10 1012 0 (ga S10 1012 2 - 1000)) 1013 0 (ga (sa S10 1012 0 (ga S10 1012 2 - 1000)) 1013 2 - 1000)) 1012 3 - 1000)) 1013 1 (ga (sa (sa (sa S10 1012 0 (ga S10 1012 2 - 1000)) 1013 0 (ga (sa S10 1012 0 (ga S10 1012 2 - 1000)) 1013 2 - 1000)) 1012 1 (ga (sa (sa S10 1012 0 (ga S10 1012 2 - 1000)) 1013 0 (ga (sa S10 1012 0 (ga S10 1012 2 - 1000)) 1013 2 - 1000)) 1012 3 - 1000)) 1013 3 - 1000)) 1012 l = ga S10 1012 (2 + l) - 1000 ∧ ga (sa (sa (sa (sa S10 1012 0 (ga S10 1012 2 - 1000)) 1013 0 (ga (sa S10 1012 0 (ga S10 1012 2 - 1000)) 1013 2 - 1000)) 1012 1 (ga (sa (sa S10 1012 0 (ga S10 1012 2 - 1000)) 1013 0 (ga (sa S10 1012 0 (ga S10 1012 2 - 1000)) 1013 2 - 1000)) 1012 3 - 1000)) 1013 1 (ga (sa (sa (sa S10 1012 0 (ga S10 1012 2 - 1000)) 1013 0 (ga (sa S10 1012 0 (ga S10 1012 2 - 1000)) 1013 2 - 1000)) 1012 1 (ga (sa (sa S10 1012 0 (ga S10 1012 2 - 1000)) 1013 0 (ga (sa S10 1012 0 (ga S10 1012 2 - 1000)) 1013 2 - 1000)) 1012 3 - 1000)) 1013 3 - 1000)) 1013 l = ga S10 1013 (2 + l) - 1000 := by
        intro l hl
        rcases show l = 0 ∨ l = 1 by omega with rfl | rfl
        · constructor
          · rw [ga_sa, if_neg (by decide), ga_sa, if_neg (by decide), ga_sa, if_neg (by decide), ga_sa, if_pos ⟨rfl, rfl⟩]
          · rw [ga_sa, if_neg (by decide), ga_sa, if_neg (by decide), ga_sa, if_pos ⟨rfl, rfl⟩, ga_sa, if_neg (by decide)]
        · constructor
          · rw [ga_sa, if_neg (by decide), ga_sa, if_pos ⟨rfl, rfl⟩, ga_sa, if_neg (by decide), ga_sa, if_neg (by decide)]
          · rw [ga_sa, if_pos ⟨rfl, rfl⟩, ga_sa, if_neg (by decide), ga_sa, if_neg (by decide), ga_sa, if_neg (by decide)]
      have U0 : ∀ i k, i ≠ 1012 → i ≠ 1013 → ga (sa (sa (sa (sa S10 1012 0 (ga S10 1012 2 - 1000)) 1013 0 (ga (sa S10 1012 0 (ga S10 1012 2 - 1000)) 1013 2 - 1000)) 1012 1 (ga (sa (sa S10 1012 0 (ga S10 1012 2 - 1000)) 1013 0 (ga (sa S10 1012 0 (ga S10 1012 2 - 1000)) 1013 2 - 1000)) 1012 3 - 1000)) 1013 1 (ga (sa (sa (sa S10 1012 0 (ga S10 1012 2 - 1000)) 1013 0 (ga (sa S10 1012 0 (ga S10 1012 2 - 1000)) 1013 2 - 1000)) 1012 1 (ga (sa (sa S10 1012 0 (ga S10 1012 2 - 1000)) 1013 0 (ga (sa S10 1012 0 (ga S10 1012 2 - 1000)) 1013 2 - 1000)) 1012 3 - 1000)) 1013 3 - 1000)) i k = ga S10 i k := fun i k i2 i3 => by
        rw [ga_sa, if_neg (fun z => i3 z.1), ga_sa, if_neg (fun z => i2 z.1), ga_sa, if_neg (fun z => i3 z.1), ga_sa, if_neg (fun z => i2 z.1)]
      have UB : ∀ j, j < 12 → gb (sa (sa (sa (sa S10 1012 0 (ga S10 1012 2 - 1000)) 1013 0 (ga (sa S10 1012 0 (ga S10 1012 2 - 1000)) 1013 2 - 1000)) 1012 1 (ga (sa (sa S10 1012 0 (ga S10 1012 2 - 1000)) 1013 0 (ga (sa S10 1012 0 (ga S10 1012 2 - 1000)) 1013 2 - 1000)) 1012 3 - 1000)) 1013 1 (ga (sa (sa (sa S10 1012 0 (ga S10 1012 2 - 1000)) 1013 0 (ga (sa S10 1012 0 (ga S10 1012 2 - 1000)) 1013 2 - 1000)) 1012 1 (ga (sa (sa S10 1012 0 (ga S10 1012 2 - 1000)) 1013 0 (ga (sa S10 1012 0 (ga S10 1012 2 - 1000)) 1013 2 - 1000)) 1012 3 - 1000)) 1013 3 - 1000)) 1004 j = gb S 1004 (12 + j) := fun j hj => by
        rw [gb_sa, gb_sa, gb_sa, gb_sa, B10 j hj]
      have UG : ∀ j, gi (sa (sa (sa (sa S10 1012 0 (ga S10 1012 2 - 1000)) 1013 0 (ga (sa S10 1012 0 (ga S10 1012 2 - 1000)) 1013 2 - 1000)) 1012 1 (ga (sa (sa S10 1012 0 (ga S10 1012 2 - 1000)) 1013 0 (ga (sa S10 1012 0 (ga S10 1012 2 - 1000)) 1013 2 - 1000)) 1012 3 - 1000)) 1013 1 (ga (sa (sa (sa S10 1012 0 (ga S10 1012 2 - 1000)) 1013 0 (ga (sa S10 1012 0 (ga S10 1012 2 - 1000)) 1013 2 - 1000)) 1012 1 (ga (sa (sa S10 1012 0 (ga S10 1012 2 - 1000)) 1013 0 (ga (sa S10 1012 0 (ga S10 1012 2 - 1000)) 1013 2 - 1000)) 1012 3 - 1000)) 1013 3 - 1000)) 1000 j = gi S 1000 j := fun j => by
        rw [gi_sa, gi_sa, gi_sa, gi_sa, G10]
      generalize sa (sa (sa (sa S10 1012 0 (ga S10 1012 2 - 1000)) 1013 0 (ga (sa S10 1012 0 (ga S10 1012 2 - 1000)) 1013 2 - 1000)) 1012 1 (ga (sa (sa S10 1012 0 (ga S10 1012 2 - 1000)) 1013 0 (ga (sa S10 1012 0 (ga S10 1012 2 - 1000)) 1013 2 - 1000)) 1012 3 - 1000)) 1013 1 (ga (sa (sa (sa S10 1012 0 (ga S10 1012 2 - 1000)) 1013 0 (ga (sa S10 1012 0 (ga S10 1012 2 - 1000)) 1013 2 - 1000)) 1012 1 (ga (sa (sa S10 1012 0 (ga S10 1012 2 - 1000)) 1013 0 (ga (sa S10 1012 0 (ga S10 1012 2 - 1000)) 1013 2 - 1000)) 1012 3 - 1000)) 1013 3 - 1000) = U at U2 U0 UB UG ⊢
      have N10 : ∀ k, ga S10 1012 k = ga S 1012 k ∧ ga S10 1013 k = ga S 1013 k := fun k => by
        rw [A10, A10]
        exact ⟨rfl, rfl⟩
      obtain ⟨⟨p1, p2, p3, p4⟩, q1, q2, q3, q4, q5, q6⟩ := h
      have lo : ∀ l o n f, l < 2 → loU S l o n c f → loM U l o n f := fun l o n f hl hu => loM_of hl hu hc (by rw [(U2 l hl).1, (N10 _).1]) (by rw [(U2 l hl).2, (N10 _).2]) (fun k hk => by rw [U0 1014 k (by decide) (by decide), A10, if_pos ⟨rfl, hk⟩])
      refine hx U (fun i k hi => ?_) UG ⟨⟨?_, ?_, ?_, ?_, fun k hk => ?_, fun w hw => ?_, fun w hw => ?_, fun w hw => ?_, fun w hw => ?_, fun k w hk hw => ?_⟩, lo 0 1 5 _ (by decide) q3, lo 1 6 3 _ (by decide) q4, fun v hv => ?_, fun w hw => ?_⟩
      · unfold lyC at hi
        rw [U0 i k (by omega) (by omega), A10, if_neg (by omega), if_neg (by omega), if_neg (by omega), if_neg (by omega), if_neg (by omega), if_neg (by omega), if_neg (by omega), if_neg (by omega), if_neg (by omega)]
      · rw [U0 _ _ (by decide) (by decide), A10]; exact p1
      · rw [U0 _ _ (by decide) (by decide), A10]; exact p2
      · rw [U0 _ _ (by decide) (by decide), A10]; exact p3
      · rw [U0 _ _ (by decide) (by decide), A10]; exact p4
      · rw [U0 _ _ (by decide) (by decide), A10, if_neg (by omega), if_neg (by omega), if_neg (by omega), if_neg (by omega), if_neg (by omega), if_neg (by omega), if_neg (by omega), if_pos ⟨rfl, by omega⟩]
        exact (q1 k hk).1
      · rw [U0 _ _ (by decide) (by decide), A10, if_neg (by omega), if_neg (by omega), if_neg (by omega), if_neg (by omega), if_neg (by omega), if_neg (by omega), if_pos ⟨rfl, by omega⟩]
        exact (q2 w hw).1
      · rw [U0 _ _ (by decide) (by decide), A10, if_neg (by omega), if_neg (by omega), if_neg (by omega), if_neg (by omega), if_neg (by omega), if_pos ⟨rfl, by omega⟩]
        exact (q2 w hw).2.1
      · rw [U0 _ _ (by decide) (by decide), A10, if_neg (by omega), if_neg (by omega), if_neg (by omega), if_neg (by omega), if_pos ⟨rfl, by omega⟩]
        exact (q2 w hw).2.2.1
      · rw [U0 _ _ (by decide) (by decide), A10, if_neg (by omega), if_neg (by omega), if_neg (by omega), if_pos ⟨rfl, by omega⟩]
        exact (q2 w hw).2.2.2.1
      · rw [U0 _ _ (by decide) (by decide), A10, if_neg (by omega), if_neg (by omega), if_pos ⟨rfl, by omega⟩, show 60 + (12 * k + w) = 60 + 12 * k + w by omega]
        exact (q1 k hk).2.2 w (by omega)
      · rw [U0 _ _ (by decide) (by decide), A10, if_neg (by omega), if_pos ⟨rfl, by omega⟩]
        exact (q2 v hv).2.2.2.2.2
      · rw [UB w (by omega)]
        exact (q2 w hw).2.2.2.2.1
  exact loopN 12 0 S1 (by omega) (fun _ _ => rfl) (fun _ => rfl) (fun i j => by rw [if_neg (by omega)])
end
