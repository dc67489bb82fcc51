/-! an E worked out, the class: steps on a stack -/
def isFo (t : Nat) : Prop := akd t = 0 ∧ (akd (art t 1) = 20 ∧ aln (art t 1) = 5) ∧ (akd (art t 2) = 20 ∧ aln (art t 2) = 32) ∧ (akd (art t 3) = 20 ∧ aln (art t 3) = 1000) ∧ art t 2 ≠ art t 1 ∧ art t 2 ≠ art t 3
theorem isFo_17 : isFo 17 := ⟨rfl, ⟨rfl, rfl⟩, ⟨rfl, rfl⟩, ⟨rfl, rfl⟩, by decide, by decide⟩
theorem isFo_20 : isFo 20 := ⟨rfl, ⟨rfl, rfl⟩, ⟨rfl, rfl⟩, ⟨rfl, rfl⟩, by decide, by decide⟩
theorem isFo_34 : isFo 34 := ⟨rfl, ⟨rfl, rfl⟩, ⟨rfl, rfl⟩, ⟨rfl, rfl⟩, by decide, by decide⟩
theorem isFo_37 : isFo 37 := ⟨rfl, ⟨rfl, rfl⟩, ⟨rfl, rfl⟩, ⟨rfl, rfl⟩, by decide, by decide⟩
def hk (d : Nat) (Q : Value → aS → Prop) (t top k : Nat) (S : aS) : Prop := aBX d 6 Q 5 [some (.ref t), some (.int (nI top)), some (.int (nI k)), none] [] S
def frS (t top : Nat) (S S' : aS) : Prop := (∀ i j, ¬ (i = art t 2 ∧ top ≤ j) → ga S' i j = ga S i j) ∧ S'.1 = S.1 ∧ S'.2.1 = S.2.1 ∧ S'.2.2.1 = S.2.2.1 ∧ S'.2.2.2.2 = S.2.2.2.2
theorem frS.rf {t top : Nat} {S : aS} : frS t top S S := ⟨fun _ _ _ => rfl, rfl, rfl, rfl, rfl⟩
theorem frS.tr {t top top' : Nat} {S S1 S2 : aS} (h : frS t top S S1) (h2 : frS t top' S1 S2) (ht : top ≤ top') : frS t top S S2 := ⟨fun i j q => (h2.1 i j (fun z => q ⟨z.1, by omega⟩)).trans (h.1 i j q), h2.2.1.trans h.2.1, h2.2.2.1.trans h.2.2.1, h2.2.2.2.1.trans h.2.2.2.1, h2.2.2.2.2.trans h.2.2.2.2⟩
theorem frS_sa {t top j : Nat} {S : aS} {v : Int32} (h : top ≤ j) : frS t top S (sa S (art t 2) j v) := by
  refine ⟨fun a b q => ?_, rfl, rfl, rfl, rfl⟩
  rw [ga_sa, if_neg (show ¬ (a = art t 2 ∧ b = j) from fun z => q ⟨z.1, by omega⟩)]
def sAt (S : aS) (t k : Nat) (ss : List Int32) : Prop := ∀ i c, ss[i]? = some c → ga S (art t 3) (k + i) = c
def fcX (t : Nat) (S : aS) : Nat → Int32 := fun i => ga S (art t 1) i
theorem sAt.l {S : aS} {t k : Nat} {a b : List Int32} (h : sAt S t k (a ++ b)) : sAt S t k a := fun i c hi => h i c (by rw [List.getElem?_append_left (List.getElem?_eq_some_iff.mp hi).1]; exact hi)
theorem sAt.r {S : aS} {t k : Nat} {a b : List Int32} (h : sAt S t k (a ++ b)) : sAt S t (k + a.length) b := fun i c hi => by
  have := h (a.length + i) c (by rw [List.getElem?_append_right (by omega), Nat.add_sub_cancel_left]; exact hi)
  rw [Nat.add_assoc]
  exact this
theorem sAt.hd {S : aS} {t k : Nat} {c : Int32} {b : List Int32} (h : sAt S t k (c :: b)) : ga S (art t 3) k = c := h 0 c rfl
theorem sAt.kept {S S' : aS} {t k top : Nat} {ss : List Int32} (ht : isFo t) (h : sAt S t k ss) (hf : frS t top S S') : sAt S' t k ss := fun i c hi => (hf.1 _ _ (fun q => ht.2.2.2.2.2 q.1.symm)).trans (h i c hi)
theorem fcX_kept {S S' : aS} {t top : Nat} (ht : isFo t) (hf : frS t top S S') : fcX t S' = fcX t S := funext fun i => hf.1 _ _ (fun q => ht.2.2.2.2.1 q.1.symm)
theorem frS.gi {S S' : aS} {t top : Nat} (hf : frS t top S S') (i k : Nat) : gi S' i k = gi S i k := by
  show S'.1 i k = S.1 i k
  rw [hf.2.1]
/-- steps that leave one value more -/
def eSt (h : Nat) (ss : List Int32) (F : zF) : Prop := 0 < ss.length ∧ ∀ d Q t e top k S, isFo t → gi S t 5 = nI e → e ≤ 1000 → k + ss.length ≤ e → top + h ≤ 32 → sAt S t k ss → (∀ S', frS t top S S' → ga S' (art t 2) top = F (fcX t S) → hk (d + 1) Q t (top + 1) (k + ss.length) S') → hk (d + 1) Q t top k S
section
variable {d : Nat} {Q : Value → aS → Prop} {S : aS} {t top k e : Nat}
theorem hk_at (ht : isFo t) (he : gi S t 5 = nI e) (h1 : e ≤ 1000) (hke : k < e) {c : Int32} (hc : ga S (art t 3) k = c) (h : (c ≤ (-11 : Int32) → ((¬ c = (-11 : Int32) → (¬ nI top < (2 : Int32) → (vp_in ((nI top + (-1 : Int32)) - (1 : Int32)) 32 ∧ (vp_in (nI top + (-1 : Int32)) 32 ∧ (aWX d 8 [.int c, .int (ga S (art t 2) ((nI top + (-1 : Int32)) - (1 : Int32)).toNatClampNeg), .int (ga S (art t 2) (nI top + (-1 : Int32)).toNatClampNeg)] S (fun v1 S2 => aI v1 (fun x3 => (vp_in ((nI top + (-1 : Int32)) - (1 : Int32)) 32 ∧ (aBX d 6 Q 5 [some (.ref t), some (.int (nI top + (-1 : Int32))), some (.int (nI (k + 1))), none] [] (sa S2 (art t 2) ((nI top + (-1 : Int32)) - (1 : Int32)).toNatClampNeg x3))))))))))
    ∧ (c = (-11 : Int32) → (¬ nI top < (1 : Int32) → (vp_in (nI top - (1 : Int32)) 32 ∧ hk d Q t top (k + 1) (sa S (art t 2) (nI top - (1 : Int32)).toNatClampNeg (if ga S (art t 2) (nI top - (1 : Int32)).toNatClampNeg = 0 then 1 else 0)))))))
    ∧ (¬ c ≤ (-11 : Int32) → (¬ (32 : Int32) ≤ nI top → ((c < 0 → (aWX d 7 [.ref t, .int ((-1 : Int32) - c)] S (fun v4 S5 => aI v4 (fun x6 => vp_in (nI top) 32 ∧ (aBX d 6 Q 5 [some (.ref t), some (.int (nI top + (1 : Int32))), some (.int (nI (k + 1))), none] [] (sa S5 (art t 2) (nI top).toNatClampNeg x6)))))) ∧ (¬ c < 0 → (vp_in (nI top) 32 ∧ (aBX d 6 Q 5 [some (.ref t), some (.int (nI top + (1 : Int32))), some (.int (nI (k + 1))), none] [] (sa S (art t 2) (nI top).toNatClampNeg c))))))))
    (h2 : ¬ c = -11 → c ≤ -11 → ¬ nI top < 2) (h3 : c = -11 → ¬ nI top < 1) (h4 : ¬ c ≤ -11 → ¬ (32 : Int32) ≤ nI top) : hk d Q t top k S := by
  obtain ⟨t0, ⟨t1, t2⟩, ⟨t3, t4⟩, ⟨t5, t6⟩, t7, t8⟩ := ht
  refine bX_Formula_held_5 ?_
  simp only [aG, gK, t0, t3, t4, t5, t6, Nat.beq_refl, cond_true, he, nI_clamp (show k < 2 ^ 31 by omega), hc, nI_1]
  refine ⟨fun q => absurd q (nI_ge hke (by omega)), fun _ => ⟨fun q => absurd q (nI_ge (a := k) (b := 1000) (by omega) (by decide)), fun _ => ⟨nI_in (by omega) (by decide), fun c1 => ⟨fun c2 => ⟨fun q => absurd q (h2 c2 c1), fun c3 => ?_⟩, fun c2 => ⟨fun q => absurd q (h3 c2), fun c3 => ?_⟩⟩, fun c1 => ⟨fun q => absurd q (h4 c1), fun c2 => ⟨fun c3 => ?_, fun c3 => ?_⟩⟩⟩⟩⟩
  · exact (h.1 c1).1 c2 c3
  · obtain ⟨g1, g2⟩ := (h.1 c1).2 c2 c3
    refine ⟨g1, fun c4 => ⟨g1, ?_⟩, fun c4 => ⟨g1, ?_⟩⟩
    · rw [if_neg c4] at g2
      exact g2
    · rw [if_pos c4] at g2
      exact g2
  · have := (h.2 c1 c2).1 c3
    simp only [nI_1] at this
    exact this
  · have := (h.2 c1 c2).2 c3
    simp only [nI_1] at this
    exact this
end
theorem facK : ∀ n, n < 5 → ¬ ((-1 : Int32) - nI n ≤ (-11 : Int32)) ∧ ((-1 : Int32) - nI n < 0) ∧ (-1 : Int32) - ((-1 : Int32) - nI n) = nI n := by decide
section
variable {h h' : Nat} {ss ss' : List Int32} {F G : zF}
theorem eSt_num {n : Nat} (hn : n ≤ 9999) : eSt 1 [nI n] (fun _ => nI n) := by
  refine ⟨by simp, fun d Q t e top k S ht he h1 hk1 hh hs hx => ?_⟩
  simp only [List.length_cons, List.length_nil] at hk1
  have c1 : ¬ nI n ≤ -11 := fun q => absurd (Int32.le_trans (nI_pos' (show n < 2 ^ 31 by omega)) q) (by decide)
  have c2 : ¬ nI n < 0 := nI_pos (by omega)
  refine hk_at ht he h1 (by omega) hs.hd ⟨fun q => absurd q c1, fun _ _ => ⟨fun q => absurd q c2, fun _ => ⟨nI_in (by omega) (by decide), ?_⟩⟩⟩ (fun _ q => absurd q c1) (fun q => absurd (by rw [q]; decide) c1) (fun _ => nI_ge (a := top) (b := 32) (by omega) (by decide))
  rw [nI_1, nI_clamp (by omega)]
  exact hx _ (frS_sa (Nat.le_refl _)) (by rw [ga_sa, if_pos ⟨rfl, rfl⟩])
theorem eSt_fact {n : Nat} (hn : n < 5) : eSt 1 [(-1 : Int32) - nI n] (fun f => f n) := by
  refine ⟨by simp, fun d Q t e top k S ht he h1 hk1 hh hs hx => ?_⟩
  simp only [List.length_cons, List.length_nil] at hk1
  obtain ⟨c1, c2, c3⟩ := facK n hn
  refine hk_at ht he h1 (by omega) hs.hd ⟨fun q => absurd q c1, fun _ _ => ⟨fun _ => ?_, fun q => absurd c2 q⟩⟩ (fun _ q => absurd q c1) (fun q => absurd (by rw [q]; decide) c1) (fun _ => nI_ge (a := top) (b := 32) (by omega) (by decide))
  rw [c3]
  refine mX_Formula_factAt ?_
  obtain ⟨t0, ⟨t1, t2⟩, -⟩ := id ht
  simp only [aG, gK, t0, t1, t2, Nat.beq_refl, cond_true]
  refine ⟨fun q => absurd q (nI_pos (by omega)), fun _ => ⟨fun q => absurd q (nI_ge (a := n) (b := 5) hn (by decide)), fun _ => ⟨nI_in hn (by decide), nI_in (by omega) (by decide), ?_⟩⟩⟩
  rw [nI_1, nI_clamp (show top < 2 ^ 31 by omega), nI_clamp (show n < 2 ^ 31 by omega)]
  exact hx _ (frS_sa (Nat.le_refl _)) (by rw [ga_sa, if_pos ⟨rfl, rfl⟩]; rfl)
theorem eSt_not (p : eSt h ss F) (h0 : 0 < h) : eSt h (ss ++ [-11]) (fun f => if F f = 0 then 1 else 0) := by
  refine ⟨by simp, fun d Q t e top k S ht he h1 hk1 hh hs hx => ?_⟩
  rw [List.length_append, List.length_cons, List.length_nil] at hk1
  refine p.2 d Q t e top k S ht he h1 (by omega) hh hs.l (fun S1 hf hv => ?_)
  have e1 : nI (top + 1) - 1 = nI top := nI_pred top
  refine hk_at ht ((hf.gi t 5).trans he) h1 (by omega) (hs.r.kept ht hf).hd ⟨fun _ => ⟨fun q => absurd rfl q, fun _ _ => ?_⟩, fun q => absurd (by decide) q⟩ (fun q => absurd rfl q) (fun _ => nI_nlt (b := 1) (a := top + 1) (by omega) (by omega)) (fun q => absurd (by decide) q)
  rw [e1, nI_clamp (by omega), hv]
  refine ⟨nI_in (by omega) (by decide), ?_⟩
  have := hx (sa S1 (art t 2) top (if F (fcX t S) = 0 then 1 else 0)) (hf.tr (frS_sa (Nat.le_refl _)) (Nat.le_refl _)) (by rw [ga_sa, if_pos ⟨rfl, rfl⟩])
  rw [List.length_append, List.length_cons, List.length_nil] at this
  exact this
theorem eSt_bin {op : Int32} {J : Int32 → Int32 → Int32} (o1 : op ≤ -11) (o2 : ¬ op = -11) (hj : ∀ d (Q : Value → aS → Prop) S a b, Q (.int (J a b)) S → aWX (d + 1) 8 [.int op, .int a, .int b] S Q) (p : eSt h ss F) (q : eSt h' ss' G) (h0 : 0 < h') : eSt (max h (h' + 1)) (ss ++ (ss' ++ [op])) (fun f => J (F f) (G f)) := by
  refine ⟨by simp only [List.length_append, List.length_cons]; omega, fun d Q t e top k S ht he h1 hk1 hh hs hx => ?_⟩
  rw [List.length_append, List.length_append, List.length_cons, List.length_nil] at hk1
  refine p.2 d Q t e top k S ht he h1 (by omega) (by omega) hs.l (fun S1 hf hv => ?_)
  have hs1 := hs.r.kept ht hf
  refine q.2 d Q t e (top + 1) _ S1 ht ((hf.gi t 5).trans he) h1 (by omega) (by omega) hs1.l (fun S2 hf2 hv2 => ?_)
  have e1 : nI (top + 1 + 1) + (-1) = nI (top + 1) := pk_m1 (top + 1)
  have e2 : nI (top + 1) - 1 = nI top := nI_pred top
  have hp := q.1
  refine hk_at ht ((hf2.gi t 5).trans ((hf.gi t 5).trans he)) h1 (by omega) (hs1.r.kept ht hf2).hd ⟨fun _ => ⟨fun _ _ => ?_, fun q => absurd q o2⟩, fun q => absurd o1 q⟩ (fun _ _ => nI_nlt (b := 2) (a := top + 1 + 1) (by omega) (by omega)) (fun q => absurd q o2) (fun q => absurd o1 q)
  rw [e1, e2, nI_clamp (show top < 2 ^ 31 by omega), nI_clamp (show top + 1 < 2 ^ 31 by omega), hv2, hf2.1 (art t 2) top (fun z => by omega), hv, fcX_kept ht hf]
  refine ⟨nI_in (by omega) (by decide), nI_in (by omega) (by decide), hj _ _ _ _ _ ⟨nI_in (by omega) (by decide), ?_⟩⟩
  have := hx (sa S2 (art t 2) top (J (F (fcX t S)) (G (fcX t S)))) ((hf.tr hf2 (by omega)).tr (frS_sa (Nat.le_refl _)) (Nat.le_refl _)) (by rw [ga_sa, if_pos ⟨rfl, rfl⟩])
  rw [List.length_append, List.length_append, List.length_cons, List.length_nil] at this
  rw [show k + ss.length + ss'.length + 1 = k + (ss.length + (ss'.length + 1)) by omega]
  exact this
end
section
variable {d : Nat} {Q : Value → aS → Prop} {S : aS} {a b : Int32}
theorem jX_and (h : Q (.int (joiV 26 a b)) S) : aWX (d + 1) 8 [.int (-12), .int a, .int b] S Q := by
  unfold joiV at h
  rw [if_pos rfl] at h
  refine mX_Formula_joined ⟨fun q => absurd q (by decide), fun _ => ⟨fun q => absurd q (by decide), fun _ => ⟨fun q => absurd q (by decide), fun _ => ⟨fun q => absurd q (by decide), fun _ => ⟨fun q => absurd q (by decide), fun _ => ⟨fun _ => bX_Formula_joined_2 ⟨fun c => ?_, fun c => ⟨fun c2 => ?_, fun c2 => ?_⟩⟩, fun q => absurd rfl q⟩⟩⟩⟩⟩⟩
  · rw [if_neg (fun q => q.1 c)] at h; exact h
  · rw [if_neg (fun q => q.2 c2)] at h; exact h
  · rw [if_pos ⟨c, c2⟩] at h; exact h
theorem jX_or (h : Q (.int (joiV 27 a b)) S) : aWX (d + 1) 8 [.int (-13), .int a, .int b] S Q := by
  unfold joiV at h
  rw [if_neg (by decide), if_pos rfl] at h
  refine mX_Formula_joined ⟨fun q => absurd q (by decide), fun _ => ⟨fun q => absurd q (by decide), fun _ => ⟨fun q => absurd q (by decide), fun _ => ⟨fun q => absurd q (by decide), fun _ => ⟨fun _ => bX_Formula_joined_10 ⟨fun c => ?_, fun c => ⟨fun c2 => ?_, fun c2 => ?_⟩⟩, fun q => absurd rfl q⟩⟩⟩⟩⟩
  · rw [if_pos (Or.inl c)] at h; exact h
  · rw [if_neg (fun q => q.elim (fun z => z c) (fun z => z c2))] at h; exact h
  · rw [if_pos (Or.inr c2)] at h; exact h
theorem jX_less (h : Q (.int (cmpV 24 a b)) S) : aWX (d + 1) 8 [.int (-14), .int a, .int b] S Q := by
  unfold cmpV at h
  rw [if_pos rfl] at h
  refine mX_Formula_joined ⟨fun q => absurd q (by decide), fun _ => ⟨fun q => absurd q (by decide), fun _ => ⟨fun q => absurd q (by decide), fun _ => ⟨fun _ => bX_Formula_joined_18 ⟨fun c => ?_, fun c => ?_⟩, fun q => absurd rfl q⟩⟩⟩⟩
  · rw [if_neg (Int32.not_lt.mpr c)] at h; exact h
  · rw [if_pos (Int32.not_le.mp c)] at h; exact h
theorem jX_same (h : Q (.int (cmpV 25 a b)) S) : aWX (d + 1) 8 [.int (-15), .int a, .int b] S Q := by
  unfold cmpV at h
  rw [if_neg (by decide), if_pos rfl] at h
  refine mX_Formula_joined ⟨fun q => absurd q (by decide), fun _ => ⟨fun q => absurd q (by decide), fun _ => ⟨fun _ => bX_Formula_joined_25 ⟨fun c => ?_, fun c => ?_⟩, fun q => absurd rfl q⟩⟩⟩
  · rw [if_neg c] at h; exact h
  · rw [if_pos c] at h; exact h
theorem jX_plus (h : Q (.int (a + b)) S) : aWX (d + 1) 8 [.int (-16), .int a, .int b] S Q :=
  mX_Formula_joined ⟨fun q => absurd q (by decide), fun _ => ⟨fun _ => bX_Formula_joined_32 h, fun q => absurd rfl q⟩⟩
theorem jX_minus (h : Q (.int (a - b)) S) : aWX (d + 1) 8 [.int (-17), .int a, .int b] S Q :=
  mX_Formula_joined ⟨fun _ => bX_Formula_joined_36 h, fun q => absurd rfl q⟩
theorem jX_times (h : Q (.int (a * b)) S) : aWX (d + 1) 8 [.int (-18), .int a, .int b] S Q :=
  mX_Formula_joined ⟨fun q => absurd q (by decide), fun _ => ⟨fun q => absurd q (by decide), fun _ => ⟨fun q => absurd q (by decide), fun _ => ⟨fun q => absurd q (by decide), fun _ => ⟨fun q => absurd q (by decide), fun _ => ⟨fun q => absurd q (by decide), fun _ => bX_Formula_joined_40 h⟩⟩⟩⟩⟩⟩
/-- held to 0 .. 99 -/
def cl99 (v : Int32) : Nat := if v < 0 then 0 else if 99 < v then 99 else v.toNatClampNeg
theorem cl99_le (v : Int32) : cl99 v ≤ 99 := by
  unfold cl99
  by_cases c : v < 0
  · rw [if_pos c]; omega
  · rw [if_neg c]
    by_cases c2 : (99 : Int32) < v
    · rw [if_pos c2]; omega
    · rw [if_neg c2]
      obtain ⟨j, hj, rfl⟩ := nI_of c
      rw [show (99 : Int32) = nI 99 from rfl, nI_ltI (by decide) hj] at c2
      rw [nI_clamp hj]
      omega
theorem cl99_X (v : Int32) : (if (0 : Int32) < (if v < 99 then v else 99) then (if v < 99 then v else 99) else 0) = nI (cl99 v) := by
  unfold cl99
  by_cases c : v < 0
  · have c2 : v < 99 := Int32.lt_trans c (by decide)
    rw [if_pos c, if_pos c2, if_neg (fun q => absurd (Int32.lt_trans c q) Int32.lt_irrefl)]
    rfl
  · rw [if_neg c]
    obtain ⟨j, hj, rfl⟩ := nI_of c
    have e99 : (99 : Int32) = nI 99 := rfl
    rw [nI_clamp hj]
    by_cases c2 : j < 99
    · have d1 : nI j < 99 := nI_lt (b := 99) c2 (by decide)
      have d2 : ¬ (99 : Int32) < nI j := nI_nlt (a := 99) (by omega) (by decide)
      rw [if_pos d1, if_neg d2]
      by_cases c3 : 0 < j
      · rw [if_pos (show (0 : Int32) < nI j from nI_lt (a := 0) c3 hj)]
      · rw [show j = 0 by omega]
        rfl
    · have d1 : ¬ nI j < 99 := nI_nlt (b := 99) (by omega) hj
      rw [if_neg d1, if_pos (by decide)]
      by_cases c3 : 99 < j
      · rw [if_pos (show (99 : Int32) < nI j from nI_lt (a := 99) c3 hj)]
        rfl
      · rw [if_neg (show ¬ (99 : Int32) < nI j from nI_nlt (a := 99) (b := j) (by omega) (by decide)), show j = 99 by omega]
        rfl
theorem wX_held {t from' h : Nat} {ss : List Int32} {F : zF} (hE : eSt h ss F) (h32 : h ≤ 32) (ht : isFo t) (hfr : gi S t 4 = nI from') (hto : gi S t 5 = nI (from' + ss.length)) (h1 : from' + ss.length ≤ 1000) (hc : sAt S t from' ss) (hx : ∀ S', frS t 0 S S' → Q (.int (nI (cl99 (F (fcX t S))))) S') : aWX (d + 2) 6 [.ref t] S Q := by
  obtain ⟨t0, ⟨t1, t2⟩, ⟨t3, t4⟩, ⟨t5, t6⟩, t7, t8⟩ := id ht
  refine mX_Formula_held ?_
  simp only [aG, gK, t0, Nat.beq_refl, cond_true, hfr]
  refine hE.2 d Q t _ 0 from' S ht hto h1 (Nat.le_refl _) (by omega) hc (fun S1 hf hv => ?_)
  refine bX_Formula_held_5 ?_
  simp only [aG, gK, t0, t3, t4, t5, t6, Nat.beq_refl, cond_true, (hf.gi t 5).trans hto]
  refine ⟨fun _ => bX_Formula_held_87 ?_, fun q => absurd (nI_le (Nat.le_refl _) (by omega)) q⟩
  simp only [aG, gK, t0, t3, t4, Nat.beq_refl, cond_true]
  refine ⟨vin (by decide), ?_⟩
  have e0 : ga S1 (art t 2) (0 : Int32).toNatClampNeg = F (fcX t S) := hv
  rw [e0, cl99_X]
  exact hx S1 hf
end
