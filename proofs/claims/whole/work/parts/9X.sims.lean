/-! runs of the reference over an E, put together -/
theorem cAt_app {S : aS} {k : Nat} {a b : List Int32} (h1 : cAt S k a) (h2 : cAt S (k + a.length) b) : cAt S k (a ++ b) := fun i c hi => by
  by_cases q : i < a.length
  · rw [List.getElem?_append_left q] at hi
    exact h1 i c hi
  · rw [List.getElem?_append_right (by omega)] at hi
    have := h2 (i - a.length) c hi
    rw [show k + a.length + (i - a.length) = k + i by omega] at this
    exact this
theorem cAt_cons {S : aS} {k : Nat} {v : Int32} {b : List Int32} (h1 : ga S 1014 k = v) (h2 : cAt S (k + 1) b) : cAt S k (v :: b) := fun i c hi => by
  cases i with
  | zero => cases hi; exact h1
  | succ i =>
    have := h2 i c hi
    rw [show k + 1 + i = k + (i + 1) by omega] at this
    exact this
theorem cAt_fr {S S' : aS} {k c D E : Nat} {a : List Int32} (h : cAt S k a) (hf : frR c D E S S') (hk : k + a.length ≤ c) : cAt S' k a := fun i x hi => by
  have := (List.getElem?_eq_some_iff.mp hi).1
  rw [hf.2.1 (k + i) (by omega)]
  exact h i x hi
theorem er_ne {k q : Nat} (h1 : 1 ≤ k) (h5 : k ≤ 5) (hq : q ≤ 1000) : nI k + 16 * nI q ≠ 0 := by
  rw [show (16 : Int32) = nI 16 from rfl, nI_mulN, nI_add]
  exact nI_ne0 (by omega) (by omega)
section
variable (tp : List Nat) (w : Bool)
def smP (D q q' : Nat) (cs : List Int32) : Prop := ∀ d Q S c B, MS tp w q c D B S → c ≤ 1000 + q → (∀ S', frR c D (D + 1) S S' → MS tp w q' (c + cs.length) B B S' → cAt S' c cs → rw0 d Q B S') → rw1 d Q D S
def smL (D q q' : Nat) (cs : List Int32) : Prop := ∀ d Q S c, MS tp w q c D D S → c ≤ 1000 + q → (∀ S', frR c D (D + 1) S S' → MS tp w q' (c + cs.length) D D S' → cAt S' c cs → rw0 d Q D S') → rw1 d Q D S
def smT (D q q' : Nat) (cs : List Int32) : Prop := ∀ d Q S c, MS tp w q c D D S → ga S 1016 D = 0 → c ≤ 1000 + q → (∀ S', frR c D D S S' → MS tp w q' (c + cs.length) D D S' → cAt S' c cs → (srT tp q' = 27 ∨ srT tp q' = 28 → ga S' 1016 D ≠ 0) → rw0 d Q D S') → rw1 d Q D S
def erP (D q : Nat) (v : Int32) : Prop := v ≠ 0 ∧ ∀ d Q S c B, MS tp w q c D B S → c ≤ 1000 + q → (∀ S', frR c 0 0 S S' → gi S' 1000 9 = v → Q (.int 0) S') → rw1 d Q D S
def erL (D q : Nat) (v : Int32) : Prop := v ≠ 0 ∧ ∀ d Q S c, MS tp w q c D D S → c ≤ 1000 + q → (∀ S', frR c 0 0 S S' → gi S' 1000 9 = v → Q (.int 0) S') → rw1 d Q D S
def erT (D q : Nat) (v : Int32) : Prop := v ≠ 0 ∧ ∀ d Q S c, MS tp w q c D D S → ga S 1016 D = 0 → c ≤ 1000 + q → (∀ S', frR c 0 0 S S' → gi S' 1000 9 = v → Q (.int 0) S') → rw1 d Q D S
end
section
variable {tp : List Nat} {w : Bool} {D q q1 q3 : Nat} {cs cs' : List Int32} {v x : Int32}
theorem smP.L (h : smP tp w D q q1 cs) : smL tp w D q q1 cs := fun d Q S c a b e => h d Q S c D a b e
theorem erP.L (h : erP tp w D q x) : erL tp w D q x := ⟨h.1, fun d Q S c a b e => h.2 d Q S c D a b e⟩
theorem erL.T (h : erL tp w D q x) : erT tp w D q x := ⟨h.1, fun d Q S c a _ b e => h.2 d Q S c a b e⟩
theorem smL.T (h : smL tp w D q q1 cs) (hn : ¬ (srT tp q1 = 27 ∨ srT tp q1 = 28)) : smT tp w D q q1 cs := fun d Q S c a _ b e => h d Q S c a b (fun S' f m t => e S' (f.le (Nat.le_refl _) (Nat.le_refl _) (by omega)) m t (fun c => absurd c hn))
theorem sm_arith (ht : okT tp) (hl : plT tp q1) (h1 : smL tp w D q q1 cs) (hq : q + cs.length ≤ q1) (hv : (srT tp q1 = 29 ∧ v = 20) ∨ (srT tp q1 = 30 ∧ v = 21) ∨ (srT tp q1 = 31 ∧ v = 22)) (hlt : q1 < tp.length) (h2 : smL tp w D (nxT tp q1) q3 cs') : smL tp w D q q3 (cs ++ v :: cs') := by
  intro d Q S c hM hc h
  have hnx := nx_gt hlt
  have h1k := ht.1
  refine h1 d Q S c hM hc (fun S1 f1 m1 t1 => ?_)
  refine rw_arith ht hl m1 (by omega) hv (fun S2 f2 m2 t2 => ?_)
  refine h2 d Q S2 _ m2 (by omega) (fun S3 f3 m3 t3 => ?_)
  have el : c + cs.length + 1 + cs'.length = c + (cs ++ v :: cs').length := by rw [List.length_append, List.length_cons]; omega
  rw [el] at m3
  refine h S3 ((f1.tr (f2.le (by omega) (Nat.le_refl _) (Nat.le_refl _))).tr (f3.le (by omega) (Nat.le_refl _) (Nat.le_refl _))) m3 (cAt_app (cAt_fr (cAt_fr t1 f2 (by omega)) f3 (by omega)) (cAt_cons ?_ t3))
  rw [f3.2.1 _ (by omega)]
  exact t2
theorem er_arith (ht : okT tp) (hl : plT tp q1) (h1 : smL tp w D q q1 cs) (hq : q + cs.length ≤ q1) (hv : (srT tp q1 = 29 ∧ v = 20) ∨ (srT tp q1 = 30 ∧ v = 21) ∨ (srT tp q1 = 31 ∧ v = 22)) (hlt : q1 < tp.length) (h2 : erL tp w D (nxT tp q1) x) : erL tp w D q x := by
  refine ⟨h2.1, ?_⟩
  intro d Q S c hM hc h
  have hnx := nx_gt hlt
  have h1k := ht.1
  refine h1 d Q S c hM hc (fun S1 f1 m1 t1 => ?_)
  refine rw_arith ht hl m1 (by omega) hv (fun S2 f2 m2 t2 => ?_)
  exact h2.2 d Q S2 _ m2 (by omega) (fun S3 f3 t3 => h S3 (((f1.le (Nat.le_refl _) (by omega) (by omega)).tr (f2.le (by omega) (by omega) (by omega))).tr (f3.le (by omega) (by omega) (by omega))) t3)
theorem sm_cmp (ht : okT tp) (hl : plT tp q1) (hD : D < 7) (h1 : smL tp w D q q1 cs) (hq : q + cs.length ≤ q1) (hv : (srT tp q1 = 27 ∧ v = 24) ∨ (srT tp q1 = 28 ∧ v = 25)) (hlt : q1 < tp.length) (h2 : smL tp w D (nxT tp q1) q3 cs') : smT tp w D q q3 (cs ++ v :: cs') := by
  intro d Q S c hM h0 hc h
  have hnx := nx_gt hlt
  have h1k := ht.1
  refine h1 d Q S c hM hc (fun S1 f1 m1 t1 => ?_)
  refine rw_cmp ht hl m1 hD (by omega) ((f1.2.2.2 D (by omega)).trans h0) hv (fun S2 f2 m2 t2 u2 => ?_)
  refine h2 d Q S2 _ m2 (by omega) (fun S3 f3 m3 t3 => ?_)
  have el : c + cs.length + 1 + cs'.length = c + (cs ++ v :: cs').length := by rw [List.length_append, List.length_cons]; omega
  rw [el] at m3
  refine h S3 (((f1.le (Nat.le_refl _) (Nat.le_refl _) (by omega)).tr (f2.le (by omega) (Nat.le_refl _) (Nat.le_refl _))).tr (f3.le (by omega) (Nat.le_refl _) (by omega))) m3 (cAt_app (cAt_fr (cAt_fr t1 f2 (by omega)) f3 (by omega)) (cAt_cons ?_ t3)) (fun _ e => ?_)
  · rw [f3.2.1 _ (by omega)]
    exact t2
  · rw [f3.2.2.2 D (by omega), u2] at e
    exact absurd e (by decide)
theorem er_cmp (ht : okT tp) (hl : plT tp q1) (hD : D < 7) (h1 : smL tp w D q q1 cs) (hq : q + cs.length ≤ q1) (hv : (srT tp q1 = 27 ∧ v = 24) ∨ (srT tp q1 = 28 ∧ v = 25)) (hlt : q1 < tp.length) (h2 : erL tp w D (nxT tp q1) x) : erT tp w D q x := by
  refine ⟨h2.1, ?_⟩
  intro d Q S c hM h0 hc h
  have hnx := nx_gt hlt
  have h1k := ht.1
  refine h1 d Q S c hM hc (fun S1 f1 m1 t1 => ?_)
  refine rw_cmp ht hl m1 hD (by omega) ((f1.2.2.2 D (by omega)).trans h0) hv (fun S2 f2 m2 t2 u2 => ?_)
  exact h2.2 d Q S2 _ m2 (by omega) (fun S3 f3 t3 => h S3 (((f1.le (Nat.le_refl _) (by omega) (by omega)).tr (f2.le (by omega) (by omega) (by omega))).tr (f3.le (by omega) (by omega) (by omega))) t3)
theorem sm_join (ht : okT tp) (hl : plT tp q1) (hD : D < 7) (h1 : smT tp w D q q1 cs) (hq : q + cs.length ≤ q1) (hv : (srT tp q1 = 23 ∧ v = 26) ∨ (srT tp q1 = 24 ∧ v = 27)) (hlt : q1 < tp.length) (h2 : smT tp w D (nxT tp q1) q3 cs') : smT tp w D q q3 (cs ++ v :: cs') := by
  intro d Q S c hM h0 hc h
  have hnx := nx_gt hlt
  have h1k := ht.1
  refine h1 d Q S c hM h0 hc (fun S1 f1 m1 t1 _ => ?_)
  refine rw_join ht hl m1 hD (by omega) hv (fun S2 f2 m2 t2 u2 => ?_)
  refine h2 d Q S2 _ m2 u2 (by omega) (fun S3 f3 m3 t3 u3 => ?_)
  have el : c + cs.length + 1 + cs'.length = c + (cs ++ v :: cs').length := by rw [List.length_append, List.length_cons]; omega
  rw [el] at m3
  refine h S3 ((f1.tr (f2.le (by omega) (Nat.le_refl _) (Nat.le_refl _))).tr (f3.le (by omega) (Nat.le_refl _) (Nat.le_refl _))) m3 (cAt_app (cAt_fr (cAt_fr t1 f2 (by omega)) f3 (by omega)) (cAt_cons ?_ t3)) u3
  rw [f3.2.1 _ (by omega)]
  exact t2
theorem er_join (ht : okT tp) (hl : plT tp q1) (hD : D < 7) (h1 : smT tp w D q q1 cs) (hq : q + cs.length ≤ q1) (hv : (srT tp q1 = 23 ∧ v = 26) ∨ (srT tp q1 = 24 ∧ v = 27)) (hlt : q1 < tp.length) (h2 : erT tp w D (nxT tp q1) x) : erT tp w D q x := by
  refine ⟨h2.1, ?_⟩
  intro d Q S c hM h0 hc h
  have hnx := nx_gt hlt
  have h1k := ht.1
  refine h1 d Q S c hM h0 hc (fun S1 f1 m1 t1 _ => ?_)
  refine rw_join ht hl m1 hD (by omega) hv (fun S2 f2 m2 t2 u2 => ?_)
  exact h2.2 d Q S2 _ m2 u2 (by omega) (fun S3 f3 t3 => h S3 (((f1.le (Nat.le_refl _) (by omega) (by omega)).tr (f2.le (by omega) (by omega) (by omega))).tr (f3.le (by omega) (by omega) (by omega))) t3)
/-- a value -/
theorem sm_val (ht : okT tp) (hl : plT tp q) (hlt : q < tp.length) (hD : D < 5) (hv : (srT tp q = 2 ∧ v = nI (100 + nvT tp q)) ∨ ∃ i, i < (if w = true then 5 else 3) ∧ ast (2240 + ((if w = true then 0 else 5) + i)) = wdT tp q ∧ v = nI ((if w = true then 0 else 5) + i + 1)) : smP tp w D q (nxT tp q) [v] := by
  intro d Q S c B hM hc h
  have h1k := ht.1
  refine rw_val ht hl hM hD (by omega) hv (fun S1 f1 m1 t1 => h S1 f1 m1 (cAt_cons t1 (fun i c hi => by cases hi)))
/-- not, before a part -/
theorem sm_not (ht : okT tp) (hl : plT tp q) (hlt : q < tp.length) (hD : D < 5) (hk : srT tp q = 22) (h2 : smP tp w (D + 1) (nxT tp q) q3 cs) : smP tp w D q q3 (30 :: cs) := by
  intro d Q S c B hM hc h
  have hnx := nx_gt hlt
  have h1k := ht.1
  refine rw_deep (o := false) ht hl hM hD (by omega) hk (fun S1 f1 m1 u1 t1 => ?_)
  have m1 : MS tp w (nxT tp q) (c + 1) (D + 1) B S1 := m1
  refine h2 d Q S1 _ B m1 (by omega) (fun S2 f2 m2 t2 => ?_)
  have el : c + 1 + cs.length = c + (30 :: cs).length := by rw [List.length_cons]; omega
  rw [el] at m2
  refine h S2 (f1.tr (f2.le (by omega) (by omega) (by omega))) m2 (cAt_cons ?_ t2)
  rw [f2.2.1 _ (by omega)]
  exact t1
theorem er_not (ht : okT tp) (hl : plT tp q) (hlt : q < tp.length) (hD : D < 5) (hk : srT tp q = 22) (h2 : erP tp w (D + 1) (nxT tp q) x) : erP tp w D q x := by
  refine ⟨h2.1, ?_⟩
  intro d Q S c B hM hc h
  have hnx := nx_gt hlt
  have h1k := ht.1
  refine rw_deep (o := false) ht hl hM hD (by omega) hk (fun S1 f1 m1 u1 t1 => ?_)
  exact h2.2 d Q S1 _ B m1 (by omega) (fun S2 f2 t2 => h S2 ((f1.le (Nat.le_refl _) (by omega) (by omega)).tr (f2.le (by omega) (by omega) (by omega))) t2)
/-- an E in signs -/
theorem sm_open (ht : okT tp) (hl : plT tp q) (hlt : q < tp.length) (hD : D < 5) (hk : srT tp q = 25) (h2 : smT tp w (D + 1) (nxT tp q) q1 cs) (hq : nxT tp q + cs.length ≤ q1) (hl1 : plT tp q1) (hlt1 : q1 < tp.length) (hk1 : srT tp q1 = 26) : smP tp w D q (nxT tp q1) (28 :: (cs ++ [29])) := by
  intro d Q S c B hM hc h
  have hnx := nx_gt hlt
  have h1k := ht.1
  refine rw_deep (o := true) ht hl hM hD (by omega) hk (fun S1 f1 m1 u1 t1 => ?_)
  have m1 : MS tp w (nxT tp q) (c + 1) (D + 1) (D + 1) S1 := m1
  have t1 : ga S1 1014 c = 28 := t1
  refine h2 d Q S1 _ m1 u1 (by omega) (fun S2 f2 m2 t2 _ => ?_)
  refine rw_close ht hl1 m2 (by omega) (by omega) hM.2.2.2.1 (fun j a b => ?_) ?_ hk1 (fun S3 f3 m3 t3 => ?_)
  · rw [f2.2.2.1 j (by omega), f1.2.2.1 j b]
    exact hM.2.2.2.2.1 j a b
  · have := hM.2.2.2.1
    exact hM.2.2.2.2.2.imp_right (fun e => by rw [f2.2.2.1 B (by omega), f1.2.2.1 B this]; exact e)
  · have el : c + 1 + cs.length + 1 = c + (28 :: (cs ++ [29])).length := by rw [List.length_cons, List.length_append, List.length_singleton]; omega
    rw [el] at m3
    refine h S3 ((f1.tr (f2.le (by omega) (by omega) (by omega))).tr (f3.le (by omega) (by omega) (by omega))) m3 (cAt_cons ?_ (cAt_app (cAt_fr t2 f3 (by omega)) (cAt_cons t3 (fun i c hi => by cases hi))))
    rw [f3.2.1 _ (by omega), f2.2.1 _ (by omega)]
    exact t1
theorem er_open (ht : okT tp) (hl : plT tp q) (hlt : q < tp.length) (hD : D < 5) (hk : srT tp q = 25) (h2 : erT tp w (D + 1) (nxT tp q) x) : erP tp w D q x := by
  refine ⟨h2.1, ?_⟩
  intro d Q S c B hM hc h
  have hnx := nx_gt hlt
  have h1k := ht.1
  refine rw_deep (o := true) ht hl hM hD (by omega) hk (fun S1 f1 m1 u1 t1 => ?_)
  exact h2.2 d Q S1 _ m1 u1 (by omega) (fun S2 f2 t2 => h S2 ((f1.le (Nat.le_refl _) (by omega) (by omega)).tr (f2.le (by omega) (by omega) (by omega))) t2)
theorem er_noclose (ht : okT tp) (hl : plT tp q) (hlt : q < tp.length) (hD : D < 5) (hk : srT tp q = 25) (h2 : smT tp w (D + 1) (nxT tp q) q1 cs) (hl1 : plT tp q1) (he : isEnd tp q1) (hk1 : ¬ srT tp q1 = 26) : erP tp w D q (1 + 16 * nI q1) := by
  refine ⟨er_ne (k := 1) (by decide) (by decide) (Nat.le_trans hl1.1 ht.1), ?_⟩
  intro d Q S c B hM hc h
  have hnx := nx_gt hlt
  have h1k := ht.1
  refine rw_deep (o := true) ht hl hM hD (by omega) hk (fun S1 f1 m1 u1 t1 => ?_)
  have m1 : MS tp w (nxT tp q) (c + 1) (D + 1) (D + 1) S1 := m1
  refine h2 d Q S1 _ m1 u1 (by omega) (fun S2 f2 m2 t2 u2 => ?_)
  exact rw_noclose ht hl1 m2 (by omega) he u2 hk1 (fun S3 f3 t3 => h S3 (((f1.le (Nat.le_refl _) (by omega) (by omega)).tr (f2.le (by omega) (by omega) (by omega))).tr (f3.le (by omega) (by omega) (by omega))) t3)
theorem er_bad1 (ht : okT tp) (hl : plT tp q) (hn : ¬ isOp tp w q) : erP tp w D q (1 + 16 * nI q) := ⟨er_ne (k := 1) (by decide) (by decide) (Nat.le_trans hl.1 ht.1), fun d Q S c B hM hc h => rw_bad1 ht hl hM hn (fun S' f t => h S' (f.le (Nat.le_refl _) (by omega) (by omega)) t)⟩
theorem er_bad5 (ht : okT tp) (hl : plT tp q) (hn : isOp tp w q) : erP tp w 5 q (5 + 16 * nI q) := ⟨er_ne (k := 5) (by decide) (by decide) (Nat.le_trans hl.1 ht.1), fun d Q S c B hM hc h => rw_bad5 ht hl hM hn (fun S' f t => h S' (f.le (Nat.le_refl _) (by omega) (by omega)) t)⟩
end
