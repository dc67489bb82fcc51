/-! an E read by the class: what stays, what comes of it -/
def frE (t a : Nat) (S S' : aS) : Prop := (∀ i k, i ≠ 1 → ¬ (i = t ∧ k = 5) → gi S' i k = gi S i k) ∧ (∀ i k, i ≠ 1 → gl S' i k = gl S i k) ∧ (∀ i k, ¬ (i = 1 ∧ k = 4) → gr S' i k = gr S i k) ∧ (∀ i k, ¬ (i = art t 3 ∧ a ≤ k) → ga S' i k = ga S i k) ∧ ∀ i k, gb S' i k = gb S i k
theorem frE.rf {t a : Nat} {S : aS} : frE t a S S := ⟨fun _ _ _ _ => rfl, fun _ _ _ => rfl, fun _ _ _ => rfl, fun _ _ _ => rfl, fun _ _ => rfl⟩
theorem frE.tr {t a : Nat} {S S1 S2 : aS} (h : frE t a S S1) (g : frE t a S1 S2) : frE t a S S2 := ⟨fun i k q r => (g.1 i k q r).trans (h.1 i k q r), fun i k q => (g.2.1 i k q).trans (h.2.1 i k q), fun i k q => (g.2.2.1 i k q).trans (h.2.2.1 i k q), fun i k q => (g.2.2.2.1 i k q).trans (h.2.2.2.1 i k q), fun i k => (g.2.2.2.2 i k).trans (h.2.2.2.2 i k)⟩
theorem frE.le {t a a' : Nat} {S S' : aS} (h : frE t a S S') (ha : a' ≤ a) : frE t a' S S' := ⟨h.1, h.2.1, h.2.2.1, fun i k q => h.2.2.2.1 i k (fun c => q ⟨c.1, by omega⟩), h.2.2.2.2⟩
theorem frE_K {t a : Nat} {S S' : aS} (h : frK S S') : frE t a S S' := ⟨fun i k q _ => h.1 i k (fun c => q c.1), fun i k q => h.2.1 i k (fun c => q c.1), h.2.2.1, fun i k _ => h.2.2.2.1 i k, h.2.2.2.2⟩
theorem frE_fail {t a : Nat} {S : aS} {v : Int32} : frE t a S (si S 1 7 v) := ⟨fun i k q _ => by rw [gi_si, if_neg (fun c => q c.1)], fun _ _ _ => rfl, fun _ _ _ => rfl, fun _ _ _ => rfl, fun _ _ => rfl⟩
theorem frE_add {t a b : Nat} {S : aS} {v x : Int32} (h : a ≤ b) : frE t a S (si (sa S (art t 3) b v) t 5 x) := ⟨fun i k _ q => by rw [gi_si, if_neg q, gi_sa], fun _ _ _ => rfl, fun _ _ _ => rfl, fun i k q => by rw [ga_si, ga_sa, if_neg (fun c => q ⟨c.1, by omega⟩)], fun _ _ => rfl⟩
/-- a formula's cell -/
def isDf (t : Nat) : Prop := t = 17 ∨ t = 20 ∨ t = 34 ∨ t = 37
theorem isDf.fo {t : Nat} (h : isDf t) : isFo t ∧ t ≠ 1 ∧ art t 3 ≠ 2 ∧ t ≠ 5 := by
  rcases h with rfl | rfl | rfl | rfl
  · exact ⟨isFo_17, by decide, by decide, by decide⟩
  · exact ⟨isFo_20, by decide, by decide, by decide⟩
  · exact ⟨isFo_34, by decide, by decide, by decide⟩
  · exact ⟨isFo_37, by decide, by decide, by decide⟩
theorem tkX_add {tp : List Nat} {t q b : Nat} {S : aS} {v x : Int32} (ht : isDf t) (h : tkX tp q S) : tkX tp q (si (sa S (art t 3) b v) t 5 x) := by
  obtain ⟨-, n1, n2, -⟩ := ht.fo
  obtain ⟨h1, h2, h3, h4, h5, h6⟩ := h
  have e : ∀ k, gi (si (sa S (art t 3) b v) t 5 x) 1 k = gi S 1 k := fun k => by rw [gi_si, if_neg (fun c => n1 c.1.symm), gi_sa]
  refine ⟨⟨(e 1).trans h1.1, fun k c hk => ?_⟩, (e 3).trans h2, (e 2).trans h3, h4, fun c => (e 5).trans (h5 c), h6⟩
  rw [ga_si, ga_sa, if_neg (fun c => n2 c.1.symm)]
  exact h1.2 k c hk
section
variable (tp : List Nat) (w : Bool) (t : Nat)
def iX (q a : Nat) (S : aS) : Prop := tkX tp q S ∧ plT tp q ∧ gi S t 5 = nI a ∧ a ≤ q ∧ gi S t 0 = bT w
def oOk (a q : Nat) (S S' : aS) (q' : Nat) (ss : List Int32) : Prop := frE t a S S' ∧ tkX tp q' S' ∧ plT tp q' ∧ q < q' ∧ gi S' 1 7 = gi S 1 7 ∧ gi S' t 5 = nI (a + ss.length) ∧ sAt S' t a ss ∧ q + ss.length ≤ q'
def oEr (a : Nat) (S S' : aS) (v : Int32) : Prop := frE t a S S' ∧ gi S' 1 7 = v ∧ ∃ b, a ≤ b ∧ b ≤ 1000 ∧ gi S' t 5 = nI b
def vL (K : Nat → Nat → List Int32 → zF → Prop) (x D : Nat) (ss cs : List Int32) (F : zF) : Prop := (∃ h, h + D ≤ 4 ∧ K ((if w = true then 0 else 5) + 1) h cs F) ∧ (∃ h, 0 < h ∧ h + 4 * D ≤ 17 + x ∧ eSt h ss F) ∧ dep (if w = true then 5 else 3) F
/-- the contract of one of the readers -/
def cX (K : Nat → Nat → List Int32 → zF → Prop) (sm : Nat → Nat → Nat → List Int32 → Prop) (er : Nat → Nat → Int32 → Prop) (fi : Nat → Prop) (j x m D : Nat) : Prop := ∀ Q S q a, iX tp w t q a S → (∀ S' v, oEr t a S S' v → er D q v → Q (.int 0) S') → (∀ S' q' ss cs F, oOk tp t a q S S' q' ss → q + cs.length ≤ q' → vL w K x D ss cs F → sm D q q' cs → fi q' → Q (.int 1) S') → aWX m j [.ref 5, .ref t, .int (nI D)] S Q
def cP (m D : Nat) : Prop := cX tp w t ePa (smP tp w) (erP tp w) (fun _ => True) 13 0 m D
def cM (m D : Nat) : Prop := cX tp w t eMu (smL tp w) (erL tp w) (fun q => srT tp q ≠ 31) 12 1 m D
def cS (m D : Nat) : Prop := cX tp w t eSu (smL tp w) (erL tp w) (fun q => srT tp q ≠ 31 ∧ srT tp q ≠ 29 ∧ srT tp q ≠ 30) 11 2 m D
def cT (m D : Nat) : Prop := cX tp w t eTs (smT tp w) (erT tp w) (fun q => srT tp q ≠ 31 ∧ srT tp q ≠ 29 ∧ srT tp q ≠ 30) 10 3 m D
def cE (m D : Nat) : Prop := cX tp w t eEx (smT tp w) (erT tp w) (isEnd tp) 9 4 m D
end
theorem sAt_app {S : aS} {t k : Nat} {a b : List Int32} (h1 : sAt S t k a) (h2 : sAt S t (k + a.length) b) : sAt S t k (a ++ b) := fun i c hi => by
  by_cases q : i < a.length
  · rw [List.getElem?_append_left q] at hi
    exact h1 i c hi
  · rw [List.getElem?_append_right (by omega)] at hi
    have := h2 (i - a.length) c hi
    rw [show k + a.length + (i - a.length) = k + i by omega] at this
    exact this
theorem sAt_1 {S : aS} {t k : Nat} {v : Int32} (h : ga S (art t 3) k = v) : sAt S t k [v] := fun i c hi => by
  cases i with
  | zero => cases hi; exact h
  | succ i => cases hi
theorem sAt_fr {S S' : aS} {t k a : Nat} {l : List Int32} (h : sAt S t k l) (hf : frE t a S S') (hk : k + l.length ≤ a) : sAt S' t k l := fun i x hi => by
  have := (List.getElem?_eq_some_iff.mp hi).1
  rw [hf.2.2.2.1 _ _ (by omega)]
  exact h i x hi
theorem dep_0 {n : Nat} {v : Int32} : dep n (fun _ => v) := fun _ _ _ => rfl
theorem dep_f {n i : Nat} (h : i < n) : dep n (fun f => f i) := fun _ _ hf => hf i h
theorem dep_1 {n : Nat} {F : zF} {J : Int32 → Int32} (h : dep n F) : dep n (fun f => J (F f)) := fun f g hf => by
  show J (F f) = J (F g)
  rw [h f g hf]
theorem dep_2 {n : Nat} {F G : zF} {J : Int32 → Int32 → Int32} (h : dep n F) (h2 : dep n G) : dep n (fun f => J (F f) (G f)) := fun f g hf => by
  show J (F f) (G f) = J (F g) (G g)
  rw [h f g hf, h2 f g hf]
section
variable {tp : List Nat} {w : Bool} {t : Nat}
/-- a step laid after a right operand -/
theorem ok_bin {a q q1 q3 : Nat} {S S1 S2 S3 S4 : aS} {ss ss' : List Int32} {op : Int32} (ht : okT tp) (hd : isDf t) (h1 : oOk tp t a q S S1 q1 ss) (ha : a ≤ q) (hlt : q1 < tp.length) (k2 : frK S1 S2) (h3 : oOk tp t (a + ss.length) (nxT tp q1) S2 S3 q3 ss') (e4 : S4 = si (sa S3 (art t 3) (a + ss.length + ss'.length) op) t 5 (nI (a + ss.length + ss'.length + 1))) : oOk tp t a q S S4 q3 (ss ++ (ss' ++ [op])) := by
  obtain ⟨a1, a2, a3, a4, a5, a6, a7, a8⟩ := h1
  obtain ⟨b1, b2, b3, b4, b5, b6, b7, b8⟩ := h3
  have hnx := nx_gt hlt
  obtain ⟨-, n1, n2, -⟩ := hd.fo
  have el : (ss ++ (ss' ++ [op])).length = ss.length + ss'.length + 1 := by rw [List.length_append, List.length_append, List.length_singleton]; omega
  have f4 : frE t (a + ss.length + ss'.length) S3 S4 := by rw [e4]; exact frE_add (Nat.le_refl _)
  refine ⟨((a1.tr (frE_K k2)).tr (b1.le (by omega))).tr (f4.le (by omega)), by rw [e4]; exact tkX_add hd b2, b3, by omega, ?_, ?_, ?_, by rw [el]; omega⟩
  · rw [e4, gi_si, if_neg (fun c => n1 c.1.symm), gi_sa, b5, k2.1 1 7 (by omega)]
    exact a5
  · rw [e4, gi_si, if_pos ⟨rfl, rfl⟩, el]
    exact congrArg nI (by omega)
  · refine sAt_app (sAt_fr (sAt_fr (sAt_fr a7 (frE_K (a := a + ss.length) k2) (Nat.le_refl _)) b1 (Nat.le_refl _)) f4 (by omega)) (sAt_app (sAt_fr b7 f4 (Nat.le_refl _)) (sAt_1 ?_))
    rw [e4, ga_si, ga_sa, if_pos ⟨rfl, rfl⟩]
/-- a step laid though it failed -/
theorem er_add {d a b : Nat} {S S1 : aS} {v op : Int32} {P : aS → Prop} (hd : isDf t) (h1 : frE t a S S1) (h2 : gi S1 1 7 = v) (ha : a ≤ b) (hb : b ≤ 1000) (h5 : gi S1 t 5 = nI b) (h : ∀ S', oEr t a S S' v → P S') : aWX (d + 1) 3 [.ref t, .int op] S1 (fun v9 S10 => aV v9 (P S10)) := by
  obtain ⟨hf, n1, n2, -⟩ := hd.fo
  refine wX_add hf h5 hb (fun c => h _ ⟨h1.tr (frE_add ha), ?_, b + 1, by omega, by omega, ?_⟩) (fun _ => h _ ⟨h1, h2, b, ha, hb, h5⟩)
  · rw [gi_si, if_neg (fun c => n1 c.1.symm), gi_sa]
    exact h2
  · rw [gi_si, if_pos ⟨rfl, rfl⟩]
end
