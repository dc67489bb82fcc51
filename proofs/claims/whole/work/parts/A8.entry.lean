/-! an entry of a word: a title and a number -/
def entO (tp : List Nat) (q k a b : Nat) : Prop := srT tp q = k ∧ srT tp (nxT tp q) = 2 ∧ a ≤ nvT tp (nxT tp q) ∧ nvT tp (nxT tp q) ≤ b
def entE (tp : List Nat) (q k a b : Nat) (v : Int32) : Prop := (¬ srT tp q = k ∧ v = 1 + 16 * nI q) ∨ (srT tp q = k ∧ ¬ srT tp (nxT tp q) = 2 ∧ v = 1 + 16 * nI (nxT tp q)) ∨ (srT tp q = k ∧ srT tp (nxT tp q) = 2 ∧ ¬ (a ≤ nvT tp (nxT tp q) ∧ nvT tp (nxT tp q) ≤ b) ∧ v = 4 + 16 * nI (nxT tp q))
theorem entE.no {tp : List Nat} {q k a b : Nat} {v : Int32} (h : entE tp q k a b v) (o : entO tp q k a b) : False := by
  rcases h with ⟨x, -⟩ | ⟨-, x, -⟩ | ⟨-, -, x, -⟩
  · exact x o.1
  · exact x o.2.1
  · exact x o.2.2
theorem entE.un {tp : List Nat} {q k a b : Nat} {v v' : Int32} (h : entE tp q k a b v) (g : entE tp q k a b v') : v = v' := by
  rcases h with ⟨x, e⟩ | ⟨y, x, e⟩ | ⟨y, z, x, e⟩ <;> rcases g with ⟨x', e'⟩ | ⟨y', x', e'⟩ | ⟨y', z', x', e'⟩
  · rw [e, e']
  · exact absurd y' x
  · exact absurd y' x
  · exact absurd y x'
  · rw [e, e']
  · exact absurd z' x
  · exact absurd y x'
  · exact absurd z x'
  · rw [e, e']
def erF (k : Nat) : Prop := nwF k ∨ k = 9
section
variable {d : Nat} {Q : Value → aS → Prop} {S : aS} {tp : List Nat} {q : Nat}
theorem frM_err {v : Int32} : frM noC erF S (si S 1000 9 v) := frM_si (Or.inr rfl)
theorem nw_tk {S S' : aS} (h : frM noC tkF S S') : frM noC nwF S S' := h.le (fun _ q => q) (fun _ q => Or.inl q)
theorem er_nw {S S' : aS} (h : frM noC nwF S S') : frM noC erF S S' := h.le (fun _ q => q) (fun _ q => Or.inl q)
theorem wM_needsBoth {k a b : Nat} {w : Int64} (ht : okT tp) (hs : tkM tp q S) (hl : plT tp q) (h4 : 4 ≤ k) (h25 : k < 25) (hw : w = wW (2200 + k)) (ha : a < 100) (hb : b < 100) (hO : entO tp q k a b → ∀ S', frM noC nwF S S' → tkM tp (nxT tp (nxT tp q)) S' → gi S' 1000 38 = nI (nvT tp (nxT tp q)) → gl S' 1000 39 = gl S 1000 39 → Q (.int 1) S') (hE : ∀ v, entE tp q k a b v → ∀ S', frM noC erF S S' → gi S' 1000 9 = v → Q (.int 0) S') : aWM (d + 4) 21 [.ref 1000, .long w, .int (nI a), .int (nI b)] S Q := by
  have e9 : ∀ (T : aS) (v : Int32), gi (si T 1000 9 v) 1000 9 = v := fun T v => by rw [gi_si, if_pos ⟨rfl, rfl⟩]
  refine mM_needsBoth (wd_is (k := k) ht hs hl h4 h25 hw (fun e => ⟨fun _ => ?_, fun q => absurd q (by decide)⟩) (fun e => ⟨fun q => absurd rfl q, fun _ => wM_fail hs ⟨Or.inl rfl, hE _ (Or.inl ⟨e, rfl⟩) _ frM_err (e9 _ _)⟩⟩))
  refine wM_nx ht hs hl (fun S1 f1 t1 => ?_)
  have l1 := plT_nx hl
  show aWM (d + 3) 20 [.ref 1000, .int (nI a), .int (nI b)] S1 _
  refine wM_needsNumber ht t1 l1 ha hb (fun c1 c2 c3 S2 f2 t2 u2 w2 => ⟨Or.inr rfl, hO ⟨e, c1, c2, c3⟩ S2 ((nw_tk f1).tr f2) t2 u2 (w2.trans (f1.2.2.2 39 (by unfold tkF; omega)))⟩) (fun c1 c2 => ⟨Or.inl rfl, hE _ (Or.inr (Or.inr ⟨e, c1, c2, rfl⟩)) _ ((er_nw (nw_tk f1)).tr frM_err) (e9 _ _)⟩) (fun c1 => ⟨Or.inl rfl, hE _ (Or.inr (Or.inl ⟨e, c1, rfl⟩)) _ ((er_nw (nw_tk f1)).tr frM_err) (e9 _ _)⟩)
/-- the class: the title, the number, laid into a row -/
theorem wX_readEntry {k b p : Nat} {j : Nat} (ht : okT tp) (hs : tkX tp q S) (hl : plT tp q) (hk : k ≤ 32) (hb : b < 100) (hp : akd p = 20) (hj : j < aln p) (hp2 : aln p ≤ 100) (hp3 : p ≠ 2) (hO : entO tp q k 0 b → ∀ S' T, frK S T → tkX tp (nxT tp q) T → frK (sa T p j (nI (nvT tp (nxT tp q)))) S' → tkX tp (nxT tp (nxT tp q)) S' → Q (.int 1) S') (hE : ∀ v, entE tp q k 0 b v → ∀ T, frK S T → Q (.int 0) (si T 1 7 v)) : aWX (d + 4) 45 [.ref 3, .ref (2000 + k), .int (nI b), .ref p, .int (nI j)] S Q := by
  refine mX_Reader_readEntry (wX_is (k := k) hs hk ?_)
  by_cases e : srT tp q = k
  · rw [decide_eq_true e]
    refine ⟨fun _ => wX_nx ht hs hl (fun S1 k1 t1 => ?_), fun q => absurd q (by decide)⟩
    have l1 := plT_nx hl
    show aWX (d + 3) 54 [.ref 3, .int (nI 0), .int (nI b)] S1 _
    refine wX_isNumber ht t1 l1 (by decide) hb (fun c1 c2 c3 => ⟨fun _ => ?_, fun q => absurd q (by decide)⟩) (fun c1 c2 => ⟨fun q => absurd rfl q, fun _ => ⟨Or.inl rfl, hE _ (Or.inr (Or.inr ⟨e, c1, c2, rfl⟩)) S1 k1⟩⟩) (fun c1 => ⟨fun q => absurd rfl q, fun _ => ⟨Or.inl rfl, hE _ (Or.inr (Or.inl ⟨e, c1, rfl⟩)) S1 k1⟩⟩)
    refine ⟨fun c => absurd c (nI_pos (by omega)), fun _ => gK_ok hp ?_⟩
    rw [show Int32.ofNat (aln p) = nI (aln p) from rfl, nI_leI (by omega) (by omega), nI_clamp (by omega), t1.2.2.2.2.1 c1]
    refine ⟨fun c => absurd c (by omega), fun _ => gK_ok hp ⟨nI_in hj (by omega), ?_⟩⟩
    have t2 : tkX tp (nxT tp q) (sa S1 p j (nI (nvT tp (nxT tp q)))) := by
      obtain ⟨⟨z1, z2⟩, z3⟩ := t1
      exact ⟨⟨z1, fun i c hi => by rw [ga_sa, if_neg (fun x => hp3 x.1.symm)]; exact z2 i c hi⟩, z3⟩
    exact wX_nx ht t2 l1 (fun S2 k2 t3 => ⟨Or.inr rfl, hO ⟨e, c1, c2, c3⟩ S2 S1 k1 t1 k2 t3⟩)
  · rw [decide_eq_false e]
    exact ⟨fun q => absurd rfl q, fun _ => wX_fail hs ⟨Or.inl rfl, hE _ (Or.inl ⟨e, rfl⟩) S frK.rf⟩⟩
end
