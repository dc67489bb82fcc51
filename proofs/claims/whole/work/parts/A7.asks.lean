/-! a new name wanted: both; numbers, ends, told words wanted: the reference -/
def toldN (D : zD) (l : List Nat) : Prop := (∃ k, k < rWr D.1 ∧ D.2.1 k = l) ∨ ∃ w, w < rWd D.1 ∧ rNm D.1 w = l
theorem nm_3 {tp : List Nat} {q : Nat} (ht : okT tp) (hl : plT tp q) (h : srT tp q = 3) : nmS (nmT tp q) := toT_nm ((srT_n3 ht hl.1).mp h).1
def nwF (k : Nat) : Prop := tkF k ∨ k = 38 ∨ k = 39
section
variable {d : Nat} {Q : Value → aS → Prop} {S : aS} {tp : List Nat} {q c t : Nat} {D : zD}
theorem wX_isNewName (ht : okT tp) (hT : isT t) (ok : okDr D) (h : dX D q t S) (hs : tkX tp q S) (hl : plT tp q) (h1 : srT tp q = 3 → ¬ toldN D (nmT tp q) → Q (.int 1) S) (h3 : srT tp q = 3 → toldN D (nmT tp q) → Q (.int 0) (si S 1 7 (3 + 16 * nI q))) (h0 : ¬ srT tp q = 3 → Q (.int 0) (si S 1 7 (1 + 16 * nI q))) : aWX (d + 2) 53 [.ref 3, .ref t] S Q := by
  refine mX_Reader_isNewName (wX_is (k := 3) hs (by decide) ?_)
  by_cases e : srT tp q = 3
  · have hn := nm_3 ht hl e
    have bad : toldN D (nmT tp q) → aBX (d + 1) 53 Q 27 [some (.ref 3), none, none] [.int 1] S := fun tt => bX_Reader_isNewName_27 ⟨fun q => absurd q (by decide), fun _ => wX_fail hs ⟨fun _ => ⟨Or.inl rfl, h3 e tt⟩, fun q => absurd rfl q⟩⟩
    rw [decide_eq_true e]
    refine ⟨fun _ => ?_, fun q => absurd q (by decide)⟩
    rw [hs.2.2.2.2.2 e]
    refine wX_findWriter hT ok h hn (fun k hk ek _ => ⟨fun _ => bad (Or.inl ⟨k, hk, ek⟩), fun c => absurd c.symm (m1_ne (by have := ok.1.1; omega))⟩) (fun nw => ⟨fun q => absurd rfl q, fun _ => ?_⟩)
    rw [hs.2.2.2.2.2 e]
    refine wX_findWord hT ok.1 ok.2.1 h.1 hn (fun k hk ek _ => ⟨fun c => absurd c.symm (m1_ne (by have := ok.1.2.1; omega)), fun _ => bad (Or.inr ⟨k, hk, ek⟩)⟩) (fun nd => ⟨fun _ => bX_Reader_isNewName_27 ⟨fun _ => ⟨Or.inr rfl, h1 e ?_⟩, fun q => absurd rfl q⟩, fun q => absurd rfl q⟩)
    rintro (⟨k, hk, ek⟩ | ⟨k, hk, ek⟩)
    · exact nw k hk ek
    · exact nd k hk ek
  · rw [decide_eq_false e]
    exact ⟨fun q => absurd rfl q, fun _ => wX_fail hs ⟨Or.inl rfl, h0 e⟩⟩
theorem wM_needsNumber {a b : Nat} (ht : okT tp) (hs : tkM tp q S) (hl : plT tp q) (ha : a < 100) (hb : b < 100) (h1 : srT tp q = 2 → a ≤ nvT tp q → nvT tp q ≤ b → ∀ S', frM noC nwF S S' → tkM tp (nxT tp q) S' → gi S' 1000 38 = nI (nvT tp q) → gl S' 1000 39 = gl S 1000 39 → Q (.int 1) S') (h4 : srT tp q = 2 → ¬ (a ≤ nvT tp q ∧ nvT tp q ≤ b) → Q (.int 0) (si S 1000 9 (4 + 16 * nI q))) (h0 : ¬ srT tp q = 2 → Q (.int 0) (si S 1000 9 (1 + 16 * nI q))) : aWM (d + 3) 20 [.ref 1000, .int (nI a), .int (nI b)] S Q := by
  have h6 : toT tp q < 5 := by
    unfold toT
    repeat' split
    all_goals decide
  refine mM_needsNumber ?_
  rw [hs.2.2.2.1, show nI (toT tp q) = (2 : Int32) ↔ toT tp q = 2 from nI_eq (a := toT tp q) (b := 2) (by omega) (by decide), ← srT_n2 hl.1]
  refine ⟨fun e => ?_, fun e => wM_fail hs ⟨Or.inl rfl, h0 e⟩⟩
  have hn := nvT_le hl.1 e
  have e8 := hs.2.2.2.2.2 ((srT_n2 hl.1).mp e)
  rw [e8]
  refine wM_within ?_
  by_cases c : a ≤ nvT tp q ∧ nvT tp q ≤ b
  · rw [if_pos ⟨(nI_leI (by omega) (by omega)).mpr c.1, (nI_leI (by omega) (by omega)).mpr c.2⟩]
    refine ⟨fun _ => ?_, fun q => absurd q (by decide)⟩
    rw [e8]
    refine wM_nx ht (tk_si hs (by decide)) hl (fun S' f1 t1 => ⟨Or.inr rfl, h1 e c.1 c.2 S' (frM.tr (frM_si (Or.inr (Or.inl rfl))) (f1.le (fun _ q => q) (fun _ q => Or.inl q))) t1 ?_ ?_⟩)
    · rw [gi_tk f1 (by unfold tkF; omega), gi_si, if_pos ⟨rfl, rfl⟩]
    · rw [f1.2.2.2 39 (by unfold tkF; omega), gl_si]
  · rw [if_neg (fun x => c ⟨(nI_leI (by omega) (by omega)).mp x.1, (nI_leI (by omega) (by omega)).mp x.2⟩)]
    exact ⟨fun q => absurd rfl q, fun _ => wM_fail hs ⟨Or.inl rfl, h4 e c⟩⟩
theorem wM_closes (ht : okT tp) (hs : tkM tp q S) (hl : plT tp q) (h1 : srT tp q = 32 → ∀ S', frM noC tkF S S' → tkM tp (nxT tp q) S' → Q (.int 1) S') (h0 : ¬ srT tp q = 32 → Q (.int 0) (si S 1000 9 (1 + 16 * nI q))) : aWM (d + 3) 22 [.ref 1000] S Q := by
  refine mM_closes (sg_is (k := 32) ht hs hl (by decide) (by decide) rfl (fun e => ⟨fun _ => wM_nx ht hs hl (fun S' f t => ⟨Or.inr rfl, h1 e S' f t⟩), fun q => absurd q (by decide)⟩) (fun e => ⟨fun q => absurd rfl q, fun _ => wM_fail hs ⟨Or.inl rfl, h0 e⟩⟩))
theorem wM_needsNew (ht : okT tp) (ok : okDr D) (h : dM D c S) (hs : tkM tp q S) (hl : plT tp q) (h1 : srT tp q = 3 → ¬ toldN D (nmT tp q) → ∀ S', frM noC nwF S S' → tkM tp (nxT tp q) S' → gl S' 1000 39 = lN (enc 27 (nmT tp q)) → Q (.int 1) S') (h3 : srT tp q = 3 → toldN D (nmT tp q) → Q (.int 0) (si S 1000 9 (3 + 16 * nI q))) (h0 : ¬ srT tp q = 3 → Q (.int 0) (si S 1000 9 (1 + 16 * nI q))) : aWM (d + 3) 23 [.ref 1000] S Q := by
  have hwr := ok.1.1
  have hwd := ok.1.2.1
  refine mM_needsNew (wM_isKept ht hs hl.1 ?_)
  by_cases e : srT tp q = 3
  · have hn := nm_3 ht hl e
    have e7 := hs.2.2.2.2.1 ((srT_n3 ht hl.1).mp e).1
    rw [decide_eq_false (fun x => x e)]
    refine ⟨fun _ => ?_, fun q => absurd rfl q⟩
    have bad : toldN D (nmT tp q) → aWM (d + 2) 9 [.ref 1000, .int 3] S (fun v7 S8 => aI v7 (fun x9 => (x9 = 0 ∨ x9 = 1) ∧ Q (.int x9) S8)) := fun tt => wM_fail hs ⟨Or.inl rfl, h3 e tt⟩
    refine wM_writerNamed ok h hn e7 (fun k hk ek _ => ⟨fun _ => bad (Or.inl ⟨k, hk, ek⟩), fun c => absurd (Int32.not_lt.mp (nI_pos (by omega))) c⟩) (fun nw => ⟨fun c => absurd c (by decide), fun _ => ?_⟩)
    refine wM_wordNamed (u := 1) (n := rWd D.1) (f := rNm D.1) (by decide) hwd h.1.2.1 (fun k hk => nmS_of ok.2.1 hk) (fun k hk => (h.2.2.1 k hk).2.2.2.2.1) hn e7 (fun k hk ek _ => ⟨fun c => absurd c (nI_pos (by omega)), fun _ => bad (Or.inr ⟨k, hk, ek⟩)⟩) (fun nd => ⟨fun _ => ?_, fun c => absurd (by decide) c⟩)
    refine wM_nx ht ((hs.kept (frM_sl (C := noC) (F := fun j => j = 39) rfl) (fun q => q) (fun j _ _ q => by omega))) hl (fun S' f1 t1 => ⟨Or.inr rfl, h1 e ?_ S' (frM.tr (frM_sl (Or.inr (Or.inr rfl))) (f1.le (fun _ q => q) (fun _ q => Or.inl q))) t1 ?_⟩)
    · rintro (⟨k, hk, ek⟩ | ⟨k, hk, ek⟩)
      · exact nw k hk ek
      · exact nd k hk ek
    · rw [f1.2.2.2 39 (by unfold tkF; omega), gl_sl, if_pos ⟨rfl, rfl⟩]
      exact e7
  · rw [decide_eq_true (show ¬ srT tp q = 3 from e)]
    exact ⟨fun q => absurd q (by decide), fun _ => wM_fail hs ⟨Or.inl rfl, h0 e⟩⟩
end
