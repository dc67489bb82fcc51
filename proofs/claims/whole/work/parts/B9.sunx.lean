/-! Sundays told: a line, the class -/
abbrev zQ : Type := Int32 ⊕ (List zL × Nat)
noncomputable def snF (tp : List Nat) (r : zR) (ls : List zL) (q : Nat) : zQ := cI (srT tp q = 15 ∨ srT tp q = 16 ∨ srT tp q = 17) (cI (ls.length = 40) (.inl (5 + 16 * nI q)) (cI (srT tp q = 15) (cI (srT tp (nxT tp q) = 3) (match fdN (rWd r) (rNm r) (nmT tp (nxT tp q)) with
  | some k => .inr (ls ++ [(0, k)], nx2 tp q)
  | none => .inl (2 + 16 * nI (nxT tp q))) (.inl (1 + 16 * nI (nxT tp q)))) (cI (srT tp q = 16) (cI (srT tp (nxT tp q) = 2) (cI (0 ≤ nvT tp (nxT tp q) ∧ nvT tp (nxT tp q) ≤ 9) (.inr (ls ++ [(1, nvT tp (nxT tp q))], nx2 tp q)) (.inl (4 + 16 * nI (nxT tp q)))) (.inl (1 + 16 * nI (nxT tp q)))) (.inr (ls ++ [(2, 0)], nxT tp q))))) (.inl (1 + 16 * nI q))
def snX (ls : List zL) (S : aS) : Prop := gi S 3 3 = nI ls.length ∧ ∀ k l, ls[k]? = some l → ga S 4 k = lnI l
def snC (i : Nat) : Prop := i = 1 ∨ i = 3 ∨ i = 4
theorem snX_push {ls : List zL} {T : aS} {l : zL} (h : snX ls T) : snX (ls ++ [l]) (si (sa T 4 ls.length (lnI l)) 3 3 (nI (ls.length + 1))) := by
  refine ⟨by rw [gi_si, if_pos ⟨rfl, rfl⟩, List.length_append]; rfl, fun k x hk => ?_⟩
  rw [ga_si, ga_sa]
  by_cases c : k = ls.length
  · subst c
    rw [if_pos ⟨rfl, rfl⟩]
    rw [List.getElem?_append_right (Nat.le_refl _), Nat.sub_self] at hk
    cases hk
    rfl
  · rw [if_neg (fun z => c z.2)]
    have hlt := (List.getElem?_eq_some_iff.mp hk).1
    rw [List.length_append] at hlt
    have hlt : k < ls.length + 1 := hlt
    rw [List.getElem?_append_left (by omega)] at hk
    exact h.2 k x hk
theorem okL_push {r : zR} {ls : List zL} {l : zL} (h : okL r ls) (hn : ls.length < 40) (hl : l.1 ≤ 2 ∧ (l.1 = 0 → l.2 < rWd r) ∧ (l.1 = 1 → l.2 ≤ 9)) : okL r (ls ++ [l]) := by
  refine ⟨by rw [List.length_append]; show ls.length + 1 ≤ 40; omega, fun x hx => ?_⟩
  rcases List.mem_append.mp hx with h1 | h1
  · exact h.2 x h1
  · rw [List.mem_singleton.mp h1]
    exact hl
section
variable {d m : Nat} {Q : Value → aS → Prop} {S : aS} {tp : List Nat} {q t : Nat} {r : zR} {ls : List zL}
theorem snX.kept {S' : aS} (h : snX ls S) (hf : frK S S') : snX ls S' := ⟨(hf.1 3 3 (by omega)).trans h.1, fun k l hk => (hf.2.2.2.1 4 k).trans (h.2 k l hk)⟩
/-- the line laid -/
theorem X_push {T : aS} {l : zL} {v : Int32} {q1 : Nat} (hv : v = lnI l) (hl : okL r ls) (hn : ls.length < 40) (hT : snX ls T) (f : frZ snC S T) (ht : tkX tp q1 T) (hp : plT tp q1) (hq : q < q1) (e7 : gi T 1 7 = gi S 1 7) (hok : l.1 ≤ 2 ∧ (l.1 = 0 → l.2 < rWd r) ∧ (l.1 = 1 → l.2 ≤ 9)) (hF : snF tp r ls q = .inr (ls ++ [l], q1)) (hO : ∀ ls' q1 S', snF tp r ls q = .inr (ls', q1) → frZ snC S S' → snX ls' S' → tkX tp q1 S' → plT tp q1 → q < q1 → gi S' 1 7 = gi S 1 7 → okL r ls' → Q (.int 1) S') : vp_in (gi T 3 3) 40 ∧ (((1 : Int32) = 0 ∨ (1 : Int32) = 1) ∧ Q (.int 1) (si (sa T 4 (gi T 3 3).toNatClampNeg v) 3 3 ((gi (sa T 4 (gi T 3 3).toNatClampNeg v) 3 3) + 1))) := by
  rw [gi_sa, hT.1, nI_clamp (by omega), nI_1, hv]
  have fz : frZ (fun i => i = 3 ∨ i = 4) T (si (sa T 4 ls.length (lnI l)) 3 3 (nI (ls.length + 1))) := (frZ_sa (Or.inr rfl)).tr (frZ_si (Or.inl rfl))
  refine ⟨nI_in hn (by decide), Or.inr rfl, hO _ _ _ hF (f.tr (fz.le (fun i hi => Or.inr hi))) (snX_push hT) (ht.keptZ fz (by omega) (by omega)) hp hq ?_ (okL_push hl hn hok)⟩
  rw [gi_si, if_neg (by decide), gi_sa]
  exact e7
theorem X_sunLine (ht : okT tp) (hT : isT t) (hr : okR r) (hn : okN r) (h : RX r S t) (hs : tkX tp q S) (hl : plT tp q) (hx : snX ls S) (hol : okL r ls) (hE : ∀ v S', snF tp r ls q = .inl v → frZ snC S S' → gi S' 1 7 = v → Q (.int 0) S') (hO : ∀ ls' q1 S', snF tp r ls q = .inr (ls', q1) → frZ snC S S' → snX ls' S' → tkX tp q1 S' → plT tp q1 → q < q1 → gi S' 1 7 = gi S 1 7 → okL r ls' → Q (.int 1) S') : aWX (m + 10) 51 [.ref 3, .ref t] S Q := by
  have t6 := hT.six.1
  have h40 := hol.1
  have h12 := hr.2.1
  have hsr : srT tp q ≤ 99 := Nat.le_trans srT_le (by decide)
  have fl : ∀ (T : aS) (v : Int32), frZ snC S T → frZ snC S (si T 1 7 v) ∧ gi (si T 1 7 v) 1 7 = v := fun T v f => ⟨f.tr (frZ_si (Or.inl rfl)), by rw [gi_si, if_pos ⟨rfl, rfl⟩]⟩
  have go : (srT tp q = 15 ∨ srT tp q = 16 ∨ srT tp q = 17) → aBX (m + 9) 51 Q 18 [some (.ref 3), some (.ref t), some (.ref (2000 + srT tp q)), none] [] S := by
    intro h3
    refine bX_Reader_readSundayLine_18 ?_
    rw [hx.1, show nI ls.length < (40 : Int32) ↔ ls.length < 40 from nI_ltI (a := ls.length) (b := 40) (by omega) (by decide)]
    refine ⟨fun c40 => ?_, fun c40 => wX_fail hs ⟨Or.inl rfl, hE _ _ ?_ (fl S _ frZ.rf).1 (fl S _ frZ.rf).2⟩⟩
    rotate_left
    · have c40' : ls.length = 40 := by omega
      unfold snF
      rw [cI_t h3, cI_t c40']
    have c40' : ¬ ls.length = 40 := by omega
    have n1 := nx_gt (lt_sr hl (by omega))
    have l1 := plT_nx hl
    refine wX_nx ht hs hl (fun S2 f2 t2 => gC_ok hsr ?_)
    have z2 : frZ snC S S2 := f2.Z.le (fun i hi => Or.inl hi)
    have x2 := hx.kept f2
    have e2 : gi S2 1 7 = gi S 1 7 := f2.1 1 7 (by omega)
    refine ⟨fun a15 => gC_ok hsr ⟨fun a16 => ?_, fun a16 => ?_⟩, fun a15 => ?_⟩
    · have s15 : ¬ srT tp q = 15 := by omega
      have s16 : ¬ srT tp q = 16 := by omega
      exact X_push (l := (2, 0)) rfl hol c40 x2 z2 t2 l1 n1 e2 ⟨by decide, fun z => absurd z (by decide), fun z => absurd z (by decide)⟩ (by unfold snF; rw [cI_t h3, cI_f c40', cI_f s15, cI_f s16]) hO
    · have s15 : ¬ srT tp q = 15 := by omega
      have s16 : srT tp q = 16 := by omega
      show aWX (m + 9) 54 [.ref 3, .int (nI 0), .int (nI 9)] S2 _
      refine wX_isNumber ht t2 l1 (by decide) (by decide) (fun c1 c2 c3 => ⟨fun _ => wX_nx ht t2 l1 (fun S7 f7 t7 => ?_), fun z => absurd z (by decide)⟩) (fun c1 c2 => ⟨fun z => absurd rfl z, fun _ => ⟨Or.inl rfl, hE _ _ (by unfold snF; rw [cI_t h3, cI_f c40', cI_f s15, cI_t s16, cI_t c1, cI_f c2]) (fl S2 _ z2).1 (fl S2 _ z2).2⟩⟩) (fun c1 => ⟨fun z => absurd rfl z, fun _ => ⟨Or.inl rfl, hE _ _ (by unfold snF; rw [cI_t h3, cI_f c40', cI_f s15, cI_t s16, cI_f c1]) (fl S2 _ z2).1 (fl S2 _ z2).2⟩⟩)
      have n2 := nx_gt (lt_sr l1 (by omega))
      refine X_push (l := (1, nvT tp (nxT tp q))) (q1 := nx2 tp q) ?_ hol c40 (x2.kept f7) (z2.tr (f7.Z.le (fun i hi => Or.inl hi))) t7 (plT_nx l1) (Nat.lt_trans n1 n2) ((f7.1 1 7 (by omega)).trans e2) ⟨show 1 ≤ 2 by decide, fun z => absurd (show (1 : Nat) = 0 from z) (by decide), fun _ => c3⟩ (by unfold snF; rw [cI_t h3, cI_f c40', cI_f s15, cI_t s16, cI_t c1, cI_t ⟨c2, c3⟩]) hO
      rw [t2.2.2.2.2.1 c1]
      exact nI_add 16 _
    · have s15 : srT tp q = 15 := by omega
      have r2 : RX r S2 t := h.keptZ hT f2.Z (fun i hi (z : i = 1) => by unfold rcX at hi; omega)
      show aWX (m + 9) 107 [.ref 1, .ref 2003] S2 _
      refine X_fd (d := m + 7) (A := fun x T => aBX (m + 9) 51 Q 47 [some (.ref 3), none, none, none] [.int x] T) (n := rWd r) (f := rNm r) t2 (fun e Q' k1 k0 => wX_findWord hT hr hn r2 (nm_3 ht l1 e) k1 k0) (fun e k hk fk => ?_) (fun hb => bX_Reader_readSundayLine_47 ⟨fun z => absurd rfl z, fun _ => wX_failAtName t2 (fun e => ⟨Or.inl rfl, hE _ _ (by unfold snF; rw [cI_t h3, cI_f c40', cI_t s15, cI_t e, hb e]) (fl S2 _ z2).1 (fl S2 _ z2).2⟩) (fun e => ⟨Or.inl rfl, hE _ _ (by unfold snF; rw [cI_t h3, cI_f c40', cI_t s15, cI_f e]) (fl S2 _ z2).1 (fl S2 _ z2).2⟩)⟩)
      have n2 := nx_gt (lt_sr l1 (by omega))
      refine bX_Reader_readSundayLine_47 ⟨fun _ => wX_nx ht t2 l1 (fun S7 f7 t7 => ?_), fun z => absurd z.symm (m1_ne (by omega))⟩
      exact X_push (l := (0, k)) (q1 := nx2 tp q) rfl hol c40 (x2.kept f7) (z2.tr (f7.Z.le (fun i hi => Or.inl hi))) t7 (plT_nx l1) (Nat.lt_trans n1 n2) ((f7.1 1 7 (by omega)).trans e2) ⟨show 0 ≤ 2 by decide, fun _ => hk, fun z => absurd (show (0 : Nat) = 1 from z) (by decide)⟩ (by unfold snF; rw [cI_t h3, cI_f c40', cI_t s15, cI_t e, fk]) hO
  refine mX_Reader_readSundayLine ?_
  rw [hs.2.2.2.1]
  refine gC_ok hsr ⟨fun a => go (by omega), fun a => gC_ok hsr ⟨fun b => go (by omega), fun b => gC_ok hsr ⟨fun c => go (by omega), fun c => wX_fail hs ⟨Or.inl rfl, hE _ _ ?_ (fl S _ frZ.rf).1 (fl S _ frZ.rf).2⟩⟩⟩⟩
  have h3 : ¬ (srT tp q = 15 ∨ srT tp q = 16 ∨ srT tp q = 17) := by omega
  unfold snF
  rw [cI_f h3]
theorem wX_takeLines4 (hl : ls.length ≤ 40) (hs : snX ls S) (h : ∀ S', frX (fun i => i = 40 ∨ i = 45) S S' → lsX ls S' 40 → (∀ i k, ¬ (i = 40 ∧ k = 2) → gi S' i k = gi S i k) → (∀ i k, i ≠ 45 → ga S' i k = ga S i k) → Q .null S') : aWX (d + 1) 39 [.ref 40, .ref 4, .int (gi S 3 3)] S Q := by
  obtain ⟨s1, s2⟩ := hs
  have e40 : (Int32.ofNat (aln 4)) = nI 40 := by decide
  have f1 : (if (40 : Int32) < nI 40 then (40 : Int32) else nI 40) = nI 40 := by decide
  have f2 : (if nI 40 < nI ls.length then nI 40 else nI ls.length) = nI ls.length := if_neg (nI_nlt hl (by decide))
  have f3 : (if (0 : Int32) < nI ls.length then nI ls.length else 0) = nI ls.length := by
    by_cases q : ls.length = 0
    · rw [q]; decide
    · exact if_pos (nI_lt (a := 0) (by omega) (by omega))
  refine mX_Page_takeLines ?_
  rw [e40, s1, f1, f2, f3, gi_si, if_pos ⟨rfl, rfl⟩, show art 40 1 = 45 by decide]
  refine gK_ok (by decide) (gK_ok (by decide) (gK_ok (by decide) (gK_ok (by decide) (gK_ok (by decide) (gK_ok (by decide) ⟨acp_ok (by decide) hl hl (by omega), bX_Page_takeLines_18 ?_⟩)))))
  refine h _ (frX.tr (frX_si (Or.inl rfl)) (frX_scp (Or.inr rfl))) ⟨?_, fun k l hk => ?_⟩ (fun i k hi => ?_) (fun i k hi => ?_)
  · show gi (si S 40 2 (nI ls.length)) 40 2 = _
    rw [gi_si, if_pos ⟨rfl, rfl⟩]
  · rw [ga_scp, if_pos rfl, nI_clamp (by omega), if_pos (List.getElem?_eq_some_iff.mp hk).1]
    exact s2 k l hk
  · show gi (si S 40 2 (nI ls.length)) i k = _
    rw [gi_si, if_neg hi]
  · rw [ga_scp, if_neg hi]
    rfl
end
