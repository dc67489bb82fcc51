/-! the reference keeps how it was: whole -/
section
variable {d : Nat} {Q : Value → aS → Prop} {S : aS} {r : zR} {z : zS} {hs : List zS}
theorem wM_keeps (hr : okR r) (hz : okZ r z) (hh : hsM r hs S) (hz2 : stM r z (ga S 1032) 0) (h : ∀ S', frM kC kF S S' → hsM r (hKeep hs z) S' → Q .null S') : aWM (d + 2) 54 [.ref 1000] S Q := by
  obtain ⟨g1, g2, g3⟩ := id hh
  refine mM_keeps ?_
  rw [g1, show (16 : Int32) = nI 16 from rfl, nI_eq (show hs.length < 2 ^ 31 by omega) (by decide)]
  unfold hKeep at h
  refine ⟨fun c => ?_, fun c => ?_⟩
  · rw [if_neg c] at h
    exact bM_keep hr hz hh (by omega) hz2 h
  · rw [if_pos c] at h
    have loop : ∀ m k, k + m = 900 → aBM (d + 1) 54 Q 6 [some (.ref 1000), some (.int (nI k))] [] (shl S k) := by
      intro m
      induction m with
      | zero =>
        intro k hk
        obtain rfl : k = 900 := by omega
        refine bM_keeps_6 ⟨fun _ => ?_, fun q => absurd (show (900 : Int32) ≤ nI 900 by decide) q⟩
        have e1 : gi (shl S 900) 1000 50 - 1 = nI 15 := by
          show gi S 1000 50 - 1 = nI 15
          rw [g1, c]
          rfl
        rw [e1]
        have hlen : hs.tail.length = 15 := by rw [List.length_tail, c]
        have hga : ∀ i, ga (si (shl S 900) 1000 50 (nI 15)) 1035 i = if i < 900 then ga S 1035 (i + 60) else ga S 1035 i := by
          intro i
          rw [ga_si, ga_shl, if_pos rfl]
        refine bM_keep (hs := hs.tail) hr hz ⟨?_, by omega, fun k z1 hk => ?_⟩ (by omega) ?_ (fun S' hf hh' => h S' (frM.tr (frM.tr frM_shl (frM_si rfl)) hf) hh')
        · rw [gi_si, if_pos ⟨rfl, rfl⟩, hlen]
        · have hk15 : k < 15 := by rw [← hlen]; exact (List.getElem?_eq_some_iff.mp hk).1
          have hk2 : hs[k + 1]? = some z1 := by rw [← List.getElem?_tail]; exact hk
          obtain ⟨a1, a2⟩ := g3 (k + 1) z1 hk2
          refine ⟨a1, a2.moved hr a1 (fun j hj => ?_)⟩
          rw [hga, if_pos (by omega), show 60 * k + j + 60 = 60 * (k + 1) + j by omega]
        · have e3 : ga (si (shl S 900) 1000 50 (nI 15)) 1032 = ga S 1032 := by
            funext i
            rw [ga_si, ga_shl, if_neg (by decide)]
          rw [e3]
          exact hz2
      | succ m ih =>
        intro k hk
        have hn := ih (k + 1) (by omega)
        rw [← shl_step] at hn
        refine bM_keeps_6 ⟨fun q => absurd q (nI_ge (a := k) (b := 900) (by omega) (by decide)), fun _ => ?_⟩
        rw [show (60 : Int32) = nI 60 from rfl, nI_add, nI_clamp (by omega), nI_clamp (by omega), nI_1]
        exact ⟨nI_in (by omega) (by decide), nI_in (by omega) (by decide), hn⟩
    have h9 := loop 900 0 rfl
    rw [shl_0] at h9
    exact h9
/-- a step back -/
theorem wM_undo (hr : okR r) (hh : hsM r hs S) (h0 : hs = [] → Q (.int 0) (si S 1000 0 0)) (h : ∀ hs' z S', hs = hs' ++ [z] → frM (fun i => i = 1032) (fun k => k = 0 ∨ k = 50) S S' → hsM r hs' S' → okZ r z → stM r z (ga S' 1032) 0 → Q (.int 1) S') : aWM (d + 2) 64 [.ref 1000] S Q := by
  obtain ⟨g1, g2, g3⟩ := id hh
  refine mM_undo ?_
  have e1 : gi (si S 1000 0 0) 1000 50 = nI hs.length := by
    rw [gi_si, if_neg (by decide)]
    exact g1
  simp only [e1, true_or, or_true, true_and, nI_eq0 (show hs.length < 2 ^ 31 by omega)]
  refine ⟨fun c => ?_, fun c => h0 (List.length_eq_zero_iff.mp c)⟩
  obtain ⟨hs', z, rfl⟩ : ∃ hs' z, hs = hs' ++ [z] := by
    have hne : hs ≠ [] := fun q => c (by rw [q]; rfl)
    exact ⟨hs.dropLast, hs.getLast hne, (List.dropLast_concat_getLast hne).symm⟩
  have hlen : (hs' ++ [z]).length = hs'.length + 1 := by rw [List.length_append]; rfl
  rw [hlen] at g2
  rw [hlen, nI_pred]
  have e2 : (60 : Int32) * gi (si (si S 1000 0 0) 1000 50 (nI hs'.length)) 1000 50 = nI (60 * hs'.length) := by
    rw [gi_si, if_pos ⟨rfl, rfl⟩, show (60 : Int32) = nI 60 from rfl, nI_mulN]
  rw [e2]
  refine wM_copies (p0 := 1035) (a := 60 * hs'.length) (p2 := 1032) (b := 0) rfl rfl (by decide) (by show 60 * hs'.length + 60 ≤ 960; omega) (by decide) (by decide) (by decide) ?_
  obtain ⟨a1, a2⟩ := g3 hs'.length z (by rw [List.getElem?_append_right (Nat.le_refl _), Nat.sub_self]; rfl)
  refine h hs' z _ rfl (frM.tr (frM.tr (frM_si (Or.inl rfl)) (frM_si (Or.inr rfl))) (frM_lay rfl)) ⟨?_, by omega, fun k z1 hk => ?_⟩ a1 (a2.moved hr a1 (fun j hj => ?_))
  · show gi (si (si S 1000 0 0) 1000 50 (nI hs'.length)) 1000 50 = _
    rw [gi_si, if_pos ⟨rfl, rfl⟩]
  · have hlt : k < hs'.length := (List.getElem?_eq_some_iff.mp hk).1
    obtain ⟨b1, b2⟩ := g3 k z1 (by rw [List.getElem?_append_left hlt]; exact hk)
    refine ⟨b1, b2.moved hr b1 (fun j hj => ?_)⟩
    rw [ga_lay, if_neg (by decide)]
    rfl
  · rw [ga_lay, if_pos rfl, if_pos (by omega), show 0 + j - 0 = j by omega]
    rfl
end
