/-! the tokens of the reference: the next one; what a token is -/
section
variable {d : Nat} {Q : Value → aS → Prop} {S : aS} {tp : List Nat} {p q : Nat}
theorem wM_step (ht : okT tp) (hs : szM tp S) (h4 : gi S 1000 4 = nI p) (hl : p ≤ tp.length) (h : ∀ S', frM noC tkF S S' → tkM tp (rnT isWs tp p) S' → Q .null S') : aWM (d + 2) 6 [.ref 1000] S Q := by
  have h1 := ht.1
  have fin : ∀ T p, frM noC tkF S T → gi T 1000 4 = nI p → p ≤ tp.length → (∀ S', frM noC tkF S S' → tkM tp p S' → Q .null S') → aBM (d + 1) 6 Q 26 [some (.ref 1000), none] [] T := by
    intro T p g1 g2 g3 g6
    refine bM_nextToken_26 ?_
    have f1 : frM noC tkF S (si (sl (si T 1000 5 (gi T 1000 4)) 1000 7 0) 1000 8 0) := g1.tr (frM.tr (frM.tr (frM_si ⟨by decide, by decide⟩) (frM_sl ⟨by decide, by decide⟩)) (frM_si ⟨by decide, by decide⟩))
    have a4 : gi (si (sl (si T 1000 5 (gi T 1000 4)) 1000 7 0) 1000 8 0) 1000 4 = nI p := by rw [gi_si, if_neg (by decide), gi_sl, gi_si, if_neg (by decide)]; exact g2
    have a5 : gi (si (sl (si T 1000 5 (gi T 1000 4)) 1000 7 0) 1000 8 0) 1000 5 = nI p := by rw [gi_si, if_neg (by decide), gi_sl, gi_si, if_pos ⟨rfl, rfl⟩]; exact g2
    have a7 : gl (si (sl (si T 1000 5 (gi T 1000 4)) 1000 7 0) 1000 8 0) 1000 7 = 0 := by rw [gl_si, gl_sl, if_pos ⟨rfl, rfl⟩]
    have a8 : gi (si (sl (si T 1000 5 (gi T 1000 4)) 1000 7 0) 1000 8 0) 1000 8 = 0 := by rw [gi_si, if_pos ⟨rfl, rfl⟩]
    generalize si (sl (si T 1000 5 (gi T 1000 4)) 1000 7 0) 1000 8 0 = U at f1 a4 a5 a7 a8 ⊢
    have t1 := hs.kept f1 (fun q => q) (by unfold tkF; omega)
    rw [a4, t1.1, nI_eq (by omega) (by omega), nI_clamp (by omega)]
    have last : ∀ V n, n < 5 → frM noC tkF U V → gi V 1000 5 = nI p → gi V 1000 4 = nI (enT tp p) → toT tp p = n → (toT tp p = 1 → gl V 1000 7 = lN (enc 27 (nmT tp p))) → (toT tp p = 2 → gi V 1000 8 = nI (nvT tp p)) → Q .null (si V 1000 6 (nI n)) := by
      intro V n hn b1 b2 b3 b4 b5 b6
      refine g6 _ ((f1.tr b1).tr (frM_si ⟨by decide, by decide⟩)) ⟨t1.kept (b1.tr (frM_si ⟨by decide, by decide⟩)) (fun q => q) (by unfold tkF; omega), ?_, ?_, ?_, b5, fun c => ?_⟩
      · rw [gi_si, if_neg (by decide)]; exact b2
      · rw [gi_si, if_neg (by decide)]; exact b3
      · rw [gi_si, if_pos ⟨rfl, rfl⟩, b4]
      · rw [gi_si, if_neg (by decide)]; exact b6 c
    refine ⟨fun c => ⟨nI_in (by omega) (by omega), ?_⟩, fun c => ?_⟩
    · have hlt : p < tp.length := by omega
      have hb := sg_ok ht hlt
      rw [t1.2 p hlt, show (97 : Int32) = nI 97 from rfl, show (122 : Int32) = nI 122 from rfl, show (48 : Int32) = nI 48 from rfl, show (57 : Int32) = nI 57 from rfl, nI_ltI (by omega) (by omega), nI_ltI (by omega) (by omega), nI_ltI (by omega) (by omega), nI_ltI (by omega) (by omega)]
      have sign : isLt (sgT tp p) = false → isDg (sgT tp p) = false → aBM (d + 1) 6 Q 168 [some (.ref 1000), some (.int (nI (sgT tp p)))] [] U := fun c1 c2 => by
        have e : enT tp p = p + 1 := by
          unfold enT
          rw [if_pos hlt, if_neg (by rw [c1]; decide), if_neg (by rw [c2]; decide)]
        have et : toT tp p = if (40 ≤ sgT tp p ∧ sgT tp p ≤ 43) ∨ sgT tp p = 45 ∨ (59 ≤ sgT tp p ∧ sgT tp p ≤ 61) then 3 else 4 := by
          unfold toT
          rw [if_pos hlt, if_neg (by rw [c1]; decide), if_neg (by rw [c2]; decide)]
        have lst : ∀ n, n < 5 → (n = 3 ∨ n = 4) → toT tp p = n → Q .null (si (si U 1000 4 (nI p + 1)) 1000 6 (nI n)) := fun n h5 h34 e2 => by
          refine last _ n h5 (frM_si ⟨by decide, by decide⟩) ?_ ?_ e2 (fun c => absurd c (by omega)) (fun c => absurd c (by omega))
          · rw [gi_si, if_neg (by decide)]; exact a5
          · rw [gi_si, if_pos ⟨rfl, rfl⟩, e, nI_1]
        have s181 : ¬ (40 ≤ sgT tp p ∧ sgT tp p ≤ 43) → aBM (d + 1) 6 Q 181 [none, some (.int (nI (sgT tp p)))] [.ref 1000] (si U 1000 4 (nI p + 1)) := fun c3 => by
          refine bM_nextToken_181 ?_
          rw [show (45 : Int32) = nI 45 from rfl, show (59 : Int32) = nI 59 from rfl, show (61 : Int32) = nI 61 from rfl, nI_eq (by omega) (by decide), nI_ltI (by omega) (by decide), nI_ltI (by decide) (by omega)]
          refine ⟨fun c4 => gK_ok rfl (lst 3 (by decide) (Or.inl rfl) ?_), fun c4 => ⟨fun c5 => gK_ok rfl (lst 4 (by decide) (Or.inr rfl) ?_), fun c5 => ⟨fun c6 => gK_ok rfl (lst 4 (by decide) (Or.inr rfl) ?_), fun c6 => gK_ok rfl (lst 3 (by decide) (Or.inl rfl) ?_)⟩⟩⟩
          · rw [et, if_pos (by omega)]
          · rw [et, if_neg (by omega)]
          · rw [et, if_neg (by omega)]
          · rw [et, if_pos (by omega)]
        refine bM_nextToken_168 ?_
        rw [a4, show (40 : Int32) = nI 40 from rfl, show (43 : Int32) = nI 43 from rfl, nI_ltI (by omega) (by decide), nI_leI (by omega) (by decide)]
        refine ⟨fun c3 => s181 (by omega), fun c3 => ⟨fun c4 => lst 3 (by decide) (Or.inl rfl) (by rw [et, if_pos (by omega)]), fun c4 => s181 (by omega)⟩⟩
      have nl : isLt (sgT tp p) = false → (sgT tp p < 48 → aBM (d + 1) 6 Q 168 [some (.ref 1000), some (.int (nI (sgT tp p)))] [] U) ∧ (¬ sgT tp p < 48 → ((57 < sgT tp p → aBM (d + 1) 6 Q 168 [some (.ref 1000), some (.int (nI (sgT tp p)))] [] U) ∧ (¬ 57 < sgT tp p → aBM (d + 1) 6 Q 116 [some (.ref 1000), none] [] U))) := fun c1 => by
        refine ⟨fun c2 => sign c1 (decide_eq_false (by omega)), fun c2 => ⟨fun c3 => sign c1 (decide_eq_false (by omega)), fun c3 => ?_⟩⟩
        have cd : isDg (sgT tp p) = true := decide_eq_true (by omega)
        have e : enT tp p = rnT isDg tp p := by
          unfold enT
          rw [if_pos hlt, if_neg (by rw [c1]; decide), if_pos cd]
        have et : toT tp p = if nT tp p ≤ 4 then 2 else 4 := by
          unfold toT
          rw [if_pos hlt, if_neg (by rw [c1]; decide), if_pos cd]
        have en : nT tp p = rnT isDg tp p - p := by unfold nT; rw [e]
        have hrl := rn_le (P := isDg) g3
        refine wM_digits ht t1 a4 a5 a8 g3 (fun V b1 b2 b3 b4 => bM_nextToken_155 ?_)
        rw [b2, b3, nI_subN rn_ge, show (4 : Int32) = nI 4 from rfl, nI_leI (by omega) (by decide)]
        refine ⟨fun c4 => last V 2 (by decide) b1 b2 (by rw [e]; exact b3) (by rw [et, if_pos (by omega)]) (fun c => ?_) (fun c => ?_), fun c4 => last V 4 (by decide) b1 b2 (by rw [e]; exact b3) (by rw [et, if_neg (by omega)]) (fun c => ?_) (fun c => ?_)⟩
        · rw [et, if_pos (by omega)] at c; cases c
        · unfold nvT
          rw [en]
          exact b4 c4
        · rw [et, if_neg (by omega)] at c; cases c
        · rw [et, if_neg (by omega)] at c; cases c
      refine ⟨fun c1 => nl (decide_eq_false (by omega)), fun c1 => ⟨fun c2 => nl (decide_eq_false (by omega)), fun c2 => ?_⟩⟩
      have cl : isLt (sgT tp p) = true := decide_eq_true (by omega)
      have e : enT tp p = rnT isLt tp p := by
        unfold enT
        rw [if_pos hlt, if_pos cl]
      have et : toT tp p = if nT tp p ≤ 8 then 1 else 4 := by
        unfold toT
        rw [if_pos hlt, if_pos cl]
      have en : nT tp p = rnT isLt tp p - p := by unfold nT; rw [e]
      have hrl := rn_le (P := isLt) g3
      refine wM_letters ht t1 a4 a5 a7 g3 (fun V b1 b2 b3 b4 => bM_nextToken_97 ?_)
      rw [b2, b3, nI_subN rn_ge, show (8 : Int32) = nI 8 from rfl, nI_leI (by omega) (by decide)]
      refine ⟨fun c4 => last V 1 (by decide) b1 b2 (by rw [e]; exact b3) (by rw [et, if_pos (by omega)]) (fun c => ?_) (fun c => ?_), fun c4 => last V 4 (by decide) b1 b2 (by rw [e]; exact b3) (by rw [et, if_neg (by omega)]) (fun c => ?_) (fun c => ?_)⟩
      · unfold nmT
        rw [en]
        exact b4 c4
      · rw [et, if_pos (by omega)] at c; cases c
      · rw [et, if_neg (by omega)] at c; cases c
      · rw [et, if_neg (by omega)] at c; cases c
    · have e : enT tp p = p := by unfold enT; rw [if_neg (by omega)]
      have et : toT tp p = 0 := by unfold toT; rw [if_neg (by omega)]
      exact last U 0 (by decide) frM.rf a5 (by rw [e]; exact a4) et (fun c => absurd c (by omega)) (fun c => absurd c (by omega))
  have loop : ∀ n p0, p0 + n = tp.length → ∀ T, rnT isWs tp p0 = rnT isWs tp p → frM noC tkF S T → gi T 1000 4 = nI p0 → aBM (d + 1) 6 Q 0 [some (.ref 1000), none] [] T := by
    refine rn_ind (P := isWs) (tp := tp) (M := fun p0 => ∀ T, rnT isWs tp p0 = rnT isWs tp p → frM noC tkF S T → gi T 1000 4 = nI p0 → aBM (d + 1) 6 Q 0 [some (.ref 1000), none] [] T) (fun p0 hp hP ih T g1 g2 g4 => ?_) (fun p0 hp hP T g1 g2 g4 => ?_)
    · refine bM_nextToken_0 (ws_iffM ht (hs.kept g2 (fun q => q) (by unfold tkF; omega)) g4 (by omega) (fun c => absurd ⟨hp, hP⟩ c) (fun _ _ => ih _ (by rw [← g1, rn_go hp hP]) (g2.tr (frM_si ⟨by decide, by decide⟩)) ?_))
      rw [gi_si, if_pos ⟨rfl, rfl⟩, g4, nI_1]
    · have e : rnT isWs tp p = p0 := by rw [← g1, rn_no hP]
      exact bM_nextToken_0 (ws_iffM ht (hs.kept g2 (fun q => q) (by unfold tkF; omega)) g4 hp (fun _ => fin T p0 g2 g4 hp (e ▸ h)) (fun c1 c2 => absurd ⟨c1, c2⟩ hP))
  refine mM_nextToken (ws_iffM ht hs h4 hl (fun c => fin S p frM.rf h4 hl (fun S' a b => h S' a (by rw [rn_no c]; exact b))) (fun c1 c2 => loop (tp.length - (p + 1)) (p + 1) (by omega) _ (by rw [rn_go c1 c2]) (frM_si ⟨by decide, by decide⟩) ?_))
  rw [gi_si, if_pos ⟨rfl, rfl⟩, h4, nI_1]
theorem wM_nx (ht : okT tp) (hs : tkM tp q S) (hl : plT tp q) (h : ∀ S', frM noC tkF S S' → tkM tp (nxT tp q) S' → Q .null S') : aWM (d + 2) 6 [.ref 1000] S Q := wM_step ht hs.1 hs.2.2.1 (enT_le hl.1) h
theorem wM_fail {k : Int32} (hs : tkM tp q S) (h : Q (.int 0) (si S 1000 9 (k + 16 * nI q))) : aWM (d + 1) 9 [.ref 1000, .int k] S Q := by
  refine mM_fails ⟨Or.inl rfl, ?_⟩
  rw [hs.2.1]
  exact h
end
