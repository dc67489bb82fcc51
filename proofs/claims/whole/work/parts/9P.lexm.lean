/-! the tokens of the reference -/
def toT (tp : List Nat) (q : Nat) : Nat := if q < tp.length then (if isLt (sgT tp q) = true then (if nT tp q ≤ 8 then 1 else 4) else if isDg (sgT tp q) = true then (if nT tp q ≤ 4 then 2 else 4) else if (40 ≤ sgT tp q ∧ sgT tp q ≤ 43) ∨ sgT tp q = 45 ∨ (59 ≤ sgT tp q ∧ sgT tp q ≤ 61) then 3 else 4) else 0
def szM (tp : List Nat) (S : aS) : Prop := gi S 1000 3 = nI tp.length ∧ ∀ k, k < tp.length → ga S 1001 k = nI (sgT tp k)
def tkM (tp : List Nat) (q : Nat) (S : aS) : Prop := szM tp S ∧ gi S 1000 5 = nI q ∧ gi S 1000 4 = nI (enT tp q) ∧ gi S 1000 6 = nI (toT tp q) ∧ (toT tp q = 1 → gl S 1000 7 = lN (enc 27 (nmT tp q))) ∧ (toT tp q = 2 → gi S 1000 8 = nI (nvT tp q))
def noC (_ : Nat) : Prop := False
def tkF (k : Nat) : Prop := 4 ≤ k ∧ k ≤ 8
theorem szM.kept {tp : List Nat} {S S' : aS} {C F : Nat → Prop} (h : szM tp S) (hf : frM C F S S') (hc : ¬ C 1001) (hF : ¬ F 3) : szM tp S' := ⟨(hf.2.2.1 3 hF).trans h.1, fun k hk => (hf.1 1001 k hc).trans (h.2 k hk)⟩
theorem tkM.kept {tp : List Nat} {q : Nat} {S S' : aS} {C F : Nat → Prop} (h : tkM tp q S) (hf : frM C F S S') (hc : ¬ C 1001) (hF : ∀ k, 3 ≤ k → k ≤ 8 → ¬ F k) : tkM tp q S' := by
  obtain ⟨h1, h2, h3, h4, h5, h6⟩ := h
  exact ⟨h1.kept hf hc (hF 3 (by decide) (by decide)), (hf.2.2.1 5 (hF 5 (by decide) (by decide))).trans h2, (hf.2.2.1 4 (hF 4 (by decide) (by decide))).trans h3, (hf.2.2.1 6 (hF 6 (by decide) (by decide))).trans h4, fun c => (hf.2.2.2 7 (hF 7 (by decide) (by decide))).trans (h5 c), fun c => (hf.2.2.1 8 (hF 8 (by decide) (by decide))).trans (h6 c)⟩
theorem sg_out {tp : List Nat} {k : Nat} (h : ¬ k < tp.length) : sgT tp k = 0 := by
  unfold sgT
  rw [List.getD_eq_getElem?_getD, List.getElem?_eq_none (by omega)]
  rfl
theorem sg_le {tp : List Nat} {k : Nat} (h : okT tp) : sgT tp k ≤ 126 := by
  by_cases c : k < tp.length
  · have := sg_ok h c
    omega
  · rw [sg_out c]
    omega
theorem let_w : ∀ c, c < 123 → 97 ≤ c → ∀ v : Int64, (v + (nI c).toInt64) - 96 = v + lN (c - 96) := by
  intro c h1 h2 v
  have : ∀ c, c < 123 → 97 ≤ c → (nI c).toInt64 - 96 = lN (c - 96) := by decide +kernel
  rw [← this c h1 h2, Int64.sub_eq_add_neg, Int64.sub_eq_add_neg, Int64.add_assoc]
theorem dig_w : ∀ c, c < 58 → 48 ≤ c → ∀ v : Int32, (v + nI c) - 48 = v + nI (c - 48) := by
  intro c h1 h2 v
  rw [← dig_v c h1 h2, Int32.sub_eq_add_neg, Int32.sub_eq_add_neg, Int32.add_assoc]
section
variable {d : Nat} {Q : Value → aS → Prop} {S : aS} {tp : List Nat} {p q : Nat}
theorem wM_signAt (ht : okT tp) (hs : szM tp S) (hp : p < 2 ^ 31) (h : Q (.int (nI (sgT tp p))) S) : aWM (d + 1) 5 [.ref 1000, .int (nI p)] S Q := by
  have h1 := ht.1
  refine mM_signAt ?_
  rw [hs.1, nI_leI (by omega) hp, nI_clamp hp]
  refine ⟨fun c => ?_, fun c => ⟨nI_in (by omega) (by omega), ?_⟩⟩
  · rw [sg_out (by omega)] at h
    exact h
  · rw [hs.2 p (by omega)]
    exact h
theorem ws_iffM (ht : okT tp) (hs : szM tp S) (hp : gi S 1000 4 = nI p) (hl : p ≤ tp.length) {A B : Prop} (hA : ¬ (p < tp.length ∧ isWs (sgT tp p) = true) → A) (hB : p < tp.length → isWs (sgT tp p) = true → B) : (((gi S 1000 3) ≤ (gi S 1000 4) → A) ∧ (¬ (gi S 1000 3) ≤ (gi S 1000 4) → (vp_in (gi S 1000 4) 1000 ∧ ((((ga S 1001 (gi S 1000 4).toNatClampNeg) = 32 → B) ∧ (¬ (ga S 1001 (gi S 1000 4).toNatClampNeg) = 32 → (vp_in (gi S 1000 4) 1000 ∧ (((¬ (ga S 1001 (gi S 1000 4).toNatClampNeg) = 10 → A) ∧ ((ga S 1001 (gi S 1000 4).toNatClampNeg) = 10 → B)))))))))) := by
  have h1 := ht.1
  rw [hs.1, hp, nI_leI (by omega) (by omega), nI_clamp (by omega)]
  refine ⟨fun c => hA (by omega), fun c => ?_⟩
  have hlt : p < tp.length := by omega
  have hv : vp_in (nI p) 1000 := nI_in (by omega) (by omega)
  have hb := sg_ok ht hlt
  rw [hs.2 p hlt, show (10 : Int32) = nI 10 from rfl, show (32 : Int32) = nI 32 from rfl, nI_eq (by omega) (by decide), nI_eq (by omega) (by decide)]
  refine ⟨hv, fun c1 => hB hlt (decide_eq_true (Or.inr c1)), fun c1 => ⟨hv, fun c2 => hA (fun q => ?_), fun c2 => hB hlt (decide_eq_true (Or.inl c2))⟩⟩
  have := of_decide_eq_true q.2
  omega
theorem rn_ind2 {P : Nat → Bool} {M : Nat → Prop} (go : ∀ p, P (sgT tp p) = true → M (p + 1) → M p) (no : ∀ p, ¬ P (sgT tp p) = true → M p) (h0 : P 0 = false) : ∀ n p, p + n = tp.length → M p := fun n p h => rn_ind (P := P) (fun p _ h2 h3 => go p h2 h3) (fun p _ h2 => no p (fun q => by
  by_cases c : p < tp.length
  · exact h2 ⟨c, q⟩
  · rw [sg_out c, h0] at q
    cases q)) n p h
theorem sg_in {P : Nat → Bool} (h0 : P 0 = false) (h : P (sgT tp p) = true) : p < tp.length := by
  refine Decidable.byContradiction (fun c => ?_)
  rw [sg_out c, h0] at h
  cases h
theorem wM_letters (ht : okT tp) (hs : szM tp S) (h4 : gi S 1000 4 = nI q) (h5 : gi S 1000 5 = nI q) (h7 : gl S 1000 7 = 0) (hl : q ≤ tp.length) (h : ∀ S', frM noC tkF S S' → gi S' 1000 5 = nI q → gi S' 1000 4 = nI (rnT isLt tp q) → (rnT isLt tp q - q ≤ 8 → gl S' 1000 7 = lN (enc 27 (nmP tp q (rnT isLt tp q - q)))) → aBM (d + 1) 6 Q 97 [some (.ref 1000), none] [] S') : aBM (d + 1) 6 Q 57 [some (.ref 1000), none] [] S := by
  have h1 := ht.1
  have loop : ∀ n p, p + n = tp.length → ∀ T, q ≤ p → rnT isLt tp p = rnT isLt tp q → frM noC tkF S T → gi T 1000 5 = nI q → gi T 1000 4 = nI p → (p - q ≤ 8 → gl T 1000 7 = lN (enc 27 (nmP tp q (p - q)))) → aBM (d + 1) 6 Q 57 [some (.ref 1000), none] [] T := by
    refine rn_ind2 (P := isLt) (tp := tp) (M := fun p => ∀ T, q ≤ p → rnT isLt tp p = rnT isLt tp q → frM noC tkF S T → gi T 1000 5 = nI q → gi T 1000 4 = nI p → (p - q ≤ 8 → gl T 1000 7 = lN (enc 27 (nmP tp q (p - q)))) → aBM (d + 1) 6 Q 57 [some (.ref 1000), none] [] T) (fun p hP ih T g0 g1 g2 g3 g4 g5 => ?_) (fun p hP T g0 g1 g2 g3 g4 g5 => ?_) rfl
    · have hp : p < tp.length := sg_in (P := isLt) rfl hP
      have zT := hs.kept g2 (fun q => q) (by unfold tkF; omega)
      have hb := of_decide_eq_true hP
      refine bM_nextToken_57 ?_
      rw [g4]
      refine wM_signAt ht zT (by omega) ⟨fun c => absurd c (nI_nlt (b := 97) (by omega) (by omega)), fun _ => ?_⟩
      rw [g4]
      refine wM_signAt ht zT (by omega) ⟨fun c => absurd c (nI_nlt (a := 122) (by omega) (by decide)), fun _ => ?_⟩
      rw [g4, g3, nI_subN g0, show (8 : Int32) = nI 8 from rfl, nI_leI (by decide) (by omega), nI_1 p]
      refine ⟨fun c8 => ih _ (by omega) (by rw [← g1, rn_go hp hP]) (g2.tr (frM_si ⟨by decide, by decide⟩)) ?_ ?_ (fun c => absurd c (by omega)), fun c8 => wM_signAt ht zT (by omega) ?_⟩
      · rw [gi_si, if_neg (by decide)]; exact g3
      · rw [gi_si, if_pos ⟨rfl, rfl⟩]
      · refine ih _ (by omega) (by rw [← g1, rn_go hp hP]) (g2.tr (frM.tr (frM_sl ⟨by decide, by decide⟩) (frM_si ⟨by decide, by decide⟩))) ?_ ?_ (fun c => ?_)
        · rw [gi_si, if_neg (by decide)]; exact g3
        · rw [gi_si, if_pos ⟨rfl, rfl⟩, gi_sl, g4, nI_1]
        · rw [gl_si, gl_sl, if_pos ⟨rfl, rfl⟩, g5 (by omega), let_w _ (by omega) (by omega), show p + 1 - q = (p - q) + 1 by omega, nmP_1, enc_snoc, show q + (p - q) = p by omega, show (27 : Int64) = lN 27 from rfl, lN_mul, lN_add]
    · have e : rnT isLt tp q = p := by rw [← g1, rn_no (fun q => hP q.2)]
      have zT := hs.kept g2 (fun q => q) (by unfold tkF; omega)
      have fin : aBM (d + 1) 6 Q 97 [some (.ref 1000), none] [] T := h T g2 g3 (by rw [g4, e]) (by rw [e]; exact g5)
      have hle := @sg_le tp p ht
      have hpl : p ≤ tp.length := by rw [← e]; exact rn_le hl
      refine bM_nextToken_57 ?_
      rw [g4]
      refine wM_signAt ht zT (by omega) ⟨fun _ => fin, fun c => ?_⟩
      rw [g4]
      refine wM_signAt ht zT (by omega) ⟨fun _ => fin, fun c2 => absurd (decide_eq_true ⟨?_, ?_⟩) hP⟩
      · rw [show (97 : Int32) = nI 97 from rfl, nI_ltI (by omega) (by decide)] at c
        omega
      · rw [show (122 : Int32) = nI 122 from rfl, nI_ltI (by decide) (by omega)] at c2
        omega
  exact loop (tp.length - q) q (by omega) S (Nat.le_refl _) rfl frM.rf h5 h4 (fun _ => by rw [h7, Nat.sub_self]; rfl)
theorem wM_digits (ht : okT tp) (hs : szM tp S) (h4 : gi S 1000 4 = nI q) (h5 : gi S 1000 5 = nI q) (h7 : gi S 1000 8 = 0) (hl : q ≤ tp.length) (h : ∀ S', frM noC tkF S S' → gi S' 1000 5 = nI q → gi S' 1000 4 = nI (rnT isDg tp q) → (rnT isDg tp q - q ≤ 4 → gi S' 1000 8 = nI (nvP tp q (rnT isDg tp q - q))) → aBM (d + 1) 6 Q 155 [some (.ref 1000), none] [] S') : aBM (d + 1) 6 Q 116 [some (.ref 1000), none] [] S := by
  have h1 := ht.1
  have loop : ∀ n p, p + n = tp.length → ∀ T, q ≤ p → rnT isDg tp p = rnT isDg tp q → frM noC tkF S T → gi T 1000 5 = nI q → gi T 1000 4 = nI p → (p - q ≤ 4 → gi T 1000 8 = nI (nvP tp q (p - q))) → aBM (d + 1) 6 Q 116 [some (.ref 1000), none] [] T := by
    refine rn_ind2 (P := isDg) (tp := tp) (M := fun p => ∀ T, q ≤ p → rnT isDg tp p = rnT isDg tp q → frM noC tkF S T → gi T 1000 5 = nI q → gi T 1000 4 = nI p → (p - q ≤ 4 → gi T 1000 8 = nI (nvP tp q (p - q))) → aBM (d + 1) 6 Q 116 [some (.ref 1000), none] [] T) (fun p hP ih T g0 g1 g2 g3 g4 g5 => ?_) (fun p hP T g0 g1 g2 g3 g4 g5 => ?_) rfl
    · have hp : p < tp.length := sg_in (P := isDg) rfl hP
      have zT := hs.kept g2 (fun q => q) (by unfold tkF; omega)
      have hb := of_decide_eq_true hP
      refine bM_nextToken_116 ?_
      rw [g4]
      refine wM_signAt ht zT (by omega) ⟨fun c => absurd c (nI_nlt (b := 48) (by omega) (by omega)), fun _ => ?_⟩
      rw [g4]
      refine wM_signAt ht zT (by omega) ⟨fun c => absurd c (nI_nlt (a := 57) (by omega) (by decide)), fun _ => ?_⟩
      rw [g4, g3, nI_subN g0, show (4 : Int32) = nI 4 from rfl, nI_leI (by decide) (by omega), nI_1 p]
      refine ⟨fun c8 => ih _ (by omega) (by rw [← g1, rn_go hp hP]) (g2.tr (frM_si ⟨by decide, by decide⟩)) ?_ ?_ (fun c => absurd c (by omega)), fun c8 => wM_signAt ht zT (by omega) ?_⟩
      · rw [gi_si, if_neg (by decide)]; exact g3
      · rw [gi_si, if_pos ⟨rfl, rfl⟩]
      · refine ih _ (by omega) (by rw [← g1, rn_go hp hP]) (g2.tr (frM.tr (frM_si ⟨by decide, by decide⟩) (frM_si ⟨by decide, by decide⟩))) ?_ ?_ (fun c => ?_)
        · rw [gi_si, if_neg (by decide), gi_si, if_neg (by decide)]; exact g3
        · rw [gi_si, if_pos ⟨rfl, rfl⟩, gi_si, if_neg (by decide), g4, nI_1]
        · rw [gi_si, if_neg (by decide), gi_si, if_pos ⟨rfl, rfl⟩, g5 (by omega), dig_w _ (by omega) (by omega), show p + 1 - q = (p - q) + 1 by omega, nvP_1, show q + (p - q) = p by omega, show (10 : Int32) = nI 10 from rfl, nI_mulN, nI_add]
    · have e : rnT isDg tp q = p := by rw [← g1, rn_no (fun q => hP q.2)]
      have zT := hs.kept g2 (fun q => q) (by unfold tkF; omega)
      have fin : aBM (d + 1) 6 Q 155 [some (.ref 1000), none] [] T := h T g2 g3 (by rw [g4, e]) (by rw [e]; exact g5)
      have hle := @sg_le tp p ht
      have hpl : p ≤ tp.length := by rw [← e]; exact rn_le hl
      refine bM_nextToken_116 ?_
      rw [g4]
      refine wM_signAt ht zT (by omega) ⟨fun _ => fin, fun c => ?_⟩
      rw [g4]
      refine wM_signAt ht zT (by omega) ⟨fun _ => fin, fun c2 => absurd (decide_eq_true ⟨?_, ?_⟩) hP⟩
      · rw [show (48 : Int32) = nI 48 from rfl, nI_ltI (by omega) (by decide)] at c
        omega
      · rw [show (57 : Int32) = nI 57 from rfl, nI_ltI (by decide) (by omega)] at c2
        omega
  exact loop (tp.length - q) q (by omega) S (Nat.le_refl _) rfl frM.rf h5 h4 (fun _ => by rw [h7, Nat.sub_self]; rfl)
end
