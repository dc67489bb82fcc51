/-! the tokens of the class -/
theorem tp_ga {tp : List Nat} {S : aS} {k : Nat} (h : tpX tp S) (hk : k < tp.length) : ga S 2 k = nI (sgT tp k) := h.2 k _ (sgT_at hk)
theorem sg_ok {tp : List Nat} {k : Nat} (h : okT tp) (hk : k < tp.length) : sgT tp k = 10 ∨ (32 ≤ sgT tp k ∧ sgT tp k ≤ 126) := h.2 _ (List.mem_of_getElem? (sgT_at hk))
theorem asl_6 : ∀ k, k < 100 → asl (2200 + k) ≤ 6 := by decide +kernel
def frK (S S' : aS) : Prop := (∀ i k, ¬ (i = 1 ∧ (k = 2 ∨ k = 3 ∨ k = 5)) → gi S' i k = gi S i k) ∧ (∀ i k, ¬ (i = 1 ∧ k = 6) → gl S' i k = gl S i k) ∧ (∀ i k, ¬ (i = 1 ∧ k = 4) → gr S' i k = gr S i k) ∧ (∀ i k, ga S' i k = ga S i k) ∧ ∀ i k, gb S' i k = gb S i k
theorem frK.rf {S : aS} : frK S S := ⟨fun _ _ _ => rfl, fun _ _ _ => rfl, fun _ _ _ => rfl, fun _ _ => rfl, fun _ _ => rfl⟩
theorem frK.tr {S S1 S2 : aS} (h : frK S S1) (g : frK S1 S2) : frK S S2 := ⟨fun i k q => (g.1 i k q).trans (h.1 i k q), fun i k q => (g.2.1 i k q).trans (h.2.1 i k q), fun i k q => (g.2.2.1 i k q).trans (h.2.2.1 i k q), fun i k => (g.2.2.2.1 i k).trans (h.2.2.2.1 i k), fun i k => (g.2.2.2.2 i k).trans (h.2.2.2.2 i k)⟩
theorem frK_si {S : aS} {k : Nat} {v : Int32} (h : k = 2 ∨ k = 3 ∨ k = 5) : frK S (si S 1 k v) := ⟨fun i j q => by rw [gi_si, if_neg (show ¬ (i = 1 ∧ j = k) from fun c => q ⟨c.1, by omega⟩)], fun _ _ _ => rfl, fun _ _ _ => rfl, fun _ _ => rfl, fun _ _ => rfl⟩
theorem frK_sl {S : aS} {v : Int64} : frK S (sl S 1 6 v) := ⟨fun _ _ _ => rfl, fun i j q => by rw [gl_sl, if_neg q], fun _ _ _ => rfl, fun _ _ => rfl, fun _ _ => rfl⟩
theorem frK_sr {S : aS} {v : Nat} : frK S (sr S 1 4 v) := ⟨fun _ _ _ => rfl, fun _ _ _ => rfl, fun i j q => by rw [gr_sr, if_neg q], fun _ _ => rfl, fun _ _ => rfl⟩
theorem frK.tp {S S' : aS} {tp : List Nat} (h : frK S S') (g : tpX tp S) : tpX tp S' := ⟨(h.1 1 1 (by omega)).trans g.1, fun k c hk => (h.2.2.2.1 2 k).trans (g.2 k c hk)⟩
theorem ws_iff {tp : List Nat} {S : aS} {p : Nat} (ht : okT tp) (hs : tpX tp S) (hp : gi S 1 2 = nI p) (hl : p ≤ tp.length) {A B : Prop} (hA : ¬ (p < tp.length ∧ isWs (sgT tp p) = true) → A) (hB : p < tp.length → isWs (sgT tp p) = true → B) : (((gi S 1 1) ≤ (gi S 1 2) → A) ∧ (¬ (gi S 1 1) ≤ (gi S 1 2) → (vp_in (gi S 1 2) 1000 ∧ ((((ga S 2 (gi S 1 2).toNatClampNeg) = 10 → B) ∧ (¬ (ga S 2 (gi S 1 2).toNatClampNeg) = 10 → (vp_in (gi S 1 2) 1000 ∧ (((¬ (ga S 2 (gi S 1 2).toNatClampNeg) = 32 → A) ∧ ((ga S 2 (gi S 1 2).toNatClampNeg) = 32 → B)))))))))) := by
  have h1 := ht.1
  rw [hs.1, hp, nI_leI (by omega) (by omega), nI_clamp (by omega)]
  refine ⟨fun c => hA (by omega), fun c => ?_⟩
  have hlt : p < tp.length := by omega
  have hv : vp_in (nI p) 1000 := nI_in (by omega) (by omega)
  have hb := sg_ok ht hlt
  rw [tp_ga hs hlt, show (10 : Int32) = nI 10 from rfl, show (32 : Int32) = nI 32 from rfl, nI_eq (by omega) (by decide), nI_eq (by omega) (by decide)]
  refine ⟨hv, fun c1 => hB hlt (decide_eq_true (Or.inl c1)), fun c1 => ⟨hv, fun c2 => hA (fun q => ?_), fun c2 => hB hlt (decide_eq_true (Or.inr c2))⟩⟩
  have := of_decide_eq_true q.2
  omega
def tkX (tp : List Nat) (q : Nat) (S : aS) : Prop := tpX tp S ∧ gi S 1 3 = nI q ∧ gi S 1 2 = nI (enT tp q) ∧ gr S 1 4 = 2000 + srT tp q ∧ (srT tp q = 2 → gi S 1 5 = nI (nvT tp q)) ∧ (srT tp q = 3 → gl S 1 6 = lN (enc 32 (nmT tp q)))
section
variable {d : Nat} {Q : Value → aS → Prop} {S : aS} {tp : List Nat} {p q : Nat}
theorem wX_isLetter (ht : okT tp) (hs : tpX tp S) (hp : p < 2 ^ 31) (h : Q (.int (if p < tp.length ∧ isLt (sgT tp p) = true then 1 else 0)) S) : aWX (d + 1) 114 [.ref 1, .int (nI p)] S Q := by
  have h1 := ht.1
  refine mX_Tokens_isLetter ⟨fun c => absurd c (nI_pos hp), fun _ => ?_⟩
  rw [hs.1, nI_leI (by omega) hp, nI_clamp hp]
  refine ⟨fun c => ⟨Or.inl rfl, ?_⟩, fun c => ⟨nI_in (by omega) (by omega), ?_⟩⟩
  · rw [if_neg (by omega)] at h; exact h
  · have hlt : p < tp.length := by omega
    have hb := sg_ok ht hlt
    rw [tp_ga hs hlt, show (97 : Int32) = nI 97 from rfl, show (122 : Int32) = nI 122 from rfl, nI_ltI (by omega) (by decide), nI_ltI (by decide) (by omega)]
    refine ⟨fun c1 => ⟨Or.inl rfl, ?_⟩, fun c1 => ⟨nI_in (by omega) (by omega), fun c2 => ⟨Or.inl rfl, ?_⟩, fun c2 => ⟨Or.inr rfl, ?_⟩⟩⟩
    · rw [if_neg (fun q => by have := of_decide_eq_true q.2; omega)] at h; exact h
    · rw [if_neg (fun q => by have := of_decide_eq_true q.2; omega)] at h; exact h
    · rw [if_pos ⟨hlt, decide_eq_true ⟨by omega, by omega⟩⟩] at h; exact h
theorem wX_isDigit (ht : okT tp) (hs : tpX tp S) (hp : p < 2 ^ 31) (h : Q (.int (if p < tp.length ∧ isDg (sgT tp p) = true then 1 else 0)) S) : aWX (d + 1) 115 [.ref 1, .int (nI p)] S Q := by
  have h1 := ht.1
  refine mX_Tokens_isDigit ⟨fun c => absurd c (nI_pos hp), fun _ => ?_⟩
  rw [hs.1, nI_leI (by omega) hp, nI_clamp hp]
  refine ⟨fun c => ⟨Or.inl rfl, ?_⟩, fun c => ⟨nI_in (by omega) (by omega), ?_⟩⟩
  · rw [if_neg (by omega)] at h; exact h
  · have hlt : p < tp.length := by omega
    have hb := sg_ok ht hlt
    rw [tp_ga hs hlt, show (48 : Int32) = nI 48 from rfl, show (57 : Int32) = nI 57 from rfl, nI_ltI (by omega) (by decide), nI_ltI (by decide) (by omega)]
    refine ⟨fun c1 => ⟨Or.inl rfl, ?_⟩, fun c1 => ⟨nI_in (by omega) (by omega), fun c2 => ⟨Or.inl rfl, ?_⟩, fun c2 => ⟨Or.inr rfl, ?_⟩⟩⟩
    · rw [if_neg (fun q => by have := of_decide_eq_true q.2; omega)] at h; exact h
    · rw [if_neg (fun q => by have := of_decide_eq_true q.2; omega)] at h; exact h
    · rw [if_pos ⟨hlt, decide_eq_true ⟨by omega, by omega⟩⟩] at h; exact h
theorem let_v : ∀ c, c < 123 → 97 ≤ c → (((nI c - 97) + 1).toInt64) = lN (c - 96) := by decide +kernel
theorem dig_v : ∀ c, c < 58 → 48 ≤ c → (nI c - 48) = nI (c - 48) := by decide +kernel
theorem wX_takeLetters (ht : okT tp) (hs : tpX tp S) (hq : gi S 1 2 = nI q) (hl : q ≤ tp.length) (h : ∀ S', frK S S' → gi S' 1 3 = gi S 1 3 → gi S' 1 2 = nI (rnT isLt tp q) → gl S' 1 6 = lN (enc 32 (nmP tp q (rnT isLt tp q - q))) → Q .null S') : aWX (d + 2) 110 [.ref 1] S Q := by
  have h1 := ht.1
  refine mX_Tokens_takeLetters ?_
  have loop : ∀ n p, p + n = tp.length → ∀ T, q ≤ p → rnT isLt tp p = rnT isLt tp q → frK S T → gi T 1 3 = gi S 1 3 → gi T 1 2 = nI p → gl T 1 6 = lN (enc 32 (nmP tp q (p - q))) → aBX (d + 1) 110 Q 3 [some (.ref 1)] [] T := by
    refine rn_ind (P := isLt) (tp := tp) (M := fun p => ∀ T, q ≤ p → rnT isLt tp p = rnT isLt tp q → frK S T → gi T 1 3 = gi S 1 3 → gi T 1 2 = nI p → gl T 1 6 = lN (enc 32 (nmP tp q (p - q))) → aBX (d + 1) 110 Q 3 [some (.ref 1)] [] T) (fun p hp hP ih T g0 g1 g2 g3 g4 g5 => ?_) (fun p hp hP T g0 g1 g2 g3 g4 g5 => ?_)
    · refine bX_Tokens_takeLetters_3 ?_
      have tpT := g2.tp hs
      have hb := of_decide_eq_true hP
      rw [tpT.1, g4, nI_leI (by omega) (by omega)]
      refine ⟨fun c => absurd c (by omega), fun _ => wX_isLetter ht tpT (by omega) ?_⟩
      rw [if_pos ⟨hp, hP⟩]
      refine ⟨fun c => absurd c (by decide), fun _ => ?_⟩
      rw [g4, nI_clamp (by omega), tp_ga tpT hp, g5, let_v _ (by omega) (by omega)]
      refine ⟨nI_in (by omega) (by omega), ih _ (by omega) (by rw [← g1, rn_go hp hP]) (g2.tr (frK_sl.tr (frK_si (Or.inl rfl)))) ?_ ?_ ?_⟩
      · rw [gi_si, if_neg (by decide), gi_sl]; exact g3
      · rw [gi_si, if_pos ⟨rfl, rfl⟩, gi_sl, g4, nI_1]
      · rw [gl_si, gl_sl, if_pos ⟨rfl, rfl⟩, show p + 1 - q = (p - q) + 1 by omega, nmP_1, enc_snoc, show q + (p - q) = p by omega, show (32 : Int64) = lN 32 from rfl, lN_mul, lN_add]
    · have e : rnT isLt tp q = p := by rw [← g1, rn_no hP]
      have fin : Q .null T := h T g2 g3 (by rw [g4, e]) (by rw [g5, e])
      have tpT := g2.tp hs
      refine bX_Tokens_takeLetters_3 ?_
      rw [tpT.1, g4, nI_leI (by omega) (by omega)]
      refine ⟨fun _ => fin, fun c => wX_isLetter ht tpT (by omega) ?_⟩
      rw [if_neg hP]
      exact ⟨fun _ => fin, fun c => absurd rfl c⟩
  exact loop (tp.length - q) q (by omega) _ (Nat.le_refl _) rfl frK_sl rfl hq (by rw [gl_sl, if_pos ⟨rfl, rfl⟩, Nat.sub_self]; rfl)
theorem wX_takeDigits (ht : okT tp) (hs : tpX tp S) (hq : gi S 1 2 = nI q) (hl : q ≤ tp.length) (h : ∀ S', frK S S' → gi S' 1 3 = gi S 1 3 → gi S' 1 2 = nI (rnT isDg tp q) → gi S' 1 5 = nI (nvP tp q (rnT isDg tp q - q)) → Q .null S') : aWX (d + 2) 111 [.ref 1] S Q := by
  have h1 := ht.1
  refine mX_Tokens_takeDigits ?_
  have loop : ∀ n p, p + n = tp.length → ∀ T, q ≤ p → rnT isDg tp p = rnT isDg tp q → frK S T → gi T 1 3 = gi S 1 3 → gi T 1 2 = nI p → gi T 1 5 = nI (nvP tp q (p - q)) → aBX (d + 1) 111 Q 3 [some (.ref 1)] [] T := by
    refine rn_ind (P := isDg) (tp := tp) (M := fun p => ∀ T, q ≤ p → rnT isDg tp p = rnT isDg tp q → frK S T → gi T 1 3 = gi S 1 3 → gi T 1 2 = nI p → gi T 1 5 = nI (nvP tp q (p - q)) → aBX (d + 1) 111 Q 3 [some (.ref 1)] [] T) (fun p hp hP ih T g0 g1 g2 g3 g4 g5 => ?_) (fun p hp hP T g0 g1 g2 g3 g4 g5 => ?_)
    · refine bX_Tokens_takeDigits_3 ?_
      have tpT := g2.tp hs
      have hb := of_decide_eq_true hP
      rw [tpT.1, g4, nI_leI (by omega) (by omega)]
      refine ⟨fun c => absurd c (by omega), fun _ => wX_isDigit ht tpT (by omega) ?_⟩
      rw [if_pos ⟨hp, hP⟩]
      refine ⟨fun c => absurd c (by decide), fun _ => ?_⟩
      rw [g4, nI_clamp (by omega), tp_ga tpT hp, g5, dig_v _ (by omega) (by omega)]
      refine ⟨nI_in (by omega) (by omega), ih _ (by omega) (by rw [← g1, rn_go hp hP]) (g2.tr ((frK_si (Or.inr (Or.inr rfl))).tr (frK_si (Or.inl rfl)))) ?_ ?_ ?_⟩
      · rw [gi_si, if_neg (by decide), gi_si, if_neg (by decide)]; exact g3
      · rw [gi_si, if_pos ⟨rfl, rfl⟩, gi_si, if_neg (by decide), g4, nI_1]
      · rw [gi_si, if_neg (by decide), gi_si, if_pos ⟨rfl, rfl⟩, show p + 1 - q = (p - q) + 1 by omega, nvP_1, show q + (p - q) = p by omega, show (10 : Int32) = nI 10 from rfl, nI_mulN, nI_add]
    · have e : rnT isDg tp q = p := by rw [← g1, rn_no hP]
      have fin : Q .null T := h T g2 g3 (by rw [g4, e]) (by rw [g5, e])
      have tpT := g2.tp hs
      refine bX_Tokens_takeDigits_3 ?_
      rw [tpT.1, g4, nI_leI (by omega) (by omega)]
      refine ⟨fun _ => fin, fun c => wX_isDigit ht tpT (by omega) ?_⟩
      rw [if_neg hP]
      exact ⟨fun _ => fin, fun c => absurd rfl c⟩
  exact loop (tp.length - q) q (by omega) _ (Nat.le_refl _) rfl (frK_si (Or.inr (Or.inr rfl))) (by rw [gi_si, if_neg (by decide)]) (by rw [gi_si, if_neg (by decide)]; exact hq) (by rw [gi_si, if_pos ⟨rfl, rfl⟩, Nat.sub_self]; rfl)
end
