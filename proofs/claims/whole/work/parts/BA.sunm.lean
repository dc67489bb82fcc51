/-! Sundays told: a line, the reference -/
def snA (i k : Nat) : Prop := (i = 1027 ∧ k = 5) ∨ ((i = 1028 ∨ i = 1029) ∧ 200 ≤ k)
def snG (k : Nat) : Prop := (3 ≤ k ∧ k ≤ 9) ∨ k = 38 ∨ k = 39
def frN (S S' : aS) : Prop := (∀ i k, ¬ snA i k → ga S' i k = ga S i k) ∧ (∀ i k, gb S' i k = gb S i k) ∧ ∀ k, ¬ snG k → gi S' 1000 k = gi S 1000 k
theorem frN.rf {S : aS} : frN S S := ⟨fun _ _ _ => rfl, fun _ _ => rfl, fun _ _ => rfl⟩
theorem frN.tr {S S1 S2 : aS} (h : frN S S1) (g : frN S1 S2) : frN S S2 := ⟨fun i k q => (g.1 i k q).trans (h.1 i k q), fun i k => (g.2.1 i k).trans (h.2.1 i k), fun k q => (g.2.2 k q).trans (h.2.2 k q)⟩
theorem frN_er {S S' : aS} (h : frM noC erF S S') : frN S S' := ⟨fun i k _ => h.1 i k (fun q => q), fun i k => h.2.1 i k (fun q => q), fun k q => h.2.2.1 k (fun c => q (by unfold erF nwF tkF at c; unfold snG; omega))⟩
theorem frN_nw {S S' : aS} (h : frM noC nwF S S') : frN S S' := frN_er (er_nw h)
theorem frN_tk {S S' : aS} (h : frM noC tkF S S') : frN S S' := frN_nw (nw_tk h)
theorem frN_sa {S : aS} {i k : Nat} {v : Int32} (h : snA i k) : frN S (sa S i k v) := ⟨fun j m q => by rw [ga_sa, if_neg (fun c => q (by rw [c.1, c.2]; exact h))], fun _ _ => rfl, fun _ _ => rfl⟩
theorem frN_9 {S T : aS} {v : Int32} (h : frN S T) : frN S (si T 1000 9 v) ∧ gi (si T 1000 9 v) 1000 9 = v := ⟨h.tr (frN_er frM_err), by rw [gi_si, if_pos ⟨rfl, rfl⟩]⟩
theorem RM_S {r : zR} {S S' : aS} (h : RM r S) (f : frN S S') : RM r S' := by
  have fM : frM (fun i => 1027 ≤ i) noC S (S.1, S.2.1, S'.2.2.1, S'.2.2.2.1, S'.2.2.2.2) := ⟨fun i k hi => f.1 i k (fun z => hi (by unfold snA at z; omega)), fun i k _ => f.2.1 i k, fun _ _ => rfl, fun _ _ => rfl⟩
  have := h.kept fM (fun i (hi : 1027 ≤ i) => by omega)
  exact this
def mS (tp : List Nat) (r : zR) (ls : List zL) (q : Nat) (o : zQ) : Prop := ∀ d Q S, RM r S → lsM ls S 5 → tkM tp q S → (∀ v S', o = .inl v → frN S S' → gi S' 1000 9 = v → Q (.int 0) S') → (∀ ls' q1 S', o = .inr (ls', q1) → srT tp q1 = 32 → frN S S' → lsM ls' S' 5 → tkM tp (nxT tp q1) S' → Q (.int 1) S') → (∀ ls' q1 S', o = .inr (ls', q1) → ¬ srT tp q1 = 32 → frN S S' → gi S' 1000 9 = 1 + 16 * nI q1 → Q (.int 0) S') → aWM (d + 6) 36 [.ref 1000] S Q
section
variable {d : Nat} {Q : Value → aS → Prop} {S : aS} {r : zR} {tp : List Nat} {q : Nat} {ls : List zL}
theorem lsM_S {S' : aS} (h : lsM ls S 5) (h27 : ga S' 1027 5 = ga S 1027 5) (h28 : ∀ k, k < 200 + ls.length → ga S' 1028 k = ga S 1028 k) (h29 : ∀ k, k < 200 + ls.length → ga S' 1029 k = ga S 1029 k) : lsM ls S' 5 := ⟨h27.trans h.1, fun k l hk => by
  have := (List.getElem?_eq_some_iff.mp hk).1
  exact ⟨(h28 _ (by omega)).trans (h.2 k l hk).1, fun c => (h29 _ (by omega)).trans ((h.2 k l hk).2 c)⟩⟩
/-- the line laid, the end wanted -/
theorem M_push {T : aS} {l : zL} {q1 : Nat} (ht : okT tp) (hn : ls.length < 40) (hp : plT tp q1) (f : frN S T) (hT : lsM ls T 5) (h28 : ga T 1028 (200 + ls.length) = nI l.1) (h38 : l.1 ≤ 1 → gi T 1000 38 = nI l.2) (t1 : tkM tp q1 T) (h1 : srT tp q1 = 32 → ∀ S', frN S S' → lsM (ls ++ [l]) S' 5 → tkM tp (nxT tp q1) S' → Q (.int 1) S') (h0 : ¬ srT tp q1 = 32 → ∀ S', frN S S' → gi S' 1000 9 = 1 + 16 * nI q1 → Q (.int 0) S') : aBM (d + 5) 36 Q 71 [some (.ref 1000), none, some (.int (nI (200 + ls.length)))] [] T := by
  refine bM_readsLine_71 ?_
  rw [nI_clamp (by omega), c5, ga_sa, if_neg (by omega), hT.1, nI_1]
  refine ⟨nI_in (by omega) (by decide), vin (by decide), vin (by decide), ?_⟩
  have u : frN S (sa (sa T 1029 (200 + ls.length) (gi T 1000 38)) 1027 5 (nI (ls.length + 1))) := (f.tr (frN_sa (by unfold snA; omega))).tr (frN_sa (by unfold snA; omega))
  have hU : lsM (ls ++ [l]) (sa (sa T 1029 (200 + ls.length) (gi T 1000 38)) 1027 5 (nI (ls.length + 1))) 5 := by
    refine ⟨by rw [ga_sa, if_pos ⟨rfl, rfl⟩, List.length_append]; rfl, fun k x hk => ?_⟩
    have hlt := (List.getElem?_eq_some_iff.mp hk).1
    rw [List.length_append] at hlt
    have hlt : k < ls.length + 1 := hlt
    rw [ga_sa, if_neg (by omega), ga_sa, if_neg (by omega), ga_sa, if_neg (by omega), ga_sa]
    by_cases c : k = ls.length
    · subst c
      rw [List.getElem?_append_right (Nat.le_refl _), Nat.sub_self] at hk
      cases hk
      exact ⟨h28, fun z => by rw [if_pos ⟨rfl, rfl⟩]; exact h38 z⟩
    · rw [List.getElem?_append_left (by omega)] at hk
      rw [if_neg (by omega)]
      exact hT.2 k x hk
  refine wM_closes ht (tk_sa (tk_sa t1 (by decide)) (by decide)) hp (fun e S' f' t' => ⟨Or.inr rfl, h1 e S' (u.tr (frN_tk f')) ?_ t'⟩) (fun e => ⟨Or.inl rfl, h0 e _ (frN_9 u).1 (frN_9 u).2⟩)
  exact lsM_S hU (f'.1 _ _ (fun z => z)) (fun k _ => f'.1 _ k (fun z => z)) (fun k _ => f'.1 _ k (fun z => z))
theorem M_sunLine (ht : okT tp) (hr : okR r) (hn : okN r) (hl : plT tp q) (hol : okL r ls) : mS tp r ls q (snF tp r ls q) := by
  intro d Q S hR hL hs hE h1 h0
  have h40 := hol.1
  have h12 := hr.2.1
  have l1 := plT_nx hl
  have bad : ¬ (srT tp q = 15 ∨ srT tp q = 16 ∨ srT tp q = 17) → aBM (d + 5) 36 Q 19 [some (.ref 1000), none, none] [.int (-1)] S := fun h3 => bM_readsLine_19 ⟨fun z => absurd z (by decide), fun _ => wM_fail hs ⟨Or.inl rfl, hE _ _ (by unfold snF; rw [cI_f h3]) (frN_9 frN.rf).1 (frN_9 frN.rf).2⟩⟩
  have go : ∀ w : Nat, w ≤ 2 → srT tp q = 15 + w → aBM (d + 5) 36 Q 19 [some (.ref 1000), none, none] [.int (nI w)] S := by
    intro w hw hq
    have h3 : srT tp q = 15 ∨ srT tp q = 16 ∨ srT tp q = 17 := by omega
    have n1 := nx_gt (lt_sr hl (by omega))
    refine bM_readsLine_19 ⟨fun _ => ⟨vin (by decide), ?_⟩, fun z => absurd (nI_pos' (by omega)) z⟩
    rw [c5, hL.1, show nI ls.length = (40 : Int32) ↔ ls.length = 40 from nI_eq (a := ls.length) (b := 40) (by omega) (by decide)]
    refine ⟨fun c40 => ?_, fun c40 => wM_fail hs ⟨Or.inl rfl, hE _ _ (by unfold snF; rw [cI_t h3, cI_t c40]) (frN_9 frN.rf).1 (frN_9 frN.rf).2⟩⟩
    refine wM_nx ht hs hl (fun S2 f2 t2 => ?_)
    have e27 : ga S2 1027 5 = nI ls.length := (f2.1 _ _ (fun z => z)).trans hL.1
    have e200 : (200 : Int32) + nI ls.length = nI (200 + ls.length) := nI_add 200 _
    have u2 : frN S S2 := frN_tk f2
    have L2 : lsM ls S2 5 := lsM_S hL (f2.1 _ _ (fun z => z)) (fun k _ => f2.1 _ k (fun z => z)) (fun k _ => f2.1 _ k (fun z => z))
    show vp_in (5 : Int32) 6 ∧ _
    rw [e27, e200, nI_clamp (show 200 + ls.length < 2 ^ 31 by omega), show nI w = (0 : Int32) ↔ w = 0 from nI_eq0 (by omega), show nI w = (1 : Int32) ↔ w = 1 from nI_eq (a := w) (b := 1) (by omega) (by decide)]
    have u3 : frN S (sa S2 1028 (200 + ls.length) (nI w)) := u2.tr (frN_sa (by unfold snA; omega))
    have L3 : lsM ls (sa S2 1028 (200 + ls.length) (nI w)) 5 := lsM_S L2 (by rw [ga_sa, if_neg (by omega)]) (fun k hk => by rw [ga_sa, if_neg (by omega)]) (fun k hk => by rw [ga_sa, if_neg (by omega)])
    have t3 : tkM tp (nxT tp q) (sa S2 1028 (200 + ls.length) (nI w)) := tk_sa t2 (by decide)
    have e28 : ga (sa S2 1028 (200 + ls.length) (nI w)) 1028 (200 + ls.length) = nI w := by rw [ga_sa, if_pos ⟨rfl, rfl⟩]
    have R3 : RM r (sa S2 1028 (200 + ls.length) (nI w)) := RM_S hR u3
    generalize sa S2 1028 (200 + ls.length) (nI w) = T at u3 L3 t3 e28 R3 ⊢
    refine ⟨vin (by decide), nI_in (by omega) (by decide), fun w0 => ⟨fun w1 => ?_, fun w1 => ?_⟩, fun w0 => ?_⟩
    · obtain rfl : w = 2 := by omega
      have s15 : ¬ srT tp q = 15 := by omega
      have s16 : ¬ srT tp q = 16 := by omega
      have out : snF tp r ls q = .inr (ls ++ [(2, 0)], nxT tp q) := by
        unfold snF
        rw [cI_t h3, cI_f c40, cI_f s15, cI_f s16]
      exact M_push (l := (2, 0)) ht (by omega) l1 u3 L3 e28 (fun z => absurd z (by decide)) t3 (fun e S' a b c => h1 _ _ S' out e a b c) (fun e S' a b => h0 _ _ S' out e a b)
    · obtain rfl : w = 1 := by omega
      have s15 : ¬ srT tp q = 15 := by omega
      have s16 : srT tp q = 16 := by omega
      show aWM (d + 5) 20 [.ref 1000, .int (nI 0), .int (nI 9)] T _
      refine wM_needsNumber ht t3 l1 (by decide) (by decide) (fun c1 c2 c3 S5 f5 t5 x5 y5 => ⟨fun _ => ?_, fun z => absurd z (by decide)⟩) (fun c1 c2 => ⟨fun z => absurd rfl z, fun _ => ⟨Or.inl rfl, hE _ _ (by unfold snF; rw [cI_t h3, cI_f c40, cI_f s15, cI_t s16, cI_t c1, cI_f c2]) (frN_9 u3).1 (frN_9 u3).2⟩⟩) (fun c1 => ⟨fun z => absurd rfl z, fun _ => ⟨Or.inl rfl, hE _ _ (by unfold snF; rw [cI_t h3, cI_f c40, cI_f s15, cI_t s16, cI_f c1]) (frN_9 u3).1 (frN_9 u3).2⟩⟩)
      have out : snF tp r ls q = .inr (ls ++ [(1, nvT tp (nxT tp q))], nx2 tp q) := by
        unfold snF
        rw [cI_t h3, cI_f c40, cI_f s15, cI_t s16, cI_t c1, cI_t ⟨c2, c3⟩]
      exact M_push (l := (1, nvT tp (nxT tp q))) (q1 := nx2 tp q) ht (by omega) (plT_nx l1) (u3.tr (frN_nw f5)) (lsM_S L3 (f5.1 _ _ (fun z => z)) (fun k _ => f5.1 _ k (fun z => z)) (fun k _ => f5.1 _ k (fun z => z))) ((f5.1 _ _ (fun z => z)).trans e28) (fun _ => x5) t5 (fun e S' a b c => h1 _ _ S' out e a b c) (fun e S' a b => h0 _ _ S' out e a b)
    · obtain rfl : w = 0 := w0
      have s15 : srT tp q = 15 := by omega
      show aWM (d + 5) 24 [.ref 1000, .int (nI 0)] T _
      refine wM_needsTold (u := 0) (n := rWd r) (f := rNm r) ht t3 l1 (by decide) h12 R3.1.2.1 (fun k hk => nmS_of hn hk) (fun k hk => by rw [show 12 * 0 + k = k by omega]; exact R3.2.2.2.2 k hk) (fun e k hk fk => ⟨fun _ => ?_, fun z => absurd z (by decide)⟩) (fun e fk S' f' e' => ⟨fun z => absurd rfl z, fun _ => ⟨Or.inl rfl, hE _ _ (by unfold snF; rw [cI_t h3, cI_f c40, cI_t s15, cI_t e, fk]) (u3.tr (frN_er f')) e'⟩⟩) (fun e S' f' e' => ⟨fun z => absurd rfl z, fun _ => ⟨Or.inl rfl, hE _ _ (by unfold snF; rw [cI_t h3, cI_f c40, cI_t s15, cI_f e]) (u3.tr (frN_er f')) e'⟩⟩)
      have out : snF tp r ls q = .inr (ls ++ [(0, k)], nx2 tp q) := by
        unfold snF
        rw [cI_t h3, cI_f c40, cI_t s15, cI_t e, fk]
      refine wM_nx ht (tk_si t3 (by decide)) l1 (fun S5 f5 t5 => ?_)
      show aBM (d + 5) 36 Q 71 [some (.ref 1000), none, some (.int (nI (200 + ls.length)))] [] S5
      have a5 : ∀ i k, ga S5 i k = ga T i k := fun i k => by rw [f5.1 i k (fun z => z), ga_si]
      exact M_push (l := (0, k)) (q1 := nx2 tp q) ht (by omega) (plT_nx l1) ((u3.tr (frN_nw f38)).tr (frN_tk f5)) (lsM_S L3 (a5 _ _) (fun k _ => a5 _ k) (fun k _ => a5 _ k)) ((a5 _ _).trans e28) (fun _ => by rw [f5.2.2.1 38 (by unfold tkF; omega), g38]) t5 (fun e S' a b c => h1 _ _ S' out e a b c) (fun e S' a b => h0 _ _ S' out e a b)
  refine mM_readsLine ?_
  refine wd_is (k := 15) ht hs hl (by decide) (by decide) rfl (fun e => ⟨fun z => absurd z (by decide), fun _ => go 0 (by decide) e⟩) (fun e15 => ⟨fun _ => ?_, fun z => absurd rfl z⟩)
  refine wd_is (k := 16) ht hs hl (by decide) (by decide) rfl (fun e => ⟨fun z => absurd z (by decide), fun _ => go 1 (by decide) e⟩) (fun e16 => ⟨fun _ => ?_, fun z => absurd rfl z⟩)
  exact wd_is (k := 17) ht hs hl (by decide) (by decide) rfl (fun e => ⟨fun z => absurd z (by decide), fun _ => go 2 (by decide) e⟩) (fun e17 => ⟨fun _ => bad (by omega), fun z => absurd rfl z⟩)
theorem wM_laysLines6 {a b : Nat} (ha : a < 6) (hb : b < 6) (hne : a ≠ b) (h : ∀ S', frM lnC noF S S' → (∀ k, ga S' 1027 k = if k = b then ga S 1027 a else ga S 1027 k) → cpA (ga S 1028) (ga S' 1028) (40 * a) (40 * b) 40 → cpA (ga S 1029) (ga S' 1029) (40 * a) (40 * b) 40 → Q .null S') : aWM (d + 1) 37 [.ref 1000, .int (nI a), .int (nI b)] S Q := by
  refine mM_laysLines ⟨nI_in (by omega) (by decide), nI_in (by omega) (by decide), ?_⟩
  rw [nI_clamp (by omega), nI_clamp (by omega)]
  have loop : ∀ m k T, k + m = 40 → frM lnC noF S T → (∀ k, ga T 1027 k = if k = b then ga S 1027 a else ga S 1027 k) → cpA (ga S 1028) (ga T 1028) (40 * a) (40 * b) k → cpA (ga S 1029) (ga T 1029) (40 * a) (40 * b) k → aBM d 37 Q 10 [some (.ref 1000), some (.int (nI a)), some (.int (nI b)), some (.int (nI k))] [] T := by
    intro m
    induction m with
    | zero =>
      intro k T hk h1 h2 h3 h4
      obtain rfl : k = 40 := by omega
      exact bM_laysLines_10 ⟨fun _ => h T h1 h2 h3 h4, fun q => absurd (show (40 : Int32) ≤ nI 40 by decide) q⟩
    | succ m ih =>
      intro k T hk h1 h2 h3 h4
      refine bM_laysLines_10 ⟨fun q => absurd q (nI_ge (a := k) (b := 40) (by omega) (by decide)), fun _ => ?_⟩
      have ea : (40 : Int32) * nI a + nI k = nI (40 * a + k) := by rw [show (40 : Int32) = nI 40 from rfl, nI_mulN, nI_add]
      have eb : (40 : Int32) * nI b + nI k = nI (40 * b + k) := by rw [show (40 : Int32) = nI 40 from rfl, nI_mulN, nI_add]
      rw [ea, eb, nI_clamp (by omega), nI_clamp (by omega), nI_1]
      refine ⟨nI_in (by omega) (by decide), nI_in (by omega) (by decide), nI_in (by omega) (by decide), nI_in (by omega) (by decide), ?_⟩
      refine ih (k + 1) _ (by omega) (frM.tr (frM.tr h1 (frM_sa ⟨by decide, by decide⟩)) (frM_sa ⟨by decide, by decide⟩)) (fun j => ?_) (cpA_1 h3 (N := 40) (by omega) (by omega) (fun j => ?_)) (cpA_1 h4 (N := 40) (by omega) (by omega) (fun j => ?_))
      · rw [ga_sa, if_neg (by omega), ga_sa, if_neg (by omega)]
        exact h2 j
      · rw [ga_sa, if_neg (by omega), ga_sa]
        by_cases c : j = 40 * b + k
        · rw [if_pos ⟨rfl, c⟩, if_pos c]
        · rw [if_neg (fun q => c q.2), if_neg c]
      · rw [ga_sa]
        by_cases c : j = 40 * b + k
        · rw [if_pos ⟨rfl, c⟩, if_pos c, ga_sa, if_neg (by omega)]
        · rw [if_neg (fun q => c q.2), if_neg c, ga_sa, if_neg (by omega)]
  refine loop 40 0 _ rfl (frM_sa ⟨by decide, by decide⟩) (fun k => ?_) (fun k => ?_) (fun k => ?_)
  · rw [ga_sa]
    by_cases c : k = b
    · rw [if_pos ⟨rfl, c⟩, if_pos c]
    · rw [if_neg (fun q => c q.2), if_neg c]
  · rw [ga_sa, if_neg (by omega)]
    exact cpA_0 k
  · rw [ga_sa, if_neg (by omega)]
    exact cpA_0 k
end
