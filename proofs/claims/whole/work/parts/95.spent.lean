/-! how many wholes can be: both sides -/
theorem zPut_le (r : zR) (z : zS) (w v : Nat) : zLe (zPut r z w) v = if v = w then zLe z v - 1 else zLe z v := by
  unfold zPut
  by_cases c : zWr z + 1 < rFo r
  · rw [if_pos c]; rfl
  · rw [if_neg c]
    show zLe (zCut (zGd (zLay z w) (zGo (zLay z w) + nI (doV r (zLay z w))))) v = _
    unfold zCut
    split <;> rfl
theorem zPut_wr (r : zR) (z : zS) (w : Nat) : zWr (zPut r z w) = if zWr z + 1 < rFo r then zWr z + 1 else 0 := by
  unfold zPut
  by_cases c : zWr z + 1 < rFo r
  · rw [if_pos c, if_pos c]; rfl
  · rw [if_neg c, if_neg c]; rfl
def totL (r : zR) (z : zS) : Nat := nSum (zLe z) (rWd r)
theorem nSum_dec {f : Nat → Nat} {w : Nat} (h0 : 0 < f w) : ∀ n, w < n → nSum (fun v => if v = w then f v - 1 else f v) n + 1 = nSum f n := by
  intro n
  induction n with
  | zero => intro h; exact absurd h (Nat.not_lt_zero _)
  | succ n ih =>
    intro h
    show nSum (fun v => if v = w then f v - 1 else f v) n + (if n = w then f n - 1 else f n) + 1 = nSum f n + f n
    rcases Nat.lt_or_ge w n with q | q
    · rw [if_neg (by omega)]
      have := ih q
      omega
    · obtain rfl : n = w := by omega
      rw [if_pos rfl, nSum_ext (g := f) n (fun k hk => if_neg (by omega))]
      omega
theorem totL_put {r : zR} {z : zS} {w : Nat} (hw : w < rWd r) (h0 : 0 < zLe z w) : totL r (zPut r z w) + 1 = totL r z := by
  unfold totL
  rw [← nSum_dec h0 (rWd r) hw, nSum_ext (rWd r) (fun k _ => zPut_le r z w k)]
def zAllN (r : zR) (y : Nat → Nat) : Nat → Nat → zS → zS
  | 0, _, z => z
  | n + 1, f, z => zAllN r y n (f + 1) (zPut r z (y f))
def zAll (r : zR) (z : zS) (y : Nat → Nat) : zS := zAllN r y (rFo r - zWr z) (zWr z) z
/-- these words can be written now, fold by fold -/
def canA (r : zR) (y : Nat → Nat) (f : Nat) (z : zS) : Prop := okZ r z ∧ zWr z = f ∧ rowW r y f ∧ ∀ i, f ≤ i → i < rFo r → 0 < zLe z (y i)
theorem canA_can {r : zR} {y : Nat → Nat} {f : Nat} {z : zS} (h : canA r y f z) (hf : f < rFo r) : y f < rWd r ∧ canW r z (y f) = true ∧ rFd r (y f) = zWr z ∧ 0 < zLe z (y f) := by
  obtain ⟨h1, h2, h3, h4⟩ := h
  obtain ⟨a, b⟩ := h3 f (Nat.le_refl _) hf
  have c := h4 f (Nat.le_refl _) hf
  refine ⟨a, ?_, by omega, c⟩
  unfold canW
  rw [decide_eq_true (show rFd r (y f) = zWr z by omega), decide_eq_true c]
  rfl
theorem canA_put {r : zR} {y : Nat → Nat} {f : Nat} {z : zS} (hr : okR r) (h : canA r y f z) (hf : f + 1 < rFo r) : canA r y (f + 1) (zPut r z (y f)) := by
  obtain ⟨a, b, c, e⟩ := canA_can h (by omega)
  obtain ⟨h1, h2, h3, h4⟩ := h
  refine ⟨okZ_put hr h1 a c, ?_, fun i q1 q2 => h3 i (by omega) q2, fun i q1 q2 => ?_⟩
  · rw [zPut_wr, if_pos (by omega), h2]
  · rw [zPut_le, if_neg (fun q => ?_)]
    · exact h4 i (by omega) q2
    · have := (h3 i (by omega) q2).2
      rw [q] at this
      omega
theorem zAllN_ok {r : zR} {y : Nat → Nat} (hr : okR r) : ∀ n f z, f + n = rFo r → 0 < n → canA r y f z → okZ r (zAllN r y n f z) ∧ zWr (zAllN r y n f z) = 0 ∧ totL r (zAllN r y n f z) < totL r z := by
  intro n
  induction n with
  | zero => intro f z _ h; exact absurd h (Nat.lt_irrefl 0)
  | succ n ih =>
    intro f z hf _ h
    obtain ⟨a, b, c, e⟩ := canA_can h (by omega)
    have ht := totL_put (r := r) a e
    unfold zAllN
    rcases Nat.eq_zero_or_pos n with q | q
    · subst q
      unfold zAllN
      refine ⟨okZ_put hr h.1 a c, ?_, by omega⟩
      rw [zPut_wr, if_neg (by have := h.2.1; omega)]
    · obtain ⟨i1, i2, i3⟩ := ih (f + 1) (zPut r z (y f)) (by omega) q (canA_put hr h (by omega))
      exact ⟨i1, i2, by omega⟩
theorem rowsL_left {r : zR} (z : zS) (s : Nat) : ∀ n f a A B pre, f + n = rFo r → ∀ x, x ∈ rowsL r z s n f a A B pre → (∀ i, i < f → x.1 i = pre i) ∧ ∀ i, f ≤ i → i < rFo r → 0 < zLe z (x.1 i) := by
  intro n
  induction n with
  | zero =>
    intro f a A B pre hf x hx
    unfold rowsL at hx
    rw [List.mem_singleton] at hx
    subst hx
    exact ⟨fun i _ => rfl, fun i h1 h2 => absurd h2 (by omega)⟩
  | succ n ih =>
    intro f a A B pre hf x hx
    unfold rowsL at hx
    obtain ⟨w, hw, hx⟩ := List.mem_flatMap.mp hx
    by_cases c : rFd r w = f ∧ ¬ lkV r (wWho r s f) (zLe z w) w a = 0
    · rw [if_pos c] at hx
      obtain ⟨i1, i2⟩ := ih _ _ _ _ _ (by omega) x hx
      refine ⟨fun i hi => ?_, fun i h1 h2 => ?_⟩
      · rw [i1 i (by omega)]
        unfold pup
        rw [if_neg (by omega)]
      · rcases Nat.lt_or_ge i (f + 1) with q | q
        · obtain rfl : i = f := by omega
          rw [i1 i (by omega)]
          unfold pup
          rw [if_pos rfl]
          rcases Nat.eq_zero_or_pos (zLe z w) with e | e
          · exfalso
            refine c.2 ?_
            unfold lkV
            rw [if_pos e]
          · exact e
        · exact i2 i q h2
    · rw [if_neg c] at hx
      cases hx
theorem bsS_mem : ∀ (L : List zW) y, bsS L = some y → y ∈ L := by
  have key : ∀ (L : List zW) b y, L.foldl bsStep b = some y → y ∈ L ∨ b = some y := by
    intro L
    induction L with
    | nil => intro b y h; exact Or.inr h
    | cons w L ih =>
      intro b y h
      rcases ih (bsStep b w) y h with q | q
      · exact Or.inl (List.mem_cons_of_mem _ q)
      · cases b with
        | none => cases q; exact Or.inl List.mem_cons_self
        | some u =>
          unfold bsStep at q
          dsimp only at q
          split at q
          · exact Or.inr q
          · cases q; exact Or.inl List.mem_cons_self
  intro L y h
  rcases key L none y h with q | q
  · exact q
  · cases q
theorem canA_best {r : zR} {z : zS} (hr : okR r) (hz : okZ r z) {y : zW} (h : bsS (rowsZ r z) = some y) : canA r y.1 (zWr z) z := by
  have hwr := hz.2.1
  have hm := bsS_mem _ y h
  have ho := rowsZ_ok hr hz y hm
  exact ⟨hz, rfl, fun i h1 h2 => ho.1 i (Nat.zero_le _) h2, (rowsL_left z _ _ _ _ _ _ _ (by omega) y hm).2⟩
def spR (r : zR) : Nat → zS → Prop
  | 0, z => bsS (rowsZ r z) = none
  | n + 1, z => ∃ y, bsS (rowsZ r z) = some y ∧ spR r n (zAll r z y.1)
theorem spR_ex {r : zR} (hr : okR r) : ∀ m z, okZ r z → totL r z ≤ m → ∃ n, n ≤ m ∧ spR r n z := by
  intro m
  induction m with
  | zero =>
    intro z hz ht
    refine ⟨0, Nat.le_refl _, ?_⟩
    cases hb : bsS (rowsZ r z) with
    | none => exact hb
    | some y =>
      exfalso
      have := (zAllN_ok hr (rFo r - zWr z) (zWr z) z (by have := hz.2.1; omega) (by have := hz.2.1; omega) (canA_best hr hz hb)).2.2
      omega
  | succ m ih =>
    intro z hz ht
    cases hb : bsS (rowsZ r z) with
    | none => exact ⟨0, Nat.zero_le _, hb⟩
    | some y =>
      obtain ⟨i1, i2, i3⟩ := zAllN_ok hr (rFo r - zWr z) (zWr z) z (by have := hz.2.1; omega) (by have := hz.2.1; omega) (canA_best hr hz hb)
      obtain ⟨n, n1, n2⟩ := ih (zAll r z y.1) i1 (by show totL r (zAllN r y.1 (rFo r - zWr z) (zWr z) z) ≤ m; omega)
      exact ⟨n + 1, by omega, y, hb, n2⟩
theorem totL_le {r : zR} {z : zS} (hr : okR r) (hz : okZ r z) : totL r z ≤ 108 := by
  have := nSum_le (f := zLe z) (m := 9) (rWd r) (fun k hk => hz.2.2.2.2.1 k hk)
  have := hr.2.1
  unfold totL
  omega
theorem stD_113 : stD 113 41 := by
  have f1 : art 41 0 = 42 := rfl
  have f2 : art 41 1 = 43 := rfl
  have f3 : art 41 2 = 44 := rfl
  have e1 : art 113 0 = 114 := rfl
  have e2 : art 113 1 = 115 := rfl
  have e3 : art 113 2 = 116 := rfl
  unfold stD
  rw [stC_113, stC_113, stC_113, stC_113, f1, f2, f3, e1, e2, e3]
  omega
def spC (i : Nat) : Prop := gxC i ∨ stC 113 i
theorem spC_sc : ∀ i, spC i → scX i := fun i q => by
  rcases q with q | q
  · exact gxC_sc i q
  · have := stC_113.mp q
    exact Or.inr (by omega)
theorem spC_rc {t : Nat} (hT : isT t) : ∀ i, rcX t i → ¬ spC i := fun i hi q => q.elim (gxC_rc hT i hi) (stG_113.rc hT i hi)
theorem pc_spC : ∀ i, pcX 113 i → spC i := fun i q => q.elim Or.inr (fun e => Or.inl (Or.inl (Or.inl e)))
section
variable {d : Nat} {Q : Value → aS → Prop} {S : aS} {r : zR} {z : zS} {t : Nat}
/-- the words of a row written on the trial -/
theorem bX_spent31 {y : zW} {i k : Nat} {L : List zW} (hr : okR r) (hT : isT t) (hL : L.length ≤ 81) (hy : L[i]? = some y) : ∀ n f z S, f + n = rFo r → (0 < n → canA r y.1 f z) → gr S 0 2 = t → RX r S t → stX r z S 113 → rwX r L S → (∀ S', frY spC S S' → stX r (zAllN r y.1 n f z) S' 113 → aBX (d + 10) 144 Q 8 [some (.ref 0), some (.int (nI k + 1)), none, none] [] S') → aBX (d + 10) 144 Q 31 [some (.ref 0), some (.int (nI k)), some (.int (nI i)), some (.int (nI f))] [] S := by
  have hfo := hr.2.2.1.2
  intro n
  induction n with
  | zero =>
    intro f z S hf _ hg h hs hR hx
    refine bX_FoldedRealm_spent_31 ?_
    rw [hg]
    refine gK_ok hT.re.1 ?_
    rw [h.1.2.2.1]
    exact ⟨fun _ => hx S frY.rf hs, fun q => absurd (nI_le (by omega) (by omega)) q⟩
  | succ n ih =>
    intro f z S hf hc hg h hs hR hx
    have hc := hc (by omega)
    obtain ⟨a, b, c, e⟩ := canA_can hc (by omega)
    refine bX_FoldedRealm_spent_31 ?_
    rw [hg]
    refine gK_ok hT.re.1 ?_
    rw [h.1.2.2.1]
    refine ⟨fun q => absurd q (nI_ge (by omega) (by omega)), fun _ => wX_wordOfRow (d := d + 8) hr hL hR hy (by omega) (wX_put (d := d + 6) hr hc.1 stG_113 hT a b h hs (fun S1 hf1 hs1 => ?_))⟩
    rw [nI_1]
    have hf1' := hf1.le pc_spC
    refine ih (f + 1) (zPut r z (y.1 f)) S1 (by omega) (fun hn => canA_put hr hc (by omega)) ((hf1.gr 0 2).trans hg) (h.kept hT hf1' (spC_rc hT)) hs1 (hR.kept hf1 (fun j hj q => ?_)) (fun S2 hf2 hs2 => hx S2 (hf1'.tr hf2) hs2)
    rcases q with q | q
    · have := stC_113.mp q
      unfold gx2 at hj
      omega
    · exact gx2_sc j hj q
theorem bX_spent8 (hr : okR r) (hT : isT t) : ∀ n k z S, k + n ≤ 108 → spR r n z → okZ r z → gr S 0 2 = t → RX r S t → stX r z S 113 → (∀ S', frY spC S S' → Q (.int (nI (k + n))) S') → aBX (d + 10) 144 Q 8 [some (.ref 0), some (.int (nI k)), none, none] [] S := by
  intro n
  induction n with
  | zero =>
    intro k z S hk hsp hz hg h hs hx
    refine bX_FoldedRealm_spent_8 ⟨fun q => ?_, fun _ => ?_⟩
    · rw [show (108 : Int32) = nI 108 from rfl, nI_leI (by decide) (by omega)] at q
      have := hx S frY.rf
      rw [show k + 0 = 108 by omega] at this
      exact this
    · rw [hg]
      refine wX_gatherRows hr hz hT stG_113 h hs (fun S1 hf hR => ?_)
      refine wX_greatestRow (d := d + 9) (rowsZ_len hr hz) hR (fun _ => ⟨fun q => absurd rfl q, fun _ => hx S1 (hf.le (fun _ q => Or.inl q))⟩) (fun i x _ _ hb => ?_)
      have hsp' : bsS (rowsZ r z) = none := hsp
      rw [hb] at hsp'
      cases hsp'
  | succ n ih =>
    intro k z S hk hsp hz hg h hs hx
    obtain ⟨y, hy, hsp⟩ := hsp
    have hlen := rowsZ_len hr hz
    refine bX_FoldedRealm_spent_8 ⟨fun q => absurd q (nI_ge (a := k) (b := 108) (by omega) (by decide)), fun _ => ?_⟩
    rw [hg]
    refine wX_gatherRows hr hz hT stG_113 h hs (fun S1 hf hR => ?_)
    have hs1 := hs.keptY hf (gxC_st stG_113)
    have hf' : frY spC S S1 := hf.le (fun _ q => Or.inl q)
    refine wX_greatestRow (d := d + 9) hlen hR (fun hb => ?_) (fun i x hi hxi hb => ?_)
    · rw [hy] at hb
      cases hb
    · rw [hy] at hb
      cases hb
      refine ⟨fun _ => ?_, fun q => absurd q.symm (m1_ne (by omega))⟩
      show aBX (d + 10) 144 Q 31 [some (.ref 0), some (.int (nI k)), some (.int (nI i)), some (.int (gi S1 113 3))] [] S1
      rw [show gi S1 113 3 = nI (zWr z) from hs1.2.1]
      have hwr := hz.2.1
      obtain ⟨z1, z2, z3⟩ := zAllN_ok hr (rFo r - zWr z) (zWr z) z (by omega) (by omega) (canA_best hr hz hy)
      refine bX_spent31 hr hT hlen hxi (rFo r - zWr z) (zWr z) z S1 (by omega) (fun _ => canA_best hr hz hy) ((hf.gr 0 2).trans hg) (h.kept hT hf' (spC_rc hT)) hs1 hR (fun S2 hf2 hs2 => ?_)
      rw [nI_1]
      refine ih (k + 1) (zAll r z y.1) S2 (by omega) hsp z1 ((hf2.gr 0 2).trans ((hf.gr 0 2).trans hg)) (h.kept hT (hf'.tr hf2) (spC_rc hT)) hs2 (fun S3 hf3 => ?_)
      rw [show k + 1 + n = k + (n + 1) by omega]
      exact hx S3 ((hf'.tr hf2).tr hf3)
end
/-- cells and fields of the reference in which a trial runs -/
def trC (i : Nat) : Prop := rwC i ∨ i = 1032
def trF (k : Nat) : Prop := rwF k ∨ k = 51 ∨ k = 62
theorem rw_trC {S S' : aS} (h : frM rwC rwF S S') : frM trC trF S S' := h.le (fun _ q => Or.inl q) (fun _ q => Or.inl q)
theorem wr_trC {S S' : aS} (h : frM wrC pF S S') : frM trC trF S S' := h.le (fun i q => q.elim Or.inr (fun e => Or.inl (Or.inl e))) (fun _ q => Or.inr (Or.inl q))
section
variable {d : Nat} {Q : Value → aS → Prop} {S : aS} {r : zR} {z : zS}
theorem trC_rm {S' : aS} (h : RM r S) (hf : frM trC trF S S') : RM r S' := h.kept hf (fun i hi => by unfold trC rwC eC at hi; omega)
theorem bM_spent47 {y : Nat → Nat} {k : Nat} (hr : okR r) : ∀ n f z S, f + n = rFo r → (0 < n → canA r y f z) → RM r S → stM r z (ga S 1032) 0 → (∀ i, f ≤ i → i < rFo r → ga S 1037 i = nI (y i)) → (∀ S', frM trC trF S S' → RM r S' → stM r (zAllN r y n f z) (ga S' 1032) 0 → aWM (d + 14) 77 [.ref 1000] S' (fun v1 S2 => aV v1 (aBM (d + 14) 96 Q 14 [some (.ref 1000), some (.int (nI k + 1)), none, none] [] S2))) → aBM (d + 14) 96 Q 47 [some (.ref 1000), some (.int (nI k)), none, some (.int (nI f))] [] S := by
  have hfo := hr.2.2.1.2
  intro n
  induction n with
  | zero =>
    intro f z S hf _ h hs hp hx
    refine bM_spent_47 ?_
    rw [c2, h.1.2.2.1]
    exact ⟨vin (by decide), fun _ => hx S frM.rf h hs, fun q => absurd (nI_le (by omega) (by omega)) q⟩
  | succ n ih =>
    intro f z S hf hc h hs hp hx
    have hc := hc (by omega)
    obtain ⟨a, b, c, e⟩ := canA_can hc (by omega)
    refine bM_spent_47 ?_
    rw [c2, h.1.2.2.1, nI_clamp (by omega), hp f (Nat.le_refl _) (by omega)]
    refine ⟨vin (by decide), fun q => absurd q (nI_ge (by omega) (by omega)), fun _ => ⟨nI_in (by omega) (by decide), wM_laysWord (d := d + 8) hr hc.1 a c e h hs (fun S1 hf1 hs1 => ?_)⟩⟩
    rw [nI_1]
    have h1 := trC_rm h (wr_trC hf1)
    exact ih (f + 1) _ S1 (by omega) (fun hn => canA_put hr hc (by omega)) h1 hs1 (fun i q1 q2 => (hf1.1 1037 i (by unfold wrC eC; omega)).trans (hp i (by omega) q2)) (fun S2 hf2 h2 hs2 => hx S2 ((wr_trC hf1).tr hf2) h2 hs2)
theorem bM_spent14 (hr : okR r) : ∀ n k z S, k + n ≤ 108 → spR r n z → okZ r z → RM r S → stM r z (ga S 1032) 0 → enM r z (rowsZ r z) S → (∀ S', frM trC trF S S' → aWM (d + 14) 35 [.ref 1033, .int 0, .ref 1032, .int 0] S' (fun v1 S2 => aV v1 (Q (.int (nI (k + n))) S2))) → aBM (d + 14) 96 Q 14 [some (.ref 1000), some (.int (nI k)), none, none] [] S := by
  have hfo := hr.2.2.1.2
  intro n
  induction n with
  | zero =>
    intro k z S hk hsp hz h hs he hx
    have hsp : bsS (rowsZ r z) = none := hsp
    obtain ⟨hb, -, -⟩ := he
    rw [hsp] at hb
    refine bM_spent_14 ?_
    rw [hb.1, lg_cmp_le]
    exact ⟨fun _ => hx S frM.rf, fun q => absurd (by decide) q⟩
  | succ n ih =>
    intro k z S hk hsp hz h hs he hx
    obtain ⟨y, hy, hsp⟩ := hsp
    obtain ⟨hb, -, -⟩ := he
    rw [hy] at hb
    obtain ⟨⟨o1, o2, o3, o4, o5⟩, b1, b2, b3⟩ := hb
    have hwr := hz.2.1
    have e1 : ga S 1032 1 = nI (zWr z) := hs.2.1
    refine bM_spent_14 ?_
    rw [b1, lg_cmp_le, lNz (by omega), c1, e1]
    refine ⟨fun q => absurd q (by omega), fun _ => ⟨vin (by decide), ?_⟩⟩
    obtain ⟨z1, z2, z3⟩ := zAllN_ok hr (rFo r - zWr z) (zWr z) z (by omega) (by omega) (canA_best hr hz hy)
    have k24 : ∀ m f S1, f + m = rFo r → zWr z ≤ f → frM (fun i => i = 1037) nF S S1 → (∀ i, zWr z ≤ i → i < f → ga S1 1037 i = nI (y.1 i)) → aBM (d + 14) 96 Q 24 [some (.ref 1000), some (.int (nI k)), some (.int (nI f)), none] [] S1 := by
      intro m
      induction m with
      | zero =>
        intro f S1 hm hf hf1 hp
        have h1 := h.kept hf1 (fun i hi => by omega)
        have hs1 : stM r z (ga S1 1032) 0 := by
          rw [show ga S1 1032 = ga S 1032 from funext fun j => hf1.1 1032 j (by omega)]
          exact hs
        refine bM_spent_24 ?_
        rw [c2, h1.1.2.2.1, c1, show ga S1 1032 1 = nI (zWr z) from hs1.2.1]
        refine ⟨vin (by decide), fun _ => ⟨vin (by decide), ?_⟩, fun q => absurd (nI_le (by omega) (by omega)) q⟩
        have hf1' : frM trC trF S S1 := hf1.le (fun i q => Or.inl (Or.inr (Or.inl q))) (fun _ q => q.elim)
        refine bM_spent47 (y := y.1) hr (rFo r - zWr z) (zWr z) z S1 (by omega) (fun _ => canA_best hr hz hy) h1 hs1 (fun i q1 q2 => hp i q1 (by omega)) (fun S2 hf2 h2 hs2 => ?_)
        refine wM_laysRows hr z1 h2 hs2 (fun S3 hf3 he3 => ?_)
        show aBM (d + 14) 96 Q 14 [some (.ref 1000), some (.int (nI k + 1)), none, none] [] S3
        rw [nI_1]
        refine ih (k + 1) (zAll r z y.1) S3 (by omega) hsp z1 (trC_rm h2 (rw_trC hf3)) ?_ he3 (fun S4 hf4 => ?_)
        · rw [show ga S3 1032 = ga S2 1032 from funext fun j => hf3.1 1032 j (by unfold rwC eC; omega)]
          exact hs2
        · rw [show k + 1 + n = k + (n + 1) by omega]
          exact hx S4 (((hf1'.tr hf2).tr (rw_trC hf3)).tr hf4)
      | succ m ih2 =>
        intro f S1 hm hf hf1 hp
        have h1 := h.kept hf1 (fun i hi => by omega)
        refine bM_spent_24 ?_
        rw [c2, h1.1.2.2.1, nI_clamp (by omega), hf1.1 1038 f (by omega), b3 f hf (by omega), nI_1]
        refine ⟨vin (by decide), fun q => absurd q (nI_ge (by omega) (by omega)), fun _ => ⟨nI_in (by omega) (by decide), nI_in (by omega) (by decide), ?_⟩⟩
        refine ih2 (f + 1) _ (by omega) (by omega) (hf1.tr (frM_sa rfl)) (fun i q1 q2 => ?_)
        rw [ga_sa]
        by_cases q : i = f
        · rw [if_pos ⟨rfl, q⟩, q]
        · rw [if_neg (fun a => q a.2)]
          exact hp i q1 (by omega)
    exact k24 (rFo r - zWr z) (zWr z) S (by omega) (Nat.le_refl _) frM.rf (fun i a b => absurd a (by omega))
/-- laid aside, tried, laid back -/
theorem trial_back {S0 S1 S2 : aS} (h1 : frM trC trF (lay S0 1032 0 1033 0 60) S1) : frM scM scF S0 (lay S1 1033 0 1032 0 60) ∧ ∀ k, k < 60 → ga (lay S1 1033 0 1032 0 60) 1032 k = ga S0 1032 k := by
  constructor
  · refine (frM_lay (C := scM) (F := scF) (by unfold scM; omega)).tr ((h1.le (fun i hi => ?_) (fun k hk => ?_)).tr (frM_lay (by unfold scM; omega)))
    · unfold trC rwC eC at hi
      unfold scM
      omega
    · unfold trF rwF at hk
      unfold scF
      omega
  · intro k hk
    rw [ga_lay, if_pos rfl, if_pos (by omega), show 0 + (k - 0) = k by omega, h1.1 1033 k (by unfold trC rwC eC; omega), ga_lay, if_pos rfl, if_pos (by omega), show 0 + (k - 0) = k by omega]
end
theorem tie_spent : ok_spent Rel := by
  refine tie_q (fun g t ok hT => ?_)
  obtain ⟨okr, okn, ⟨okz, okl, okd⟩, okt⟩ := id ok
  obtain ⟨n, hn, hsp⟩ := spR_ex okr 108 g.2.1.1 okz (totL_le okr okz)
  refine ⟨nI n, fun S Q h hx => ?_, fun S Q h hx => ?_⟩
  · refine mX_FoldedRealm_spent (d := 99) (wX_copyFrom (d := 98) okr okz stG_113.1 stG_41.1 stD_113 h.2.2.1.1 (fun S1 hf hs => ?_))
    have hf' : frY spC S S1 := hf.Y.le (fun _ q => Or.inr q)
    refine bX_spent8 (d := 89) okr hT n 0 g.2.1.1 S1 (by omega) hsp okz ((hf'.gr 0 2).trans h.1.2.1) (h.2.1.kept hT hf' (spC_rc hT)) hs (fun S2 hf2 => ?_)
    rw [Nat.zero_add]
    exact hx S2 ((hf'.tr hf2).le spC_sc)
  · have h' := MM_0 ok h
    refine mM_spent (d := 99) (wM_copies (d := 98) (p0 := 1032) (a := 0) (p2 := 1033) (b := 0) rfl rfl (by decide) (by decide) (by decide) (by decide) (by decide) ?_)
    have hfl : frM (fun i => i = 1033) nF (si S 1000 0 0) (lay (si S 1000 0 0) 1032 0 1033 0 60) := frM_lay rfl
    have h1 := h'.1.kept hfl (fun i hi => by omega)
    have hs1 : stM g.1 g.2.1.1 (ga (lay (si S 1000 0 0) 1032 0 1033 0 60) 1032) 0 := by
      rw [show ga (lay (si S 1000 0 0) 1032 0 1033 0 60) 1032 = ga (si S 1000 0 0) 1032 from funext fun j => hfl.1 1032 j (by omega)]
      exact h'.2.1.1
    refine wM_laysRows (d := 85) okr okz h1 hs1 (fun S2 hf2 he2 => ?_)
    have hs2 : stM g.1 g.2.1.1 (ga S2 1032) 0 := by
      rw [show ga S2 1032 = ga (lay (si S 1000 0 0) 1032 0 1033 0 60) 1032 from funext fun j => hf2.1 1032 j (by unfold rwC eC; omega)]
      exact hs1
    refine bM_spent14 (d := 85) okr n 0 g.2.1.1 S2 (by omega) hsp okz (trC_rm h1 (rw_trC hf2)) hs2 he2 (fun S3 hf3 => ?_)
    refine wM_copies (d := 98) (p0 := 1033) (a := 0) (p2 := 1032) (b := 0) rfl rfl (by decide) (by decide) (by decide) (by decide) (by decide) ?_
    obtain ⟨k1, k2⟩ := trial_back (S2 := S3) ((rw_trC hf2).tr hf3)
    rw [Nat.zero_add]
    exact hx _ (frM_0.tr k1) k2
