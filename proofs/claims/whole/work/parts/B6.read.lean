/-! a realm read: the class -/
def D0 : zD := (r0, fun _ => [], false)
theorem okDr_0 : okDr D0 := ⟨okR_0, okN_0, fun k hk => absurd hk (Nat.not_lt_zero _), fun _ _ _ => rfl, fun _ _ _ => rfl⟩
theorem clB_0 (v : Nat) : clB D0.1 v 0 := ⟨by decide, fun w => by
  show (0 : Nat).testBit w = (decide (w < 0) && false)
  rw [Nat.zero_testBit, Bool.and_false]⟩
section
variable {d m : Nat} {Q : Value → aS → Prop} {S : aS} {t : Nat} {tp : List Nat}
theorem clr_end {T : aS} (hT : isT t) (h11 : gi S (t + 11) 0 = 1) (h14 : gi S (t + 14) 0 = 0) (f : frZ (dwC t) S T) (g0 : gi T t 0 = 0) (g3 : gi T t 3 = 0) (A : ∀ j, j < 60 → ga T (t + 8) j = 0) (B : ∀ j, j < 12 → ga T (t + 9) j = 0) (hx : ∀ S', frF t S S' → frZ (rcX t) S S' → dwX D0 t S' → lwX D0 0 t S' → Q .null S') : Q .null (si (si (si (si (si (si (si T t 11 0) t 12 3) t 13 0) (t + 11) 4 0) (t + 11) 5 0) (t + 14) 4 0) (t + 14) 5 0) := by
  have GU : ∀ i k, gi (si (si (si (si (si (si (si T t 11 0) t 12 3) t 13 0) (t + 11) 4 0) (t + 11) 5 0) (t + 14) 4 0) (t + 14) 5 0) i k = if i = t + 14 ∧ k = 5 then 0 else if i = t + 14 ∧ k = 4 then 0 else if i = t + 11 ∧ k = 5 then 0 else if i = t + 11 ∧ k = 4 then 0 else if i = t ∧ k = 13 then 0 else if i = t ∧ k = 12 then 3 else if i = t ∧ k = 11 then 0 else gi T i k := fun i k => by
    rw [gi_si, gi_si, gi_si, gi_si, gi_si, gi_si, gi_si]
  have n11 : ¬ dwC t (t + 11) := by unfold dwC; omega
  have n14 : ¬ dwC t (t + 14) := by unfold dwC; omega
  have e11 : gi (si (si (si (si (si (si (si T t 11 0) t 12 3) t 13 0) (t + 11) 4 0) (t + 11) 5 0) (t + 14) 4 0) (t + 14) 5 0) (t + 11) 0 = gi S (t + 11) 0 := by
    rw [GU, if_neg (by omega), if_neg (by omega), if_neg (by omega), if_neg (by omega), if_neg (by omega), if_neg (by omega), if_neg (by omega), (f _ 0 n11).1]
  have e14 : gi (si (si (si (si (si (si (si T t 11 0) t 12 3) t 13 0) (t + 11) 4 0) (t + 11) 5 0) (t + 14) 4 0) (t + 14) 5 0) (t + 14) 0 = gi S (t + 14) 0 := by
    rw [GU, if_neg (by omega), if_neg (by omega), if_neg (by omega), if_neg (by omega), if_neg (by omega), if_neg (by omega), if_neg (by omega), (f _ 0 n14).1]
  have fz : frZ (rcX t) S (si (si (si (si (si (si (si T t 11 0) t 12 3) t 13 0) (t + 11) 4 0) (t + 11) 5 0) (t + 14) 4 0) (t + 14) 5 0) := by
    have c0 : rcX t t := by unfold rcX; omega
    have c1 : rcX t (t + 11) := by unfold rcX; omega
    have c2 : rcX t (t + 14) := by unfold rcX; omega
    exact (((((((f.le (fun i hi => by unfold dwC at hi; unfold rcX; omega)).tr (frZ_si c0)).tr (frZ_si c0)).tr (frZ_si c0)).tr (frZ_si c1)).tr (frZ_si c1)).tr (frZ_si c2)).tr (frZ_si c2)
  refine hx _ ⟨fz.le (fun i hi => Or.inr hi), e11, e14⟩ fz ⟨⟨?_, ?_, ?_, ?_, ?_⟩, fun k hk => absurd hk (Nat.not_lt_zero _), fun k hk => absurd hk (Nat.not_lt_zero _), fun k w hk hw => A (12 * k + w) (by omega), fun v hv => ⟨0, clB_0 v, B v hv⟩⟩ ⟨⟨?_, ?_⟩, ⟨?_, ?_⟩, ⟨0, 0, ?_, ?_, Nat.le_refl _, Nat.le_refl _⟩, e11.trans h11, e14.trans h14⟩
  · rw [GU, if_neg (by omega), if_neg (by omega), if_neg (by omega), if_neg (by omega), if_neg (by omega), if_neg (by omega), if_neg (by omega)]; exact g0
  · rw [GU, if_neg (by omega), if_neg (by omega), if_neg (by omega), if_neg (by omega), if_neg (by omega), if_neg (by omega), if_neg (by omega)]; exact g3
  · rw [GU, if_neg (by omega), if_neg (by omega), if_neg (by omega), if_neg (by omega), if_neg (by omega), if_pos ⟨rfl, rfl⟩]; rfl
  · rw [GU, if_neg (by omega), if_neg (by omega), if_neg (by omega), if_neg (by omega), if_neg (by omega), if_neg (by omega), if_pos ⟨rfl, rfl⟩]; rfl
  · rw [GU, if_neg (by omega), if_neg (by omega), if_neg (by omega), if_neg (by omega), if_pos ⟨rfl, rfl⟩]; rfl
  · rw [GU, if_neg (by omega), if_neg (by omega), if_neg (by omega), if_pos ⟨rfl, rfl⟩]
  · rw [GU, if_neg (by omega), if_neg (by omega), if_pos ⟨rfl, rfl⟩]
  · rw [GU, if_neg (by omega), if_pos ⟨rfl, rfl⟩]
  · rw [GU, if_pos ⟨rfl, rfl⟩]
  · rw [GU, if_neg (by omega), if_neg (by omega), if_pos ⟨rfl, rfl⟩]; rfl
  · rw [GU, if_pos ⟨rfl, rfl⟩]; rfl
theorem wX_clear (hT : isT t) (h11 : gi S (t + 11) 0 = 1) (h14 : gi S (t + 14) 0 = 0) (hx : ∀ S', frF t S S' → frZ (rcX t) S S' → dwX D0 t S' → lwX D0 0 t S' → Q .null S') : aWX (d + 2) 55 [.ref t] S Q := by
  have ht := hT.re
  have k0 := ht.1
  obtain ⟨⟨-, -, -, -, -, -, -, a9, a10⟩, ⟨a14, a15⟩, -⟩ := art_t hT
  obtain ⟨fo14, fo15⟩ := isFo_w hT
  have k9 := ht.2.2.2.2.2.2.1
  have k10 := ht.2.2.2.2.2.2.2
  refine mX_Realm_clear (gK_ok k0 (gK_ok k0 (gK_ok k0 ?_)))
  have loop2 : ∀ n k T, k + n = 12 → frZ (dwC t) S T → gi T t 0 = 0 → gi T t 3 = 0 → (∀ j, j < 60 → ga T (t + 8) j = 0) → (∀ j, j < k → ga T (t + 9) j = 0) → aBX (d + 1) 55 Q 22 [some (.ref t), some (.int (nI k))] [] T := by
    intro n
    induction n with
    | zero =>
      intro k T hk f g0 g3 A B
      obtain rfl : k = 12 := by omega
      refine bX_Realm_clear_22 (gK_ok k0 (gK_ok k10.1 ?_))
      rw [k10.2]
      refine ⟨fun _ => gK_ok k0 (gK_ok k0 (gK_ok k0 ⟨Or.inl rfl, gK_ok k0 ?_⟩)), fun z => absurd (by decide) z⟩
      refine mX_Formula_clear (gK_ok fo14.1 (gK_ok fo14.1 (gK_ok fo14.1 ?_)))
      refine bX_Realm_clear_46 (gK_ok k0 (mX_Formula_clear (gK_ok fo15.1 (gK_ok fo15.1 (gK_ok fo15.1 ?_)))))
      refine bX_Realm_clear_49 ?_
      rw [a14, a15]
      exact clr_end hT h11 h14 f g0 g3 A B hx
    | succ n ih =>
      intro k T hk f g0 g3 A B
      refine bX_Realm_clear_22 (gK_ok k0 (gK_ok k10.1 ?_))
      rw [k10.2, show Int32.ofNat 12 = nI 12 from rfl, nI_leI (by decide) (by omega), nI_1, nI_clamp (by omega), a10]
      refine ⟨fun z => absurd z (by omega), fun _ => gK_ok k0 (gK_ok (a10 ▸ k10.1) ⟨nI_in (by omega) (by decide), ih (k + 1) _ (by omega) (f.tr (frZ_sa (by unfold dwC; omega))) g0 g3 (fun j hj => ?_) (fun j hj => ?_)⟩)⟩
      · rw [ga_sa, if_neg (by omega)]
        exact A j hj
      · rw [ga_sa]
        by_cases z : j = k
        · rw [if_pos ⟨rfl, z⟩]
        · rw [if_neg (fun y => z y.2)]
          exact B j (by omega)
  have loop1 : ∀ n k T, k + n = 60 → frZ (dwC t) S T → gi T t 0 = 0 → gi T t 3 = 0 → (∀ j, j < k → ga T (t + 8) j = 0) → aBX (d + 1) 55 Q 8 [some (.ref t), some (.int (nI k))] [] T := by
    intro n
    induction n with
    | zero =>
      intro k T hk f g0 g3 A
      obtain rfl : k = 60 := by omega
      refine bX_Realm_clear_8 (gK_ok k0 (gK_ok k9.1 ?_))
      rw [k9.2]
      exact ⟨fun _ => loop2 12 0 T (by omega) f g0 g3 A (fun j hj => absurd hj (Nat.not_lt_zero _)), fun z => absurd (by decide) z⟩
    | succ n ih =>
      intro k T hk f g0 g3 A
      refine bX_Realm_clear_8 (gK_ok k0 (gK_ok k9.1 ?_))
      rw [k9.2, show Int32.ofNat 60 = nI 60 from rfl, nI_leI (by decide) (by omega), nI_1, nI_clamp (by omega), a9]
      refine ⟨fun z => absurd z (by omega), fun _ => gK_ok k0 (gK_ok (a9 ▸ k9.1) ⟨nI_in (by omega) (by decide), ih (k + 1) _ (by omega) (f.tr (frZ_sa (by unfold dwC; omega))) g0 g3 (fun j hj => ?_)⟩)⟩
      rw [ga_sa]
      by_cases z : j = k
      · rw [if_pos ⟨rfl, z⟩]
      · rw [if_neg (fun y => z y.2)]
        exact A j (by omega)
  have c0 : dwC t t := by unfold dwC; omega
  refine loop1 60 0 _ (by omega) ((frZ_si c0).tr (frZ_si c0)) ?_ ?_ (fun j hj => absurd hj (Nat.not_lt_zero _))
  · rw [gi_si, if_neg (by omega), gi_si, if_pos ⟨rfl, rfl⟩]
  · rw [gi_si, if_pos ⟨rfl, rfl⟩]
theorem X_readRealm (ht : okT tp) (hT : isT t) (hs : tpX tp S) (h11 : gi S (t + 11) 0 = 1) (h14 : gi S (t + 14) 0 = 0) (hE : ∀ v S', frF t S S' → v ≠ 0 → mA tp D0 (rnT isWs tp 0) (.inl v) → Q (.int v) S') (hO : ∀ D' q' S', frF t S S' → okDr D' → dwX D' t S' → lwX D' q' t S' → mA tp D0 (rnT isWs tp 0) (.inr D') → Q (.int 0) S') : aWX (m + 41) 41 [.ref 3, .ref t] S Q := by
  have t6 := hT.six
  refine mX_Reader_readRealm (wX_clear (d := m + 38) hT h11 h14 (fun S1 f1 z1 d1 g1 => ?_))
  show aWX (m + 40) 105 [.ref 1] S1 _
  refine mX_Tokens_begin ?_
  have fz : frZ (fun i => i = 1) S1 (si (si S1 1 2 0) 1 7 0) := (frZ_si (C := fun i => i = 1) rfl).tr (frZ_si rfl)
  have n1 : ¬ rcX t 1 := by unfold rcX; omega
  have n2 : ¬ rcX t 2 := by unfold rcX; omega
  have tps : tpX tp (si (si S1 1 2 0) 1 7 0) := ⟨by rw [gi_si, if_neg (by decide), gi_si, if_neg (by decide), (z1 1 1 n1).1]; exact hs.1, fun k c hk => by rw [ga_si, ga_si, (z1 2 k n2).2.1]; exact hs.2 k c hk⟩
  refine wX_step (p := 0) ht tps (by rw [gi_si, if_neg (by decide), gi_si, if_pos ⟨rfl, rfl⟩]; rfl) (Nat.zero_le _) (fun S2 f2 t2 => ?_)
  show aBX (m + 40) 41 Q 9 [some (.ref 3), some (.ref t), some (.int 1), some (.int (nI 0))] [] S2
  have fz2 : frZ (fun i => i = 1) S1 S2 := fz.tr f2.Z
  have hl := plT_rn (tp := tp) (p := 0) (Nat.zero_le _)
  exact X_loop (S0 := S) ht hT (tp.length - rnT isWs tp 0) (rnT isWs tp 0) (by omega) 0 D0 S2 (Nat.zero_le _) okDr_0 (d1.kept fz2 (fun i _ _ (q : i = 1) => by omega)) (g1.kept hT fz2 (fun i _ (q : i = 1) => by omega) (Nat.zero_le _) rfl rfl) t2 hl (by rw [f2.1 1 7 (by omega), gi_si, if_pos ⟨rfl, rfl⟩]) (f1.tr (frF_of (fz2.le (fun i hi => Or.inl hi)))) (fun v S' y1 y2 _ y4 => hE v S' y1 y2 y4) hO
end
/-- nothing but the draft, the reader and the tape was touched -/
theorem XX_Z {g : zG} {t : Nat} {S S' : aS} {C : Nat → Prop} (h : XX g t S) (f : frZ C S S') (hCC : ∀ i, C i → i = 1 ∨ i = 3 ∨ i = 4 ∨ rcX (29 - t) i) (e11 : gi S' (29 - t + 11) 0 = gi S (29 - t + 11) 0) (e14 : gi S' (29 - t + 14) 0 = gi S (29 - t + 14) 0) (h1 : gi S' 1 1 = 0) : XX (g.1, g.2.1, g.2.2.1, g.2.2.2.1, []) t S' := by
  obtain ⟨⟨hT, r2, r3, hf⟩, h2, h3, h4, h5, h6⟩ := h
  have n : ∀ i, i = 0 ∨ (40 ≤ i) ∨ rcX t i → ¬ C i := fun i hi c => by
    have := hCC i c
    unfold rcX at hi this
    rcases hT with rfl | rfl <;> omega
  have f2 := f.Y
  refine ⟨⟨hT, (f 0 2 (n 0 (Or.inl rfl))).2.2.2.2.trans r2, (f 0 3 (n 0 (Or.inl rfl))).2.2.2.2.trans r3, ?_⟩, h2.keptZ hT f (fun i hi => n i (Or.inr (Or.inr hi))), ?_, ?_, ?_, ⟨h1, fun k c hk => by cases hk⟩⟩
  · obtain ⟨q1, q2, q3, q4⟩ := hf
    rcases hT with rfl | rfl
    · exact ⟨(f 17 0 (n 17 (by unfold rcX; omega))).1.trans q1, e11.trans q2, (f 20 0 (n 20 (by unfold rcX; omega))).1.trans q3, e14.trans q4⟩
    · exact ⟨e11.trans q1, (f 34 0 (n 34 (by unfold rcX; omega))).1.trans q2, e14.trans q3, (f 37 0 (n 37 (by unfold rcX; omega))).1.trans q4⟩
  · have := h3.kept f2 (fun i a b => n i (by omega)) st_pg
    exact this
  · have := h4.keptY f2 (fun i hi => n i (by unfold hC at hi; omega))
    exact this
  · have := h5.kept f2 (fun i a b => n i (by omega))
    exact this
