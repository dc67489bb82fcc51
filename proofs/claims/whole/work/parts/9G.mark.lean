/-! the tie: mark, the other side -/
def cpA (f f' : Nat → Int32) (a b n : Nat) : Prop := ∀ k, f' k = if b ≤ k ∧ k < b + n then f (a + (k - b)) else f k
theorem cpA_0 {f : Nat → Int32} {a b : Nat} : cpA f f a b 0 := fun k => by rw [if_neg (by omega)]
theorem cpA_1 {f f' f2 : Nat → Int32} {a b n N : Nat} (h : cpA f f' a b n) (hd : a + N ≤ b ∨ b + N ≤ a) (hn : n < N) (e : ∀ k, f2 k = if k = b + n then f' (a + n) else f' k) : cpA f f2 a b (n + 1) := by
  intro k
  rw [e k]
  by_cases c : k = b + n
  · rw [if_pos c, if_pos (by omega), h, if_neg (by omega), show k - b = n by omega]
  · rw [if_neg c, h]
    by_cases c2 : b ≤ k ∧ k < b + n
    · rw [if_pos c2, if_pos (by omega)]
    · rw [if_neg c2, if_neg (by omega)]
def lnC (i : Nat) : Prop := 1027 ≤ i ∧ i ≤ 1029
def rdC (i : Nat) : Prop := 1030 ≤ i ∧ i ≤ 1031
def noF (_ : Nat) : Prop := False
section
variable {d : Nat} {Q : Value → aS → Prop} {S : aS} {r : zR}
theorem wM_laysLines {a b : Nat} (ha : a < 5) (hb : b < 5) (hne : a ≠ b) (h : ∀ S', frM lnC noF S S' → (∀ k, ga S' 1027 k = if k = b then ga S 1027 a else ga S 1027 k) → cpA (ga S 1028) (ga S' 1028) (40 * a) (40 * b) 40 → cpA (ga S 1029) (ga S' 1029) (40 * a) (40 * b) 40 → Q .null S') : aWM (d + 1) 37 [.ref 1000, .int (nI a), .int (nI b)] S Q := by
  refine mM_laysLines ⟨nI_in (by omega) (by decide), nI_in (by omega) (by decide), ?_⟩
  rw [nI_clamp (by omega), nI_clamp (by omega)]
  have loop : ∀ m k T, k + m = 40 → frM lnC noF S T → (∀ k, ga T 1027 k = if k = b then ga S 1027 a else ga S 1027 k) → cpA (ga S 1028) (ga T 1028) (40 * a) (40 * b) k → cpA (ga S 1029) (ga T 1029) (40 * a) (40 * b) k → aBM d 37 Q 10 [some (.ref 1000), some (.int (nI a)), some (.int (nI b)), some (.int (nI k))] [] T := by
    intro m
    induction m with
    | zero =>
      intro k T hk h1 h2 h3 h4
      obtain rfl : k = 40 := by omega
      exact bM_laysLines_10 ⟨fun _ => h T h1 h2 h3 h4, fun q => absurd (show (40 : Int32) ≤ nI 40 by decide) q⟩
    | succ m ih =>
      intro k T hk h1 h2 h3 h4
      refine bM_laysLines_10 ⟨fun q => absurd q (nI_ge (a := k) (b := 40) (by omega) (by decide)), fun _ => ?_⟩
      have ea : (40 : Int32) * nI a + nI k = nI (40 * a + k) := by rw [show (40 : Int32) = nI 40 from rfl, nI_mulN, nI_add]
      have eb : (40 : Int32) * nI b + nI k = nI (40 * b + k) := by rw [show (40 : Int32) = nI 40 from rfl, nI_mulN, nI_add]
      rw [ea, eb, nI_clamp (by omega), nI_clamp (by omega), nI_1]
      refine ⟨nI_in (by omega) (by decide), nI_in (by omega) (by decide), nI_in (by omega) (by decide), nI_in (by omega) (by decide), ?_⟩
      refine ih (k + 1) _ (by omega) (frM.tr (frM.tr h1 (frM_sa ⟨by decide, by decide⟩)) (frM_sa ⟨by decide, by decide⟩)) (fun j => ?_) (cpA_1 h3 (N := 40) (by omega) (by omega) (fun j => ?_)) (cpA_1 h4 (N := 40) (by omega) (by omega) (fun j => ?_))
      · rw [ga_sa, if_neg (by omega), ga_sa, if_neg (by omega)]
        exact h2 j
      · rw [ga_sa, if_neg (by omega), ga_sa]
        by_cases c : j = 40 * b + k
        · rw [if_pos ⟨rfl, c⟩, if_pos c]
        · rw [if_neg (fun q => c q.2), if_neg c]
      · rw [ga_sa]
        by_cases c : j = 40 * b + k
        · rw [if_pos ⟨rfl, c⟩, if_pos c, ga_sa, if_neg (by omega)]
        · rw [if_neg (fun q => c q.2), if_neg c, ga_sa, if_neg (by omega)]
  refine loop 40 0 _ rfl (frM_sa ⟨by decide, by decide⟩) (fun k => ?_) (fun k => ?_) (fun k => ?_)
  · rw [ga_sa]
    by_cases c : k = b
    · rw [if_pos ⟨rfl, c⟩, if_pos c]
    · rw [if_neg (fun q => c q.2), if_neg c]
  · rw [ga_sa, if_neg (by omega)]
    exact cpA_0 k
  · rw [ga_sa, if_neg (by omega)]
    exact cpA_0 k
theorem wM_laysRead {a b : Nat} (ha : a < 5) (hb : b < 5) (hne : a ≠ b) (h : ∀ S', frM rdC noF S S' → (∀ k, ga S' 1030 k = if k = b then ga S 1030 a else ga S 1030 k) → cpA (ga S 1031) (ga S' 1031) (8 * a) (8 * b) 8 → Q .null S') : aWM (d + 1) 38 [.ref 1000, .int (nI a), .int (nI b)] S Q := by
  refine mM_laysRead ⟨nI_in (by omega) (by decide), nI_in (by omega) (by decide), ?_⟩
  rw [nI_clamp (by omega), nI_clamp (by omega)]
  have loop : ∀ m k T, k + m = 8 → frM rdC noF S T → (∀ k, ga T 1030 k = if k = b then ga S 1030 a else ga S 1030 k) → cpA (ga S 1031) (ga T 1031) (8 * a) (8 * b) k → aBM d 38 Q 10 [some (.ref 1000), some (.int (nI a)), some (.int (nI b)), some (.int (nI k))] [] T := by
    intro m
    induction m with
    | zero =>
      intro k T hk h1 h2 h3
      obtain rfl : k = 8 := by omega
      exact bM_laysRead_10 ⟨fun _ => h T h1 h2 h3, fun q => absurd (show (8 : Int32) ≤ nI 8 by decide) q⟩
    | succ m ih =>
      intro k T hk h1 h2 h3
      refine bM_laysRead_10 ⟨fun q => absurd q (nI_ge (a := k) (b := 8) (by omega) (by decide)), fun _ => ?_⟩
      have ea : (8 : Int32) * nI a + nI k = nI (8 * a + k) := by rw [show (8 : Int32) = nI 8 from rfl, nI_mulN, nI_add]
      have eb : (8 : Int32) * nI b + nI k = nI (8 * b + k) := by rw [show (8 : Int32) = nI 8 from rfl, nI_mulN, nI_add]
      rw [ea, eb, nI_clamp (by omega), nI_clamp (by omega), nI_1]
      refine ⟨nI_in (by omega) (by decide), nI_in (by omega) (by decide), ?_⟩
      refine ih (k + 1) _ (by omega) (frM.tr h1 (frM_sa ⟨by decide, by decide⟩)) (fun j => ?_) (cpA_1 h3 (N := 8) (by omega) (by omega) (fun j => ?_))
      · rw [ga_sa, if_neg (by omega)]
        exact h2 j
      · rw [ga_sa]
        by_cases c : j = 8 * b + k
        · rw [if_pos ⟨rfl, c⟩, if_pos c]
        · rw [if_neg (fun q => c q.2), if_neg c]
  refine loop 8 0 _ rfl (frM_sa ⟨by decide, by decide⟩) (fun k => ?_) (fun k => ?_)
  · rw [ga_sa]
    by_cases c : k = b
    · rw [if_pos ⟨rfl, c⟩, if_pos c]
    · rw [if_neg (fun q => c q.2), if_neg c]
  · rw [ga_sa, if_neg (by omega)]
    exact cpA_0 k
/-- what bM_mark_37 leaves of the lines and of what was read -/
def lrS (S S' : aS) (a b : Nat) : Prop := (∀ k, ga S' 1027 k = if k = b then ga S 1027 a else ga S 1027 k) ∧ cpA (ga S 1028) (ga S' 1028) (40 * a) (40 * b) 40 ∧ cpA (ga S 1029) (ga S' 1029) (40 * a) (40 * b) 40 ∧ (∀ k, ga S' 1030 k = if k = b then ga S 1030 a else ga S 1030 k) ∧ cpA (ga S 1031) (ga S' 1031) (8 * a) (8 * b) 8
theorem lrS.here {S' : aS} {a b : Nat} {ls : List zL} {rd : List Nat} (h : lrS S S' a b) (ok : okL r ls ∧ okD r rd) (h1 : lsM ls S a ∧ rdM rd S a) : lsM ls S' b ∧ rdM rd S' b := by
  obtain ⟨g1, g2, g3, g4, g5⟩ := h
  refine ⟨⟨?_, fun k l hk => ?_⟩, ⟨?_, fun k w hk => ?_⟩⟩
  · rw [g1, if_pos rfl]
    exact h1.1.1
  · have hlt := (List.getElem?_eq_some_iff.mp hk).1
    have := ok.1.1
    rw [g2, if_pos (by omega), g3, if_pos (by omega), show 40 * b + k - 40 * b = k by omega]
    exact h1.1.2 k l hk
  · rw [g4, if_pos rfl]
    exact h1.2.1
  · have hlt := (List.getElem?_eq_some_iff.mp hk).1
    have := ok.2.1
    rw [g5, if_pos (by omega), show 8 * b + k - 8 * b = k by omega]
    exact h1.2.2 k w hk
theorem lrS.there {S' : aS} {a b m : Nat} {ls : List zL} {rd : List Nat} (h : lrS S S' a b) (hm : m ≠ b) (ok : okL r ls ∧ okD r rd) (h1 : lsM ls S m ∧ rdM rd S m) : lsM ls S' m ∧ rdM rd S' m := by
  obtain ⟨g1, g2, g3, g4, g5⟩ := h
  refine ⟨⟨?_, fun k l hk => ?_⟩, ⟨?_, fun k w hk => ?_⟩⟩
  · rw [g1, if_neg hm]
    exact h1.1.1
  · have hlt := (List.getElem?_eq_some_iff.mp hk).1
    have := ok.1.1
    rw [g2, if_neg (by omega), g3, if_neg (by omega)]
    exact h1.1.2 k l hk
  · rw [g4, if_neg hm]
    exact h1.2.1
  · have hlt := (List.getElem?_eq_some_iff.mp hk).1
    have := ok.2.1
    rw [g5, if_neg (by omega)]
    exact h1.2.2 k w hk
def mrC (i : Nat) : Prop := 1027 ≤ i ∧ i ≤ 1031
theorem wM_lays2 {a b : Nat} {Q : aS → Prop} (ha : a < 5) (hb : b < 5) (hne : a ≠ b) (h : ∀ S', frM mrC noF S S' → lrS S S' a b → Q S') : aWM (d + 1) 37 [.ref 1000, .int (nI a), .int (nI b)] S (fun v1 S2 => aV v1 (aWM (d + 1) 38 [.ref 1000, .int (nI a), .int (nI b)] S2 (fun v3 S4 => aV v3 (Q S4)))) := by
  refine wM_laysLines ha hb hne (fun S1 f1 g1 g2 g3 => ?_)
  show aWM (d + 1) 38 [.ref 1000, .int (nI a), .int (nI b)] S1 _
  refine wM_laysRead ha hb hne (fun S2 f2 g4 g5 => ?_)
  show Q S2
  have k1 : ∀ i k, ¬ lnC i → ga S1 i k = ga S i k := f1.1
  have k2 : ∀ i k, ¬ rdC i → ga S2 i k = ga S1 i k := f2.1
  refine h S2 (frM.tr (f1.le (fun i hi => by unfold lnC at hi; unfold mrC; omega) (fun _ q => q)) (f2.le (fun i hi => by unfold rdC at hi; unfold mrC; omega) (fun _ q => q))) ⟨fun k => ?_, fun k => ?_, fun k => ?_, fun k => ?_, fun k => ?_⟩
  · rw [k2 _ _ (by unfold rdC; omega)]; exact g1 k
  · rw [k2 _ _ (by unfold rdC; omega)]; exact g2 k
  · rw [k2 _ _ (by unfold rdC; omega)]; exact g3 k
  · have := g4 k
    rw [k1 _ _ (by unfold lnC; omega), k1 _ _ (by unfold lnC; omega)] at this
    exact this
  · have := g5 k
    rw [k1 _ _ (by unfold lnC; omega), k1 _ _ (by unfold lnC; omega)] at this
    exact this
end
