/-! the reference keeps how it was -/
def frM (C F : Nat → Prop) (S S' : aS) : Prop := (∀ i k, ¬ C i → ga S' i k = ga S i k) ∧ (∀ i k, ¬ C i → gb S' i k = gb S i k) ∧ (∀ k, ¬ F k → gi S' 1000 k = gi S 1000 k) ∧ ∀ k, ¬ F k → gl S' 1000 k = gl S 1000 k
theorem frM.rf {C F : Nat → Prop} {S : aS} : frM C F S S := ⟨fun _ _ _ => rfl, fun _ _ _ => rfl, fun _ _ => rfl, fun _ _ => rfl⟩
theorem frM.tr {C F : Nat → Prop} {S S1 S2 : aS} (h : frM C F S S1) (h2 : frM C F S1 S2) : frM C F S S2 := ⟨fun i k hi => (h2.1 i k hi).trans (h.1 i k hi), fun i k hi => (h2.2.1 i k hi).trans (h.2.1 i k hi), fun k hk => (h2.2.2.1 k hk).trans (h.2.2.1 k hk), fun k hk => (h2.2.2.2 k hk).trans (h.2.2.2 k hk)⟩
theorem frM.le {C F C' F' : Nat → Prop} {S S' : aS} (h : frM C F S S') (hc : ∀ i, C i → C' i) (hf : ∀ i, F i → F' i) : frM C' F' S S' := ⟨fun i k hi => h.1 i k (fun q => hi (hc i q)), fun i k hi => h.2.1 i k (fun q => hi (hc i q)), fun k hk => h.2.2.1 k (fun q => hk (hf k q)), fun k hk => h.2.2.2 k (fun q => hk (hf k q))⟩
theorem frM_si {C F : Nat → Prop} {S : aS} {k : Nat} {v : Int32} (h : F k) : frM C F S (si S 1000 k v) := by
  refine ⟨fun _ _ _ => rfl, fun _ _ _ => rfl, fun m hm => ?_, fun _ _ => rfl⟩
  rw [gi_si, if_neg (show ¬ (1000 = 1000 ∧ m = k) from fun q => hm (q.2 ▸ h))]
theorem frM_sa {C F : Nat → Prop} {S : aS} {i k : Nat} {v : Int32} (h : C i) : frM C F S (sa S i k v) := by
  refine ⟨fun j m hj => ?_, fun _ _ _ => rfl, fun _ _ => rfl, fun _ _ => rfl⟩
  rw [ga_sa, if_neg (show ¬ (j = i ∧ m = k) from fun q => hj (q.1 ▸ h))]
theorem ga_lay (S : aS) (x a y b n i k : Nat) : ga (lay S x a y b n) i k = if i = y then (if b ≤ k ∧ k < b + n then ga S x (a + (k - b)) else ga S y k) else ga S i k := by
  unfold ga lay va_up
  dsimp only
  by_cases h : i = y
  · rw [if_pos h, if_pos h]
  · rw [if_neg h, if_neg h]
theorem frM_lay {C F : Nat → Prop} {S : aS} {x a y b n : Nat} (h : C y) : frM C F S (lay S x a y b n) := by
  refine ⟨fun j m hj => ?_, fun _ _ _ => rfl, fun _ _ => rfl, fun _ _ => rfl⟩
  rw [ga_lay, if_neg (show ¬ j = y from fun q => hj (q ▸ h))]
/-- a row of sixty laid elsewhere is the same standing -/
theorem stM.moved {r : zR} {z : zS} {f g : Nat → Int32} {a b : Nat} (hr : okR r) (hz : okZ r z) (h : stM r z f a) (hg : ∀ k, k < 60 → g (b + k) = f (a + k)) : stM r z g b := by
  obtain ⟨s1, s2, s3, s4, s5, s6, s7⟩ := h
  have hw := hr.2.1
  have hwr := hz.2.1
  have hfo := hr.2.2.1.2
  have hsp := hz.2.2.1
  refine ⟨(hg 0 (by decide)).trans s1, (hg 1 (by decide)).trans s2, (hg 2 (by decide)).trans s3, (hg 3 (by decide)).trans s4, fun k hk => ?_, fun w hw' => ?_, fun k e hk he => ?_⟩
  · have := hg (4 + k) (by omega)
    rw [← Nat.add_assoc, ← Nat.add_assoc] at this
    exact this.trans (s5 k hk)
  · have := hg (8 + w) (by omega)
    rw [← Nat.add_assoc, ← Nat.add_assoc] at this
    exact this.trans (s6 w hw')
  · have := hg (20 + 4 * k + e) (by omega)
    rw [show b + (20 + 4 * k + e) = b + 20 + 4 * k + e by omega, show a + (20 + 4 * k + e) = a + 20 + 4 * k + e by omega] at this
    exact this.trans (s7 k e hk he)
/-- what was kept, the oldest first -/
def hsM (r : zR) (hs : List zS) (S : aS) : Prop := gi S 1000 50 = nI hs.length ∧ hs.length ≤ 16 ∧ ∀ k z, hs[k]? = some z → okZ r z ∧ stM r z (ga S 1035) (60 * k)
/-- what is kept with one more -/
def hKeep (hs : List zS) (z : zS) : List zS := (if hs.length = 16 then hs.tail else hs) ++ [z]
def shl (S : aS) (n : Nat) : aS := (S.1, S.2.1, S.2.2.1, va_up S.2.2.2.1 1035 (fun k => if k < n then S.2.2.2.1 1035 (k + 60) else S.2.2.2.1 1035 k), S.2.2.2.2)
theorem shl_0 (S : aS) : shl S 0 = S := by
  have e : va_up S.2.2.2.1 1035 (fun k => if k < 0 then S.2.2.2.1 1035 (k + 60) else S.2.2.2.1 1035 k) = S.2.2.2.1 := by
    funext i k
    unfold va_up
    by_cases h : i = 1035
    · subst h
      rw [if_pos rfl, if_neg (by omega)]
    · rw [if_neg h]
  unfold shl
  rw [e]
theorem ga_shl (S : aS) (n i k : Nat) : ga (shl S n) i k = if i = 1035 then (if k < n then ga S 1035 (k + 60) else ga S 1035 k) else ga S i k := by
  unfold ga shl va_up
  dsimp only
  by_cases h : i = 1035
  · rw [if_pos h, if_pos h]
  · rw [if_neg h, if_neg h]
theorem shl_step (S : aS) (n : Nat) : sa (shl S n) 1035 n (ga (shl S n) 1035 (n + 60)) = shl S (n + 1) := by
  have e1 : ga (shl S n) 1035 (n + 60) = S.2.2.2.1 1035 (n + 60) := by
    rw [ga_shl, if_pos rfl, if_neg (by omega)]
    rfl
  rw [e1]
  have e : va_up (shl S n).2.2.2.1 1035 (upd ((shl S n).2.2.2.1 1035) n (S.2.2.2.1 1035 (n + 60))) = (shl S (n + 1)).2.2.2.1 := by
    funext i k
    unfold shl va_up upd
    dsimp only
    by_cases h : i = 1035
    · subst h
      rw [if_pos rfl, if_pos rfl, if_pos rfl]
      by_cases hk : k = n
      · subst hk
        rw [if_pos rfl, if_pos (by omega)]
      · rw [if_neg hk]
        by_cases h2 : k < n
        · rw [if_pos h2, if_pos (by omega)]
        · rw [if_neg h2, if_neg (by omega)]
    · rw [if_neg h, if_neg h, if_neg h]
  unfold sa
  rw [e]
  rfl
def kC (i : Nat) : Prop := i = 1035
def kF (k : Nat) : Prop := k = 50
theorem frM_shl {S : aS} {n : Nat} : frM kC kF S (shl S n) := by
  refine ⟨fun j m hj => ?_, fun _ _ _ => rfl, fun _ _ => rfl, fun _ _ => rfl⟩
  rw [ga_shl, if_neg (show ¬ j = 1035 from hj)]
section
variable {d : Nat} {Q : Value → aS → Prop} {S : aS} {r : zR} {z : zS} {hs : List zS}
/-- the last part: the row is laid behind those kept -/
theorem bM_keep (hr : okR r) (hz : okZ r z) (hh : hsM r hs S) (hl : hs.length < 16) (hz2 : stM r z (ga S 1032) 0) (h : ∀ S', frM kC kF S S' → hsM r (hs ++ [z]) S' → Q .null S') : aBM (d + 1) 54 Q 27 [some (.ref 1000), none] [] S := by
  obtain ⟨g1, g2, g3⟩ := hh
  refine bM_keeps_27 ?_
  have e1 : (60 : Int32) * gi S 1000 50 = nI (60 * hs.length) := by
    rw [g1, show (60 : Int32) = nI 60 from rfl, nI_mulN]
  rw [e1]
  refine wM_copies (p0 := 1032) (a := 0) (p2 := 1035) (b := 60 * hs.length) rfl rfl (by decide) (by decide) (by show 60 * hs.length + 60 ≤ 960; omega) (by decide) (by decide) ?_
  have e2 : gi (lay S 1032 0 1035 (60 * hs.length) 60) 1000 50 + 1 = nI (hs.length + 1) := by
    show gi S 1000 50 + 1 = _
    rw [g1, nI_1]
  show Q .null (si (lay S 1032 0 1035 (60 * hs.length) 60) 1000 50 (gi (lay S 1032 0 1035 (60 * hs.length) 60) 1000 50 + 1))
  rw [e2]
  refine h _ (frM.tr (frM_lay rfl) (frM_si rfl)) ⟨?_, by rw [List.length_append]; show hs.length + 1 ≤ 16; omega, fun k z1 hk => ?_⟩
  · rw [gi_si, if_pos ⟨rfl, rfl⟩, List.length_append]
    rfl
  · have hga : ∀ i, ga (si (lay S 1032 0 1035 (60 * hs.length) 60) 1000 50 (nI (hs.length + 1))) 1035 i = if 60 * hs.length ≤ i ∧ i < 60 * hs.length + 60 then ga S 1032 (0 + (i - 60 * hs.length)) else ga S 1035 i := by
      intro i
      rw [ga_si, ga_lay, if_pos rfl]
    rcases Nat.lt_trichotomy k hs.length with c | c | c
    · rw [List.getElem?_append_left c] at hk
      obtain ⟨a1, a2⟩ := g3 k z1 hk
      refine ⟨a1, a2.moved hr a1 (fun j hj => ?_)⟩
      rw [hga, if_neg (by omega)]
    · subst c
      rw [List.getElem?_append_right (Nat.le_refl _), Nat.sub_self] at hk
      cases hk
      refine ⟨hz, hz2.moved hr hz (fun j hj => ?_)⟩
      rw [hga, if_pos (by omega), show 60 * hs.length + j - 60 * hs.length = j by omega]
    · rw [List.getElem?_eq_none (by rw [List.length_append]; show hs.length + 1 ≤ k; omega)] at hk
      cases hk
end
