/-! a whole falls off the spike: both sides -/
def zOff (z : zS) (w : Nat) : zS := ((zSe z, zWr z, zSp z - 1), zGo z, zSt z, zLe z, fun j f => if j < w then zSk z j f else zSk z (j + 1) f)
theorem okZ_off {r : zR} {z : zS} {w : Nat} (h : okZ r z) (hw : w < zSp z) : okZ r (zOff z w) := by
  obtain ⟨h1, h2, h3, h4, h5, h6⟩ := h
  refine ⟨h1, h2, ?_, h4, h5, fun k f hk hf => ?_⟩
  · show zSp z - 1 ≤ 10
    omega
  · have hk' : k < zSp z - 1 := hk
    show (if k < w then zSk z k f else zSk z (k + 1) f) < rWd r ∧ rFd r (if k < w then zSk z k f else zSk z (k + 1) f) = f
    by_cases c : k < w
    · rw [if_pos c]
      exact h6 k f (by omega) hf
    · rw [if_neg c]
      exact h6 (k + 1) f (by omega) hf
def sft (S : aS) (a n : Nat) : aS := (S.1, S.2.1, S.2.2.1, va_up S.2.2.2.1 1032 (fun k => if a ≤ k ∧ k < a + n then S.2.2.2.1 1032 (k + 4) else S.2.2.2.1 1032 k), S.2.2.2.2)
theorem sft_0 (S : aS) (a : Nat) : sft S a 0 = S := by
  have e : va_up S.2.2.2.1 1032 (fun k => if a ≤ k ∧ k < a + 0 then S.2.2.2.1 1032 (k + 4) else S.2.2.2.1 1032 k) = S.2.2.2.1 := by
    funext i k
    unfold va_up
    by_cases h : i = 1032
    · subst h
      rw [if_pos rfl, if_neg (by omega)]
    · rw [if_neg h]
  unfold sft
  rw [e]
theorem ga_sft (S : aS) (a n i k : Nat) : ga (sft S a n) i k = if i = 1032 then (if a ≤ k ∧ k < a + n then ga S 1032 (k + 4) else ga S 1032 k) else ga S i k := by
  unfold ga sft va_up
  dsimp only
  by_cases h : i = 1032
  · rw [if_pos h, if_pos h]
  · rw [if_neg h, if_neg h]
theorem sft_step (S : aS) (a n : Nat) : sa (sft S a n) 1032 (a + n) (ga (sft S a n) 1032 (a + n + 4)) = sft S a (n + 1) := by
  have e1 : ga (sft S a n) 1032 (a + n + 4) = S.2.2.2.1 1032 (a + n + 4) := by
    rw [ga_sft, if_pos rfl, if_neg (by omega)]
    rfl
  rw [e1]
  have e : va_up (sft S a n).2.2.2.1 1032 (upd ((sft S a n).2.2.2.1 1032) (a + n) (S.2.2.2.1 1032 (a + n + 4))) = (sft S a (n + 1)).2.2.2.1 := by
    funext i k
    unfold sft va_up upd
    dsimp only
    by_cases h : i = 1032
    · subst h
      rw [if_pos rfl, if_pos rfl, if_pos rfl]
      by_cases hk : k = a + n
      · subst hk
        rw [if_pos rfl, if_pos (by omega)]
      · rw [if_neg hk]
        by_cases h2 : a ≤ k ∧ k < a + n
        · rw [if_pos h2, if_pos (by omega)]
        · rw [if_neg h2, if_neg (by omega)]
    · rw [if_neg h, if_neg h, if_neg h]
  unfold sa
  rw [e]
  rfl
def sC (i : Nat) : Prop := i = 1032
def nF (_ : Nat) : Prop := False
theorem frM_sft {S : aS} {a n : Nat} : frM sC nF S (sft S a n) := by
  refine ⟨fun j m hj => ?_, fun _ _ _ => rfl, fun _ _ => rfl, fun _ _ => rfl⟩
  rw [ga_sft, if_neg (show ¬ j = 1032 from hj)]
section
variable {d : Nat} {Q : Value → aS → Prop} {S : aS} {r : zR} {z : zS} {t w : Nat}
theorem wM_fallsOff (hr : okR r) (hz : okZ r z) (hw : w < zSp z) (hs : stM r z (ga S 1032) 0) (h : ∀ S', frM sC nF S S' → stM r (zOff z w) (ga S' 1032) 0 → Q .null S') : aWM (d + 1) 56 [.ref 1000, .int (nI w)] S Q := by
  have hsp := hz.2.2.1
  have hwd := hr.2.1
  have hwr := hz.2.1
  have hfo := hr.2.2.1.2
  refine mM_fallsOff ?_
  have e0 : (20 : Int32) + 4 * nI w = nI (20 + 4 * w) := by
    rw [show (4 : Int32) = nI 4 from rfl, show (20 : Int32) = nI 20 from rfl, nI_mulN, nI_add]
  rw [e0]
  have loop : ∀ m k, 20 + 4 * w + k + m = 56 → aBM d 56 Q 6 [some (.ref 1000), none, some (.int (nI (20 + 4 * w + k)))] [] (sft S (20 + 4 * w) k) := by
    intro m
    induction m with
    | zero =>
      intro k hk
      have hk' : 20 + 4 * w + k = 56 := by omega
      rw [hk']
      refine bM_fallsOff_6 ⟨fun _ => ⟨vin (by decide), vin (by decide), ?_⟩, fun q => absurd (show (56 : Int32) ≤ nI 56 by decide) q⟩
      have e1 : ga (sft S (20 + 4 * w) k) 1032 (3 : Int32).toNatClampNeg = nI (zSp z) := by
        show ga (sft S (20 + 4 * w) k) 1032 3 = _
        rw [ga_sft, if_pos rfl, if_neg (by omega)]
        exact hs.2.2.2.1
      have e2 : nI (zSp z) - 1 = nI (zSp z - 1) := by
        have := nI_pred (zSp z - 1)
        rw [show zSp z - 1 + 1 = zSp z by omega] at this
        exact this
      rw [e1, e2]
      refine h _ (frM_sft.tr (frM_sa rfl)) ?_
      have hga : ∀ i, ga (sa (sft S (20 + 4 * w) k) 1032 (3 : Int32).toNatClampNeg (nI (zSp z - 1))) 1032 i = if i = 3 then nI (zSp z - 1) else (if 20 + 4 * w ≤ i ∧ i < 56 then ga S 1032 (i + 4) else ga S 1032 i) := by
        intro i
        rw [ga_sa, ga_sft, if_pos rfl, hk']
        by_cases c : i = 3
        · subst c
          rw [if_pos ⟨rfl, rfl⟩, if_pos rfl]
        · rw [if_neg (fun q => c q.2), if_neg c]
      obtain ⟨s1, s2, s3, s4, s5, s6, s7⟩ := hs
      refine ⟨?_, ?_, ?_, ?_, fun f hf => ?_, fun v hv => ?_, fun j f hj hf => ?_⟩
      · rw [hga, if_neg (by decide), if_neg (by omega)]; exact s1
      · rw [hga, if_neg (by decide), if_neg (by omega)]; exact s2
      · rw [hga, if_neg (by decide), if_neg (by omega)]; exact s3
      · rw [hga, if_pos rfl]; rfl
      · have hf' : f < zWr z := hf
        rw [hga, if_neg (by omega), if_neg (by omega)]; exact s5 f hf
      · rw [hga, if_neg (by omega), if_neg (by omega)]; exact s6 v hv
      · have hj' : j < zSp z - 1 := hj
        rw [hga, if_neg (by omega)]
        show _ = nI (if j < w then zSk z j f else zSk z (j + 1) f)
        by_cases c : j < w
        · rw [if_pos c, if_neg (by omega)]
          exact s7 j f (by omega) hf
        · rw [if_neg c, if_pos (by omega)]
          have := s7 (j + 1) f (by omega) hf
          rw [show 0 + 20 + 4 * (j + 1) + f = 0 + 20 + 4 * j + f + 4 by omega] at this
          exact this
    | succ m ih =>
      intro k hk
      have hn := ih (k + 1) (by omega)
      rw [← sft_step] at hn
      refine bM_fallsOff_6 ⟨fun q => absurd q (nI_ge (a := 20 + 4 * w + k) (b := 56) (by omega) (by decide)), fun _ => ?_⟩
      rw [show (4 : Int32) = nI 4 from rfl, nI_add, nI_clamp (by omega), nI_clamp (by omega), nI_1]
      exact ⟨nI_in (by omega) (by decide), nI_in (by omega) (by decide), hn⟩
  have h9 := loop (36 - 4 * w) 0 (by omega)
  rw [sft_0] at h9
  exact h9
end
