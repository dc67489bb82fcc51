/-! a whole falls off the spike: the class -/
theorem nI_subN {a b : Nat} (h : b ≤ a) : nI a - nI b = nI (a - b) := by
  have e : nI a = nI (a - b) + nI b := by rw [nI_add, Nat.sub_add_cancel h]
  rw [e, Int32.add_sub_cancel]
theorem ga_scpN (S : aS) (x y a b n : Nat) (ha : a < 2 ^ 31) (hb : b < 2 ^ 31) (hn : n < 2 ^ 31) (i k : Nat) : ga (scp S x (nI a) y (nI b) (nI n)) i k = if i = y then (if b ≤ k ∧ k < b + n then ga S x (a + (k - b)) else ga S y k) else ga S i k := by
  unfold ga scp va_up va_cpy
  dsimp only
  rw [nI_clamp ha, nI_clamp hb, nI_clamp hn]
  by_cases h : i = y
  · rw [if_pos h, if_pos h]
  · rw [if_neg h, if_neg h]
section
variable {d : Nat} {Q : Value → aS → Prop} {S : aS} {r : zR} {z : zS} {t w : Nat}
/-- the cells of a Standing are four -/
def stN (t : Nat) : Prop := art t 0 ≠ art t 1 ∧ art t 0 ≠ art t 2 ∧ art t 1 ≠ art t 2
theorem wX_closeGap (hr : okR r) (hz : okZ r z) (ht : isSt t) (hn : stN t) (hw : w < zSp z) (hs : stX r z S t) (h : ∀ S', frX (stC t) S S' → stX r (zOff z w) S' t → Q .null S') : aWX (d + 2) 93 [.ref t, .int (nI w)] S Q := by
  have hsp := hz.2.2.1
  have hfo := hr.2.2.1.2
  refine mX_Standing_closeGap (gK_ok ht.1 (wX_hasWhole hz ht hs ?_))
  rw [idx_some (by omega) hw]
  refine ⟨fun q => absurd q bI_some, fun _ => gK_ok ht.1 ?_⟩
  have e1 : (nI w + 1) * 4 = nI (4 * (w + 1)) := by
    rw [nI_1, show (4 : Int32) = nI 4 from rfl, nI_mulN, Nat.mul_comm]
  have e2 : nI (4 * (w + 1)) - 4 = nI (4 * w) := by
    rw [show (4 : Int32) = nI 4 from rfl, nI_subN (by omega), show 4 * (w + 1) - 4 = 4 * w by omega]
  have e3 : nI (zSp z) * 4 - nI (4 * (w + 1)) = nI (4 * (zSp z - (w + 1))) := by
    rw [show (4 : Int32) = nI 4 from rfl, nI_mulN, nI_subN (by omega), show zSp z * 4 - 4 * (w + 1) = 4 * (zSp z - (w + 1)) by omega]
  rw [hs.2.2.2.1, e1, e2, e3]
  refine ⟨fun q => absurd q (nI_nlt (b := zSp z) (a := 10) hsp (by decide)), fun _ => gK_ok ht.1 (gK_ok ht.1 (gK_ok ht.1 (gK_ok ht.2.2.2.1 ⟨?_, ?_⟩)))⟩
  · refine ⟨ht.2.2.2.1, nI_pos (by omega), nI_pos (by omega), nI_pos (by omega), ?_, ?_⟩ <;> rw [nI_clamp (by omega), nI_clamp (by omega), ht.2.2.2.2.2.2] <;> omega
  · refine bX_Standing_closeGap_29 (gK_ok ht.1 (gK_ok ht.1 ?_))
    have e4 : gi (scp S (art t 2) (nI (4 * (w + 1))) (art t 2) (nI (4 * w)) (nI (4 * (zSp z - (w + 1))))) t 5 - 1 = nI (zSp z - 1) := by
      show gi S t 5 - 1 = _
      rw [hs.2.2.2.1]
      have := nI_pred (zSp z - 1)
      rw [show zSp z - 1 + 1 = zSp z by omega] at this
      exact this
    rw [e4]
    refine h _ ((frX_scp (Or.inr (Or.inr (Or.inr rfl)))).tr (frX_si (Or.inl rfl))) ?_
    have hga : ∀ i k, ga (si (scp S (art t 2) (nI (4 * (w + 1))) (art t 2) (nI (4 * w)) (nI (4 * (zSp z - (w + 1))))) t 5 (nI (zSp z - 1))) i k = if i = art t 2 then (if 4 * w ≤ k ∧ k < 4 * w + 4 * (zSp z - (w + 1)) then ga S (art t 2) (4 * (w + 1) + (k - 4 * w)) else ga S (art t 2) k) else ga S i k := by
      intro i k
      rw [ga_si]
      exact ga_scpN S _ _ _ _ _ (by omega) (by omega) (by omega) i k
    have hgi : ∀ k, k ≠ 5 → gi (si (scp S (art t 2) (nI (4 * (w + 1))) (art t 2) (nI (4 * w)) (nI (4 * (zSp z - (w + 1))))) t 5 (nI (zSp z - 1))) t k = gi S t k := by
      intro k hk
      rw [gi_si, if_neg (fun q => hk q.2)]
      rfl
    obtain ⟨s1, s2, s3, s4, s5, s6, s7⟩ := hs
    refine ⟨(hgi 4 (by decide)).trans s1, (hgi 3 (by decide)).trans s2, (hgi 6 (by decide)).trans s3, ?_, fun f hf => ?_, fun v hv => ?_, fun j f hj hf => ?_⟩
    · rw [gi_si, if_pos ⟨rfl, rfl⟩]
      rfl
    · rw [hga, if_neg hn.2.2]
      exact s5 f hf
    · rw [hga, if_neg hn.2.1]
      exact s6 v hv
    · have hj' : j < zSp z - 1 := hj
      rw [hga, if_pos rfl]
      show _ = nI (if j < w then zSk z j f else zSk z (j + 1) f)
      by_cases c : j < w
      · rw [if_pos c, if_neg (by omega)]
        exact s7 j f (by omega) hf
      · rw [if_neg c, if_pos (by omega), show 4 * (w + 1) + (4 * j + f - 4 * w) = 4 * (j + 1) + f by omega]
        exact s7 (j + 1) f (by omega) hf
end
