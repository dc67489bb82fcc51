/-! the tie: feed -/
def byN (w : Int64) (s : Nat) : Nat := (w.toUInt64.toNat >>> s) % 256
theorem sh_nat {w : Int64} {a : Int32} {s : Nat} (e : (a.toInt64.toUInt64 &&& Int64.toUInt64 63).toNat = s) (hs : s < 64) : (w.toUInt64 >>> (a.toInt64.toUInt64 &&& Int64.toUInt64 63)).toNat = w.toUInt64.toNat >>> s := by
  rw [UInt64.toNat_shiftRight, e, Nat.mod_eq_of_lt hs]
theorem by_low (u : UInt64) : (u.toInt64.toInt32 &&& 255) = nI (u.toNat % 256) := by
  apply Int32.toBitVec_inj.mp
  apply BitVec.eq_of_toNat_eq
  rw [Int32.toBitVec_and, BitVec.toNat_and, Int64.toBitVec_toInt32, BitVec.signExtend_eq_setWidth_of_le _ (by decide)]
  show (BitVec.setWidth 32 u.toBitVec).toNat &&& 255 = (BitVec.ofNat 32 (u.toNat % 256)).toNat
  rw [BitVec.toNat_setWidth, BitVec.toNat_ofNat, show (255 : Nat) = 2 ^ 8 - 1 from rfl, Nat.and_two_pow_sub_one_eq_mod]
  show u.toNat % 2 ^ 32 % 2 ^ 8 = _
  omega
theorem by_low2 (u : UInt64) : ((u.toInt64 &&& 255).toInt32) = nI (u.toNat % 256) := by
  apply Int32.toBitVec_inj.mp
  apply BitVec.eq_of_toNat_eq
  rw [Int64.toBitVec_toInt32, BitVec.signExtend_eq_setWidth_of_le _ (by decide)]
  show (BitVec.setWidth 32 (u.toBitVec &&& 255#64)).toNat = (BitVec.ofNat 32 (u.toNat % 256)).toNat
  rw [BitVec.toNat_setWidth, BitVec.toNat_and, show ((255#64).toNat : Nat) = 2 ^ 8 - 1 from rfl, Nat.and_two_pow_sub_one_eq_mod, BitVec.toNat_ofNat]
  show u.toNat % 2 ^ 8 % 2 ^ 32 = _
  omega
theorem sh_a : ∀ m, m < 8 → ((nI (56 - 8 * m)).toInt64.toUInt64 &&& Int64.toUInt64 63).toNat = 56 - 8 * m := by decide +kernel
theorem sh_b : ∀ k, k < 24 → (56 - (8 * (nI k &&& 7)) : Int32) = nI (56 - 8 * (k % 8)) := by decide +kernel
theorem sh_n : ∀ c, c < 127 → vp_nar .byte (nI c).toInt8.toInt32 = nI c := by decide +kernel
theorem sh_s : ∀ m, m < 8 → nI (56 - 8 * m) + -8 = (if m = 7 then -8 else nI (56 - 8 * (m + 1))) := by decide +kernel
theorem byX {w : Int64} {m : Nat} (hm : m < 8) : ((((w.toUInt64 >>> ((nI (56 - 8 * m)).toInt64.toUInt64 &&& Int64.toUInt64 63)).toInt64).toInt32) &&& 255) = nI (byN w (56 - 8 * m)) := by
  rw [by_low, sh_nat (sh_a m hm) (by omega)]
  rfl
theorem byM {w : Int64} {k : Nat} (hk : k < 24) : ((((w.toUInt64 >>> ((56 - (8 * (nI k &&& 7)) : Int32).toInt64.toUInt64 &&& Int64.toUInt64 63)).toInt64) &&& 255).toInt32) = nI (byN w (56 - 8 * (k % 8))) := by
  rw [by_low2, sh_b k hk, sh_nat (sh_a (k % 8) (by omega)) (by omega)]
  rfl
abbrev okC (c : Nat) : Prop := c = 10 ∨ (32 ≤ c ∧ c ≤ 126)
def pushB (tp : List Nat) (c : Nat) : List Nat := if tp.length < 1000 ∧ okC c then tp ++ [c] else tp
def tN (tp : List Nat) (b : Nat → Nat) : Nat → List Nat
  | 0 => tp
  | n + 1 => pushB (tN tp b n) (b n)
theorem okT_push {tp : List Nat} {c : Nat} (h : okT tp) : okT (pushB tp c) := by
  unfold pushB
  by_cases q : tp.length < 1000 ∧ okC c
  · rw [if_pos q]
    refine ⟨by rw [List.length_append]; show tp.length + 1 ≤ 1000; omega, fun x hx => ?_⟩
    rcases List.mem_append.mp hx with h1 | h1
    · exact h.2 x h1
    · rw [List.mem_singleton.mp h1]
      exact q.2
  · rw [if_neg q]
    exact h
theorem okT_N {tp : List Nat} {b : Nat → Nat} (h : okT tp) : ∀ n, okT (tN tp b n)
  | 0 => h
  | n + 1 => okT_push (okT_N h n)
def tpC (i : Nat) : Prop := i = 1 ∨ i = 2
theorem okC_iff {n : Nat} (hn : n < 256) {P1 P0 : Prop} (h1 : okC n → P1) (h0 : ¬ okC n → P0) : ((nI n = 10 → P1) ∧ (¬ nI n = 10 → ((nI n < 32 → P0) ∧ (¬ nI n < 32 → ((126 < nI n → P0) ∧ (¬ 126 < nI n → P1)))))) := by
  have e10 : nI n = 10 ↔ n = 10 := nI_eq (a := n) (b := 10) (by omega) (by decide)
  have e32 : nI n < 32 ↔ n < 32 := nI_ltI (a := n) (b := 32) (by omega) (by decide)
  have e126 : (126 : Int32) < nI n ↔ 126 < n := nI_ltI (a := 126) (b := n) (by decide) (by omega)
  rw [e10, e32, e126]
  refine ⟨fun q => h1 (Or.inl q), fun q => ⟨fun c => h0 (by unfold okC; omega), fun c => ⟨fun c2 => h0 (by unfold okC; omega), fun c2 => h1 (by unfold okC; omega)⟩⟩⟩
section
variable {d : Nat} {Q : Value → aS → Prop} {S : aS}
theorem wX_append {w : Int64} {tp : List Nat} (ht : okT tp) (hs : tpX tp S) (h : ∀ S', frX tpC S S' → tpX (tN tp (fun m => byN w (56 - 8 * m)) 8) S' → Q .null S') : aWX (d + 1) 103 [.ref 1, .long w] S Q := by
  refine mX_Tokens_append ?_
  have loop : ∀ n m T, m + n = 8 → frX tpC S T → tpX (tN tp (fun m => byN w (56 - 8 * m)) m) T → aBX d 103 Q 2 [some (.ref 1), some (.long w), none, some (.int (if m = 8 then -8 else nI (56 - 8 * m))), none, none] [] T := by
    intro n
    induction n with
    | zero =>
      intro m T hm h1 h2
      obtain rfl : m = 8 := by omega
      exact bX_Tokens_append_2 ⟨fun _ => h T h1 h2, fun q => absurd (by decide) q⟩
    | succ n ih =>
      intro m T hm h1 h2
      rw [if_neg (by omega)]
      have okm := okT_N (b := fun m => byN w (56 - 8 * m)) ht m
      have hb : byN w (56 - 8 * m) < 256 := Nat.mod_lt _ (by decide)
      have es : nI (56 - 8 * m) + -8 = (if m + 1 = 8 then -8 else nI (56 - 8 * (m + 1))) := by
        rw [sh_s m (by omega)]
        by_cases c : m = 7
        · rw [if_pos c, if_pos (by omega)]
        · rw [if_neg c, if_neg (by omega)]
      refine bX_Tokens_append_2 ⟨fun q => absurd q (nI_pos (by omega)), fun _ => ?_⟩
      rw [byX (by omega)]
      have same : ¬ ((tN tp (fun m => byN w (56 - 8 * m)) m).length < 1000 ∧ okC (byN w (56 - 8 * m))) → aBX d 103 Q 2 [some (.ref 1), some (.long w), none, some (.int (nI (56 - 8 * m) + -8)), none, none] [] T := fun q => by
        rw [es]
        refine ih (m + 1) T (by omega) h1 ?_
        show tpX (pushB _ _) T
        unfold pushB
        rw [if_neg q]
        exact h2
      refine okC_iff hb (fun c => bX_Tokens_append_23 ⟨fun q => absurd q (by decide), fun _ => ?_⟩) (fun c => bX_Tokens_append_23 ⟨fun _ => same (fun q => c q.2), fun q => absurd rfl q⟩)
      rw [h2.1, show (1000 : Int32) = nI 1000 from rfl, nI_leI (by decide) (by have := okm.1; omega)]
      refine ⟨fun q => same (fun q2 => by omega), fun q => ⟨nI_in (by omega) (by have := okm.1; omega), ?_⟩⟩
      rw [nI_clamp (by have := okm.1; omega), es, sh_n _ (by unfold okC at c; omega)]
      refine ih (m + 1) _ (by omega) (frX.tr (frX.tr h1 (frX_sa (Or.inr rfl))) (frX_si (Or.inl rfl))) ?_
      show tpX (pushB _ _) _
      unfold pushB
      rw [if_pos ⟨by omega, c⟩]
      refine ⟨?_, fun k x hk => ?_⟩
      · rw [gi_si, if_pos ⟨rfl, rfl⟩, gi_sa, h2.1, nI_1, List.length_append]
        rfl
      · rw [ga_si, ga_sa]
        by_cases ck : k = (tN tp (fun m => byN w (56 - 8 * m)) m).length
        · subst ck
          rw [List.getElem?_append_right (Nat.le_refl _), Nat.sub_self] at hk
          cases hk
          rw [if_pos ⟨rfl, rfl⟩]
        · rw [if_neg (fun q => ck q.2)]
          have hlt := (List.getElem?_eq_some_iff.mp hk).1
          rw [List.length_append] at hlt
          rw [List.getElem?_append_left (by rw [List.length_singleton] at hlt; omega)] at hk
          exact h2.2 k x hk
  exact loop 8 0 S rfl frX.rf hs
end
