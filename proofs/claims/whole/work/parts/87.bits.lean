/-! sets of words as bits: counts, rows -/
def bq (x : Int32) (i : Nat) : Bool := x.toBitVec.getLsbD i
theorem bq_and (x y : Int32) (i : Nat) : bq (x &&& y) i = (bq x i && bq y i) := by
  unfold bq
  rw [Int32.toBitVec_and, BitVec.getLsbD_and]
theorem bq_not (x : Int32) (i : Nat) : bq (x ^^^ -1) i = (decide (i < 32) && !bq x i) := by
  unfold bq
  rw [Int32.toBitVec_xor, BitVec.getLsbD_xor, show (-1 : Int32).toBitVec = BitVec.allOnes 32 from rfl, BitVec.getLsbD_allOnes]
  by_cases c : i < 32
  · rw [decide_eq_true c]
    cases x.toBitVec.getLsbD i <;> rfl
  · rw [decide_eq_false c, BitVec.getLsbD_of_ge _ _ (by omega)]
    rfl
theorem bq_nI (n i : Nat) : bq (nI n) i = (decide (i < 32) && n.testBit i) := BitVec.getLsbD_ofNat 32 n i
theorem bq_ext {x y : Int32} (h : ∀ i, i < 32 → bq x i = bq y i) : x = y := Int32.toBitVec_inj.mp (BitVec.eq_of_getLsbD_eq h)
theorem bq_0 (i : Nat) : bq 0 i = false := by
  rw [show (0 : Int32) = nI 0 from rfl, bq_nI, Nat.zero_testBit, Bool.and_false]
theorem bq_neg {x : Int32} (h : x < 0) : bq x 31 = true := by
  have h1 : x.toInt < 0 := by
    rw [Int32.lt_iff_toInt_lt] at h
    exact h
  have h2 : x.toBitVec.toInt < 0 := h1
  have := BitVec.msb_eq_toInt (x := x.toBitVec)
  rw [decide_eq_true h2, BitVec.msb_eq_getLsbD_last] at this
  exact this
theorem bq_lt {x : Int32} {m : Nat} (hm : m ≤ 31) (h : ∀ i, m ≤ i → i < 32 → bq x i = false) : ∃ n, n < 2 ^ m ∧ x = nI n ∧ ∀ i, n.testBit i = bq x i := by
  have hb : ∀ i, x.toBitVec.toNat.testBit i = bq x i := fun i => rfl
  refine ⟨x.toBitVec.toNat, Nat.lt_pow_two_of_testBit _ (fun i hi => ?_), ?_, hb⟩
  · rw [hb]
    rcases Nat.lt_or_ge i 32 with q | q
    · exact h i hi q
    · unfold bq
      exact BitVec.getLsbD_of_ge _ _ q
  · apply Int32.toBitVec_inj.mp
    show x.toBitVec = BitVec.ofNat 32 x.toBitVec.toNat
    rw [BitVec.ofNat_toNat, BitVec.setWidth_eq]
def pcN (n : Nat) : Nat := nSum (fun w => if n.testBit w = true then 1 else 0) 12
def bcX (p0 : Int32) : Int32 := ((((((((p0 - (((p0.toUInt32 >>> ((1 : Int32).toUInt32 &&& Int32.toUInt32 31)).toInt32) &&& (1431655765 : Int32))) &&& (858993459 : Int32)) + ((((p0 - (((p0.toUInt32 >>> ((1 : Int32).toUInt32 &&& Int32.toUInt32 31)).toInt32) &&& (1431655765 : Int32))).toUInt32 >>> ((2 : Int32).toUInt32 &&& Int32.toUInt32 31)).toInt32) &&& (858993459 : Int32))) + (((((p0 - (((p0.toUInt32 >>> ((1 : Int32).toUInt32 &&& Int32.toUInt32 31)).toInt32) &&& (1431655765 : Int32))) &&& (858993459 : Int32)) + ((((p0 - (((p0.toUInt32 >>> ((1 : Int32).toUInt32 &&& Int32.toUInt32 31)).toInt32) &&& (1431655765 : Int32))).toUInt32 >>> ((2 : Int32).toUInt32 &&& Int32.toUInt32 31)).toInt32) &&& (858993459 : Int32))).toUInt32 >>> ((4 : Int32).toUInt32 &&& Int32.toUInt32 31)).toInt32)) &&& (252645135 : Int32)) + (((((((p0 - (((p0.toUInt32 >>> ((1 : Int32).toUInt32 &&& Int32.toUInt32 31)).toInt32) &&& (1431655765 : Int32))) &&& (858993459 : Int32)) + ((((p0 - (((p0.toUInt32 >>> ((1 : Int32).toUInt32 &&& Int32.toUInt32 31)).toInt32) &&& (1431655765 : Int32))).toUInt32 >>> ((2 : Int32).toUInt32 &&& Int32.toUInt32 31)).toInt32) &&& (858993459 : Int32))) + (((((p0 - (((p0.toUInt32 >>> ((1 : Int32).toUInt32 &&& Int32.toUInt32 31)).toInt32) &&& (1431655765 : Int32))) &&& (858993459 : Int32)) + ((((p0 - (((p0.toUInt32 >>> ((1 : Int32).toUInt32 &&& Int32.toUInt32 31)).toInt32) &&& (1431655765 : Int32))).toUInt32 >>> ((2 : Int32).toUInt32 &&& Int32.toUInt32 31)).toInt32) &&& (858993459 : Int32))).toUInt32 >>> ((4 : Int32).toUInt32 &&& Int32.toUInt32 31)).toInt32)) &&& (252645135 : Int32)).toUInt32 >>> ((8 : Int32).toUInt32 &&& Int32.toUInt32 31)).toInt32)) + ((((((((p0 - (((p0.toUInt32 >>> ((1 : Int32).toUInt32 &&& Int32.toUInt32 31)).toInt32) &&& (1431655765 : Int32))) &&& (858993459 : Int32)) + ((((p0 - (((p0.toUInt32 >>> ((1 : Int32).toUInt32 &&& Int32.toUInt32 31)).toInt32) &&& (1431655765 : Int32))).toUInt32 >>> ((2 : Int32).toUInt32 &&& Int32.toUInt32 31)).toInt32) &&& (858993459 : Int32))) + (((((p0 - (((p0.toUInt32 >>> ((1 : Int32).toUInt32 &&& Int32.toUInt32 31)).toInt32) &&& (1431655765 : Int32))) &&& (858993459 : Int32)) + ((((p0 - (((p0.toUInt32 >>> ((1 : Int32).toUInt32 &&& Int32.toUInt32 31)).toInt32) &&& (1431655765 : Int32))).toUInt32 >>> ((2 : Int32).toUInt32 &&& Int32.toUInt32 31)).toInt32) &&& (858993459 : Int32))).toUInt32 >>> ((4 : Int32).toUInt32 &&& Int32.toUInt32 31)).toInt32)) &&& (252645135 : Int32)) + (((((((p0 - (((p0.toUInt32 >>> ((1 : Int32).toUInt32 &&& Int32.toUInt32 31)).toInt32) &&& (1431655765 : Int32))) &&& (858993459 : Int32)) + ((((p0 - (((p0.toUInt32 >>> ((1 : Int32).toUInt32 &&& Int32.toUInt32 31)).toInt32) &&& (1431655765 : Int32))).toUInt32 >>> ((2 : Int32).toUInt32 &&& Int32.toUInt32 31)).toInt32) &&& (858993459 : Int32))) + (((((p0 - (((p0.toUInt32 >>> ((1 : Int32).toUInt32 &&& Int32.toUInt32 31)).toInt32) &&& (1431655765 : Int32))) &&& (858993459 : Int32)) + ((((p0 - (((p0.toUInt32 >>> ((1 : Int32).toUInt32 &&& Int32.toUInt32 31)).toInt32) &&& (1431655765 : Int32))).toUInt32 >>> ((2 : Int32).toUInt32 &&& Int32.toUInt32 31)).toInt32) &&& (858993459 : Int32))).toUInt32 >>> ((4 : Int32).toUInt32 &&& Int32.toUInt32 31)).toInt32)) &&& (252645135 : Int32)).toUInt32 >>> ((8 : Int32).toUInt32 &&& Int32.toUInt32 31)).toInt32)).toUInt32 >>> ((16 : Int32).toUInt32 &&& Int32.toUInt32 31)).toInt32)) &&& (63 : Int32))
theorem bcX_p2 : ∀ a, a < 64 → ∀ b, b < 64 → bcX (nI (64 * a + b)) = nI (pcN (64 * a + b)) := by decide +kernel
theorem bcX_pc (n : Nat) (h : n < 4096) : bcX (nI n) = nI (pcN n) := by
  have := bcX_p2 (n / 64) (by omega) (n % 64) (by omega)
  rw [Nat.div_add_mod] at this
  exact this
theorem pcN_le (n : Nat) : pcN n ≤ 12 := by
  have := nSum_le (f := fun w => if n.testBit w = true then 1 else 0) (m := 1) 12 (fun k _ => by split <;> omega)
  unfold pcN
  omega
theorem bitN_pc {n : Nat} (hn : n < 2 ^ 31) : ∀ k, k ≤ 12 → bitN (nI n) k = nI (nSum (fun w => if n.testBit w = true then 1 else 0) k)
  | 0, _ => rfl
  | k + 1, h => by
    show bitN (nI n) k + ((nI n >>> (nI k &&& 31)) &&& 1) = nI (nSum (fun w => if n.testBit w = true then 1 else 0) k + (if n.testBit k = true then 1 else 0))
    rw [bitN_pc hn k (by omega), bitAt hn (by omega), ← nI_add]
    split <;> rfl
theorem nSum_mono {f : Nat → Nat} {k : Nat} : ∀ m, k ≤ m → nSum f k ≤ nSum f m := by
  intro m
  induction m with
  | zero => intro h; rw [show k = 0 by omega]; exact Nat.le_refl _
  | succ m ih =>
    intro h
    rcases Nat.lt_or_ge m k with q | q
    · rw [show k = m + 1 by omega]; exact Nat.le_refl _
    · have := ih q
      show nSum f k ≤ nSum f m + f m
      omega
theorem nSum_one {f : Nat → Nat} {a n : Nat} (h : a < n) : f a ≤ nSum f n := by
  have h1 := nSum_mono (f := f) (k := a + 1) n h
  have h2 : nSum f (a + 1) = nSum f a + f a := rfl
  omega
theorem nSum_two {f : Nat → Nat} {a b n : Nat} (hab : a ≠ b) (ha : a < n) (hb : b < n) : f a + f b ≤ nSum f n := by
  rcases Nat.lt_or_ge a b with q | q
  · have h1 := nSum_mono (f := f) (k := b + 1) n hb
    have h2 : nSum f (b + 1) = nSum f b + f b := rfl
    have h3 := nSum_one (f := f) q
    omega
  · have h1 := nSum_mono (f := f) (k := a + 1) n ha
    have h2 : nSum f (a + 1) = nSum f a + f a := rfl
    have h3 := nSum_one (f := f) (a := b) (n := a) (by omega)
    omega
theorem nSum_zero {f : Nat → Nat} : ∀ n, nSum f n = 0 → ∀ k, k < n → f k = 0 := fun n h k hk => by
  have := nSum_one (f := f) hk
  omega
theorem nSum_ex {f : Nat → Nat} : ∀ n, 0 < nSum f n → ∃ k, k < n ∧ 0 < f k
  | 0, h => absurd h (Nat.lt_irrefl 0)
  | n + 1, h => by
    have h2 : nSum f (n + 1) = nSum f n + f n := rfl
    rcases Nat.eq_zero_or_pos (f n) with q | q
    · obtain ⟨k, a, b⟩ := nSum_ex (f := f) n (by omega)
      exact ⟨k, by omega, b⟩
    · exact ⟨n, by omega, q⟩
/-- of a fold: how many of these words -/
def cntB (r : zR) (P : Nat → Bool) (f : Nat) : Nat := nSum (fun w => if rFd r w = f ∧ P w = true then 1 else 0) (rWd r)
def rowB (r : zR) (P : Nat → Bool) (f0 : Nat) : Prop := (∀ f, f0 ≤ f → f < rFo r → cntB r P f = 1) ∧ ∀ i, i < 32 → P i = true → i < rWd r ∧ f0 ≤ rFd r i ∧ rFd r i < rFo r
theorem cnt_ex {r : zR} {P : Nat → Bool} {f : Nat} (h : cntB r P f = 1) : ∃ w, (w < rWd r ∧ rFd r w = f ∧ P w = true) ∧ ∀ v, v < rWd r → rFd r v = f → P v = true → v = w := by
  obtain ⟨w, hw, hp⟩ := nSum_ex (f := fun w => if rFd r w = f ∧ P w = true then 1 else 0) (rWd r) (by unfold cntB at h; omega)
  have hc : rFd r w = f ∧ P w = true := by
    by_cases q : rFd r w = f ∧ P w = true
    · exact q
    · rw [if_neg q] at hp
      exact absurd hp (Nat.lt_irrefl 0)
  refine ⟨w, ⟨hw, hc⟩, fun v hv h1 h2 => ?_⟩
  by_cases q : v = w
  · exact q
  · have := nSum_two (f := fun w => if rFd r w = f ∧ P w = true then 1 else 0) q hv hw
    rw [if_pos ⟨h1, h2⟩, if_pos hc] at this
    unfold cntB at h
    omega
theorem cnt_all {r : zR} (hr : okR r) (P : Nat → Bool) : ∀ k, k ≤ rWd r → nSum (fun w => if P w = true then 1 else 0) k = nSum (fun w => if rFd r w = 0 ∧ P w = true then 1 else 0) k + nSum (fun w => if rFd r w = 1 ∧ P w = true then 1 else 0) k + nSum (fun w => if rFd r w = 2 ∧ P w = true then 1 else 0) k + nSum (fun w => if rFd r w = 3 ∧ P w = true then 1 else 0) k
  | 0, _ => rfl
  | k + 1, h => by
    have ih := cnt_all hr P k (by omega)
    have h3 := (hr.2.2.2.2.2.1 k (by omega)).1
    show nSum (fun w => if P w = true then 1 else 0) k + (if P k = true then 1 else 0) = (nSum (fun w => if rFd r w = 0 ∧ P w = true then 1 else 0) k + (if rFd r k = 0 ∧ P k = true then 1 else 0)) + (nSum (fun w => if rFd r w = 1 ∧ P w = true then 1 else 0) k + (if rFd r k = 1 ∧ P k = true then 1 else 0)) + (nSum (fun w => if rFd r w = 2 ∧ P w = true then 1 else 0) k + (if rFd r k = 2 ∧ P k = true then 1 else 0)) + (nSum (fun w => if rFd r w = 3 ∧ P w = true then 1 else 0) k + (if rFd r k = 3 ∧ P k = true then 1 else 0))
    by_cases hp : P k = true
    · rw [if_pos hp]
      have : rFd r k = 0 ∨ rFd r k = 1 ∨ rFd r k = 2 ∨ rFd r k = 3 := by omega
      rcases this with q | q | q | q <;> simp only [q, hp] <;> simp (decide := true) only [if_true, if_false, and_true, and_false] <;> omega
    · rw [if_neg hp, if_neg (fun q => hp q.2), if_neg (fun q => hp q.2), if_neg (fun q => hp q.2), if_neg (fun q => hp q.2)]
      omega
theorem cnt_pc {r : zR} (hr : okR r) {n : Nat} (hn : n < 2 ^ rWd r) : pcN n = cntB r n.testBit 0 + cntB r n.testBit 1 + cntB r n.testBit 2 + cntB r n.testBit 3 := by
  unfold pcN
  rw [nSum_pad (n := rWd r) 12 hr.2.1 (fun k h1 _ => if_neg (by rw [Nat.testBit_lt_two_pow (Nat.lt_of_lt_of_le hn (Nat.pow_le_pow_right (by decide) h1))]; decide))]
  exact cnt_all hr n.testBit (rWd r) (Nat.le_refl _)
theorem rowB_pc {r : zR} (hr : okR r) {n f0 : Nat} (hn : n < 2 ^ rWd r) (h0 : f0 < rFo r) (h1 : ∀ f, f0 ≤ f → f < rFo r → cntB r n.testBit f = 1) : rowB r n.testBit f0 ↔ pcN n = rFo r - f0 := by
  have hfo := hr.2.2.1
  have hc := cnt_pc hr hn
  have z : ∀ f, cntB r n.testBit f = 0 → ∀ w, w < rWd r → rFd r w = f → n.testBit w = false := fun f hf w hw e => by
    have := nSum_zero _ hf w hw
    cases hb : n.testBit w with
    | false => rfl
    | true => rw [if_pos ⟨e, hb⟩] at this; cases this
  have a0 := fun q1 q2 => h1 0 q1 q2
  have a1 := fun q1 q2 => h1 1 q1 q2
  have a2 := fun q1 q2 => h1 2 q1 q2
  have a3 := fun q1 q2 => h1 3 q1 q2
  refine ⟨fun h => ?_, fun h => ⟨h1, fun i hi hb => ?_⟩⟩
  · have y : ∀ f, f < 4 → ¬ (f0 ≤ f ∧ f < rFo r) → cntB r n.testBit f = 0 := fun f hf hq => by
      rcases Nat.eq_zero_or_pos (cntB r n.testBit f) with q | q
      · exact q
      · obtain ⟨w, hw, hp⟩ := nSum_ex _ q
        by_cases c : rFd r w = f ∧ n.testBit w = true
        · have := h.2 w (by have := hr.2.1; omega) c.2
          exact absurd ⟨by omega, by omega⟩ hq
        · rw [if_neg c] at hp
          exact absurd hp (Nat.lt_irrefl 0)
    have y0 := y 0 (by decide)
    have y1 := y 1 (by decide)
    have y2 := y 2 (by decide)
    have y3 := y 3 (by decide)
    omega
  · have hi2 : i < rWd r := by
      rcases Nat.lt_or_ge i (rWd r) with q | q
      · exact q
      · rw [Nat.testBit_lt_two_pow (Nat.lt_of_lt_of_le hn (Nat.pow_le_pow_right (by decide) q))] at hb
        cases hb
    refine ⟨hi2, ?_⟩
    have h3 := (hr.2.2.2.2.2.1 i hi2).1
    by_cases c : f0 ≤ rFd r i ∧ rFd r i < rFo r
    · exact c
    · exfalso
      have hz : cntB r n.testBit (rFd r i) = 0 := by
        have : rFd r i = 0 ∨ rFd r i = 1 ∨ rFd r i = 2 ∨ rFd r i = 3 := by omega
        rcases this with q | q | q | q <;> rw [q] at c ⊢ <;> omega
      rw [z _ hz i hi2 rfl] at hb
      cases hb
