/-! the constructors of both classes: their links, what they make -/
def bnl : List aQ := [(2, 9, 8, 0), (4, 9, 8, 0), (5, 19, 1, 0), (6, 40, 0, 0), (10, 9, 9, 0), (10, 16, 5, 0), (10, 25, 6, 0), (10, 35, 4, 0), (10, 46, 2, 0), (10, 53, 8, 0), (10, 60, 3, 0), (10, 67, 7, 0)]
theorem bnl_0 : bNok (2, 9, 8, 0) := ⟨_, rfl, aW_t 287 (by decide +kernel) (by decide +kernel)⟩
theorem bnl_1 : bNok (4, 9, 8, 0) := ⟨_, rfl, aW_t 222 (by decide +kernel) (by decide +kernel)⟩
theorem bnl_2 : bNok (5, 19, 1, 0) := ⟨_, rfl, aW_t 82 (by decide +kernel) (by decide +kernel)⟩
theorem bnl_3 : bNok (6, 40, 0, 0) := ⟨_, rfl, aW_t 114 (by decide +kernel) (by decide +kernel)⟩
theorem bnl_4 : bNok (10, 9, 9, 0) := ⟨_, rfl, aW_t 35 (by decide +kernel) (by decide +kernel)⟩
theorem bnl_5 : bNok (10, 16, 5, 0) := ⟨_, rfl, aW_t 76 (by decide +kernel) (by decide +kernel)⟩
theorem bnl_6 : bNok (10, 25, 6, 0) := ⟨_, rfl, aW_t 108 (by decide +kernel) (by decide +kernel)⟩
theorem bnl_7 : bNok (10, 35, 4, 0) := ⟨_, rfl, aW_t 216 (by decide +kernel) (by decide +kernel)⟩
theorem bnl_8 : bNok (10, 46, 2, 0) := ⟨_, rfl, aW_t 281 (by decide +kernel) (by decide +kernel)⟩
theorem bnl_9 : bNok (10, 53, 8, 0) := ⟨_, rfl, aW_t 301 (by decide +kernel) (by decide +kernel)⟩
theorem bnl_10 : bNok (10, 60, 3, 0) := ⟨_, rfl, aW_t 303 (by decide +kernel) (by decide +kernel)⟩
theorem bnl_11 : bNok (10, 67, 7, 0) := ⟨_, rfl, aW_t 333 (by decide +kernel) (by decide +kernel)⟩
theorem bnl_ok : ∀ q ∈ bnl, bNok q := List.forall_mem_cons.mpr ⟨bnl_0, List.forall_mem_cons.mpr ⟨bnl_1, List.forall_mem_cons.mpr ⟨bnl_2, List.forall_mem_cons.mpr ⟨bnl_3, List.forall_mem_cons.mpr ⟨bnl_4, List.forall_mem_cons.mpr ⟨bnl_5, List.forall_mem_cons.mpr ⟨bnl_6, List.forall_mem_cons.mpr ⟨bnl_7, List.forall_mem_cons.mpr ⟨bnl_8, List.forall_mem_cons.mpr ⟨bnl_9, List.forall_mem_cons.mpr ⟨bnl_10, List.forall_mem_cons.mpr ⟨bnl_11, fun _ h => absurd h List.not_mem_nil⟩⟩⟩⟩⟩⟩⟩⟩⟩⟩⟩⟩
def bM0 : bMI := (yX1_init, cX1_init, 3, 2, 2, 37, 29)
def bM1 : bMI := (yX2_init, cX2_init, 2, 1, 0, 0, 9)
def bM2 : bMI := (yX3_init, cX3_init, 2, 0, 65, 1024, 40)
def bM3 : bMI := (yX4_init, cX4_init, 1, 0, 6, 659, 53)
def bM4 : bMI := (yX5_init, cX5_init, 1, 0, 5, 103, 23)
def bM5 : bMI := (yX6_init, cX6_init, 2, 1, 2, 41, 29)
def bM6 : bMI := (yX7_init, cX7_init, 2, 0, 16, 1228, 111)
def bM7 : bMI := (yX8_init, cX8_init, 1, 0, 1, 12, 12)
def bM8 : bMI := (yX10_init, cX10_init, 1, 0, 3, 56, 27)
def bM9 : bMI := (yX11_init, cX11_init, 1, 0, 1, 1000, 20)
def bM10 : bMI := (yX12_init, cX12_init, 2, 0, 151, 5874, 156)
def bM11 : bMI := (yX13_init, cX13_init, 1, 0, 40, 5276, 323)
def bBM (k : Nat) : bMI := cond (Nat.ble k 5) (cond (Nat.ble k 2) (cond (Nat.ble k 0) (bM0) (cond (Nat.ble k 1) (bM1) (bM2))) (cond (Nat.ble k 3) (bM3) (cond (Nat.ble k 4) (bM4) (bM5)))) (cond (Nat.ble k 8) (cond (Nat.ble k 6) (bM6) (cond (Nat.ble k 7) (bM7) (bM8))) (cond (Nat.ble k 9) (bM9) (cond (Nat.ble k 10) (bM10) (bM11))))
def bcl : List aQ := [(0, 1, 0, 1), (1, 3, 0, 1), (2, 3, 0, 1), (2, 17, 8, 0), (3, 3, 0, 1), (4, 3, 0, 1), (4, 11, 8, 0), (5, 3, 0, 1), (5, 21, 1, 0), (6, 3, 0, 1), (6, 42, 0, 0), (7, 3, 0, 1), (8, 3, 0, 1), (9, 3, 0, 1), (10, 3, 0, 1), (10, 11, 9, 0), (10, 18, 5, 0), (10, 27, 6, 0), (10, 37, 4, 0), (10, 48, 2, 0), (10, 55, 8, 0), (10, 62, 3, 0), (10, 69, 7, 0), (11, 1, 0, 1)]
theorem bcl_0 : bCok bBM (0, 1, 0, 1) := ⟨fun _ => aW_t 119 (by decide +kernel) (by decide +kernel), fun h => absurd rfl h⟩
theorem bcl_1 : bCok bBM (1, 3, 0, 1) := ⟨fun _ => aW_t 87 (by decide +kernel) (by decide +kernel), fun h => absurd rfl h⟩
theorem bcl_2 : bCok bBM (2, 3, 0, 1) := ⟨fun _ => aW_t 286 (by decide +kernel) (by decide +kernel), fun h => absurd rfl h⟩
theorem bcl_3 : bCok bBM (2, 17, 8, 0) := ⟨fun h => absurd h (by decide), fun _ => Or.inr (aN_t 289 (by decide +kernel) (by decide +kernel))⟩
theorem bcl_4 : bCok bBM (3, 3, 0, 1) := ⟨fun _ => aW_t 308 (by decide +kernel) (by decide +kernel), fun h => absurd rfl h⟩
theorem bcl_5 : bCok bBM (4, 3, 0, 1) := ⟨fun _ => aW_t 221 (by decide +kernel) (by decide +kernel), fun h => absurd rfl h⟩
theorem bcl_6 : bCok bBM (4, 11, 8, 0) := ⟨fun h => absurd h (by decide), fun _ => Or.inr (aN_t 224 (by decide +kernel) (by decide +kernel))⟩
theorem bcl_7 : bCok bBM (5, 3, 0, 1) := ⟨fun _ => aW_t 81 (by decide +kernel) (by decide +kernel), fun h => absurd rfl h⟩
theorem bcl_8 : bCok bBM (5, 21, 1, 0) := ⟨fun h => absurd h (by decide), fun _ => Or.inl (aW_t 84 (by decide +kernel) (by decide +kernel))⟩
theorem bcl_9 : bCok bBM (6, 3, 0, 1) := ⟨fun _ => aW_t 113 (by decide +kernel) (by decide +kernel), fun h => absurd rfl h⟩
theorem bcl_10 : bCok bBM (6, 42, 0, 0) := ⟨fun h => absurd h (by decide), fun _ => Or.inl (aW_t 116 (by decide +kernel) (by decide +kernel))⟩
theorem bcl_11 : bCok bBM (7, 3, 0, 1) := ⟨fun _ => aW_t 338 (by decide +kernel) (by decide +kernel), fun h => absurd rfl h⟩
theorem bcl_12 : bCok bBM (8, 3, 0, 1) := ⟨fun _ => aW_t 227 (by decide +kernel) (by decide +kernel), fun h => absurd rfl h⟩
theorem bcl_13 : bCok bBM (9, 3, 0, 1) := ⟨fun _ => aW_t 40 (by decide +kernel) (by decide +kernel), fun h => absurd rfl h⟩
theorem bcl_14 : bCok bBM (10, 3, 0, 1) := ⟨fun _ => aW_t 32 (by decide +kernel) (by decide +kernel), fun h => absurd rfl h⟩
theorem bcl_15 : bCok bBM (10, 11, 9, 0) := ⟨fun h => absurd h (by decide), fun _ => Or.inr (aN_t 37 (by decide +kernel) (by decide +kernel))⟩
theorem bcl_16 : bCok bBM (10, 18, 5, 0) := ⟨fun h => absurd h (by decide), fun _ => Or.inl (aW_t 78 (by decide +kernel) (by decide +kernel))⟩
theorem bcl_17 : bCok bBM (10, 27, 6, 0) := ⟨fun h => absurd h (by decide), fun _ => Or.inl (aW_t 110 (by decide +kernel) (by decide +kernel))⟩
theorem bcl_18 : bCok bBM (10, 37, 4, 0) := ⟨fun h => absurd h (by decide), fun _ => Or.inr (aN_t 218 (by decide +kernel) (by decide +kernel))⟩
theorem bcl_19 : bCok bBM (10, 48, 2, 0) := ⟨fun h => absurd h (by decide), fun _ => Or.inl (aW_t 283 (by decide +kernel) (by decide +kernel))⟩
theorem bcl_20 : bCok bBM (10, 55, 8, 0) := ⟨fun h => absurd h (by decide), fun _ => Or.inr (aN_t 302 (by decide +kernel) (by decide +kernel))⟩
theorem bcl_21 : bCok bBM (10, 62, 3, 0) := ⟨fun h => absurd h (by decide), fun _ => Or.inr (aN_t 305 (by decide +kernel) (by decide +kernel))⟩
theorem bcl_22 : bCok bBM (10, 69, 7, 0) := ⟨fun h => absurd h (by decide), fun _ => Or.inr (aN_t 335 (by decide +kernel) (by decide +kernel))⟩
theorem bcl_23 : bCok bBM (11, 1, 0, 1) := ⟨fun _ => aW_t 1251 (by decide +kernel) (by decide +kernel), fun h => absurd rfl h⟩
theorem bcl_ok : ∀ q ∈ bcl, bCok bBM q := List.forall_mem_cons.mpr ⟨bcl_0, List.forall_mem_cons.mpr ⟨bcl_1, List.forall_mem_cons.mpr ⟨bcl_2, List.forall_mem_cons.mpr ⟨bcl_3, List.forall_mem_cons.mpr ⟨bcl_4, List.forall_mem_cons.mpr ⟨bcl_5, List.forall_mem_cons.mpr ⟨bcl_6, List.forall_mem_cons.mpr ⟨bcl_7, List.forall_mem_cons.mpr ⟨bcl_8, List.forall_mem_cons.mpr ⟨bcl_9, List.forall_mem_cons.mpr ⟨bcl_10, List.forall_mem_cons.mpr ⟨bcl_11, List.forall_mem_cons.mpr ⟨bcl_12, List.forall_mem_cons.mpr ⟨bcl_13, List.forall_mem_cons.mpr ⟨bcl_14, List.forall_mem_cons.mpr ⟨bcl_15, List.forall_mem_cons.mpr ⟨bcl_16, List.forall_mem_cons.mpr ⟨bcl_17, List.forall_mem_cons.mpr ⟨bcl_18, List.forall_mem_cons.mpr ⟨bcl_19, List.forall_mem_cons.mpr ⟨bcl_20, List.forall_mem_cons.mpr ⟨bcl_21, List.forall_mem_cons.mpr ⟨bcl_22, List.forall_mem_cons.mpr ⟨bcl_23, fun _ h => absurd h List.not_mem_nil⟩⟩⟩⟩⟩⟩⟩⟩⟩⟩⟩⟩⟩⟩⟩⟩⟩⟩⟩⟩⟩⟩⟩⟩
theorem bMok_0 : bMok 0 bM0 := ⟨by decide +kernel, rfl, rfl, ⟨by decide +kernel, by decide +kernel, by decide +kernel⟩, by decide, aW_t 118 (by decide +kernel) (by decide +kernel), aW_t 117 (by decide +kernel) (by decide +kernel), aW_t 8 (by decide +kernel) (by decide +kernel), by decide +kernel⟩
theorem bMok_1 : bMok 1 bM1 := ⟨by decide +kernel, rfl, rfl, ⟨by decide +kernel, by decide +kernel, by decide +kernel⟩, by decide, aW_t 86 (by decide +kernel) (by decide +kernel), aW_t 85 (by decide +kernel) (by decide +kernel), aW_t 6 (by decide +kernel) (by decide +kernel), by decide +kernel⟩
theorem bMok_2 : bMok 2 bM2 := ⟨by decide +kernel, rfl, rfl, ⟨by decide +kernel, by decide +kernel, by decide +kernel⟩, by decide, aW_t 285 (by decide +kernel) (by decide +kernel), aW_t 284 (by decide +kernel) (by decide +kernel), aW_t 11 (by decide +kernel) (by decide +kernel), by decide +kernel⟩
theorem bMok_3 : bMok 3 bM3 := ⟨by decide +kernel, rfl, rfl, ⟨by decide +kernel, by decide +kernel, by decide +kernel⟩, by decide, aW_t 307 (by decide +kernel) (by decide +kernel), aW_t 306 (by decide +kernel) (by decide +kernel), aW_t 12 (by decide +kernel) (by decide +kernel), by decide +kernel⟩
theorem bMok_4 : bMok 4 bM4 := ⟨by decide +kernel, rfl, rfl, ⟨by decide +kernel, by decide +kernel, by decide +kernel⟩, by decide, aW_t 220 (by decide +kernel) (by decide +kernel), aW_t 219 (by decide +kernel) (by decide +kernel), aW_t 9 (by decide +kernel) (by decide +kernel), by decide +kernel⟩
theorem bMok_5 : bMok 5 bM5 := ⟨by decide +kernel, rfl, rfl, ⟨by decide +kernel, by decide +kernel, by decide +kernel⟩, by decide, aW_t 80 (by decide +kernel) (by decide +kernel), aW_t 79 (by decide +kernel) (by decide +kernel), aW_t 5 (by decide +kernel) (by decide +kernel), by decide +kernel⟩
theorem bMok_6 : bMok 6 bM6 := ⟨by decide +kernel, rfl, rfl, ⟨by decide +kernel, by decide +kernel, by decide +kernel⟩, by decide, aW_t 112 (by decide +kernel) (by decide +kernel), aW_t 111 (by decide +kernel) (by decide +kernel), aW_t 7 (by decide +kernel) (by decide +kernel), by decide +kernel⟩
theorem bMok_7 : bMok 7 bM7 := ⟨by decide +kernel, rfl, rfl, ⟨by decide +kernel, by decide +kernel, by decide +kernel⟩, by decide, aW_t 337 (by decide +kernel) (by decide +kernel), aW_t 336 (by decide +kernel) (by decide +kernel), aW_t 13 (by decide +kernel) (by decide +kernel), by decide +kernel⟩
theorem bMok_8 : bMok 8 bM8 := ⟨by decide +kernel, rfl, rfl, ⟨by decide +kernel, by decide +kernel, by decide +kernel⟩, by decide, aW_t 226 (by decide +kernel) (by decide +kernel), aW_t 225 (by decide +kernel) (by decide +kernel), aW_t 10 (by decide +kernel) (by decide +kernel), by decide +kernel⟩
theorem bMok_9 : bMok 9 bM9 := ⟨by decide +kernel, rfl, rfl, ⟨by decide +kernel, by decide +kernel, by decide +kernel⟩, by decide, aW_t 39 (by decide +kernel) (by decide +kernel), aW_t 38 (by decide +kernel) (by decide +kernel), aW_t 2 (by decide +kernel) (by decide +kernel), by decide +kernel⟩
theorem bcl_B : ∀ q ∈ bcl, q.2.2.2 ≠ 1 → bMok q.2.2.1 (bBM q.2.2.1) := List.forall_mem_cons.mpr ⟨fun h => absurd rfl h, List.forall_mem_cons.mpr ⟨fun h => absurd rfl h, List.forall_mem_cons.mpr ⟨fun h => absurd rfl h, List.forall_mem_cons.mpr ⟨fun _ => bMok_8, List.forall_mem_cons.mpr ⟨fun h => absurd rfl h, List.forall_mem_cons.mpr ⟨fun h => absurd rfl h, List.forall_mem_cons.mpr ⟨fun _ => bMok_8, List.forall_mem_cons.mpr ⟨fun h => absurd rfl h, List.forall_mem_cons.mpr ⟨fun _ => bMok_1, List.forall_mem_cons.mpr ⟨fun h => absurd rfl h, List.forall_mem_cons.mpr ⟨fun _ => bMok_0, List.forall_mem_cons.mpr ⟨fun h => absurd rfl h, List.forall_mem_cons.mpr ⟨fun h => absurd rfl h, List.forall_mem_cons.mpr ⟨fun h => absurd rfl h, List.forall_mem_cons.mpr ⟨fun h => absurd rfl h, List.forall_mem_cons.mpr ⟨fun _ => bMok_9, List.forall_mem_cons.mpr ⟨fun _ => bMok_5, List.forall_mem_cons.mpr ⟨fun _ => bMok_6, List.forall_mem_cons.mpr ⟨fun _ => bMok_4, List.forall_mem_cons.mpr ⟨fun _ => bMok_2, List.forall_mem_cons.mpr ⟨fun _ => bMok_8, List.forall_mem_cons.mpr ⟨fun _ => bMok_3, List.forall_mem_cons.mpr ⟨fun _ => bMok_7, List.forall_mem_cons.mpr ⟨fun h => absurd rfl h, fun _ h => absurd h List.not_mem_nil⟩⟩⟩⟩⟩⟩⟩⟩⟩⟩⟩⟩⟩⟩⟩⟩⟩⟩⟩⟩⟩⟩⟩⟩
theorem bI_ok : ∀ ci, bIok ci := by
  intro ci r h
  match ci, h with
  | 0, h => cases h; exact ⟨aW_t 115 (by decide +kernel) (by decide +kernel), aW_t 8 (by decide +kernel) (by decide +kernel)⟩
  | 1, h => cases h; exact ⟨aW_t 83 (by decide +kernel) (by decide +kernel), aW_t 6 (by decide +kernel) (by decide +kernel)⟩
  | 2, h => cases h; exact ⟨aW_t 282 (by decide +kernel) (by decide +kernel), aW_t 11 (by decide +kernel) (by decide +kernel)⟩
  | 3, h => cases h; exact ⟨aW_t 304 (by decide +kernel) (by decide +kernel), aW_t 12 (by decide +kernel) (by decide +kernel)⟩
  | 4, h => cases h; exact ⟨aW_t 217 (by decide +kernel) (by decide +kernel), aW_t 9 (by decide +kernel) (by decide +kernel)⟩
  | 5, h => cases h; exact ⟨aW_t 77 (by decide +kernel) (by decide +kernel), aW_t 5 (by decide +kernel) (by decide +kernel)⟩
  | 6, h => cases h; exact ⟨aW_t 109 (by decide +kernel) (by decide +kernel), aW_t 7 (by decide +kernel) (by decide +kernel)⟩
  | 7, h => cases h; exact ⟨aW_t 334 (by decide +kernel) (by decide +kernel), aW_t 13 (by decide +kernel) (by decide +kernel)⟩
  | 8, h => cases h; exact ⟨aW_t 223 (by decide +kernel) (by decide +kernel), aW_t 10 (by decide +kernel) (by decide +kernel)⟩
  | 9, h => cases h; exact ⟨aW_t 36 (by decide +kernel) (by decide +kernel), aW_t 2 (by decide +kernel) (by decide +kernel)⟩
  | 10, h => cases h; exact ⟨aW_t 28 (by decide +kernel) (by decide +kernel), aW_t 1 (by decide +kernel) (by decide +kernel)⟩
  | 11, h => cases h; exact ⟨aW_t 1247 (by decide +kernel) (by decide +kernel), aW_t 15 (by decide +kernel) (by decide +kernel)⟩
  | n + 12, h => cases h
def S0XI : List (Nat × Nat × Int32) := [(6, 12, 3), (17, 0, 1), (23, 12, 3), (34, 0, 1)]
def S0XR : List (Nat × Nat × Nat) := [(0, 2, 6), (0, 3, 23), (1, 4, 2000)]
def S0X : aS := (fun i k => ((S0XI.find? fun q => Nat.beq q.1 i && Nat.beq q.2.1 k).map fun q => q.2.2).getD 0, fun _ _ => 0, fun i k => ((S0XR.find? fun q => Nat.beq q.1 i && Nat.beq q.2.1 k).map fun q => q.2.2).getD 0, fun _ _ => 0, fun _ _ => 0)
def S0MI : List (Nat × Nat × Int32) := []
def S0MR : List (Nat × Nat × Nat) := []
def S0M : aS := (fun i k => ((S0MI.find? fun q => Nat.beq q.1 i && Nat.beq q.2.1 k).map fun q => q.2.2).getD 0, fun _ _ => 0, fun i k => ((S0MR.find? fun q => Nat.beq q.1 i && Nat.beq q.2.1 k).map fun q => q.2.2).getD 0, fun _ _ => 0, fun _ _ => 0)
def afn (S : aS) (i : Nat) (q : Nat × Nat) : Value := match q.1 with
  | 0 => .int (gi S i q.2)
  | 1 => .int (gi S i q.2)
  | 2 => .long (gl S i q.2)
  | 3 => .ref (art i q.2)
  | _ => .ref (gr S i q.2)
def bCe (S : aS) (i : Nat) : bC := (akd i, cond (Nat.blt (akd i) 20) 0 (aln i), cond (Nat.blt (akd i) 20) ((aft (akd i)).zipIdx.map (afn S i)) (cond (Nat.ble 4 (akd i % 10)) ((List.range (aln i)).map fun k => .ref (ara i k)) []))
def bCs (o n : Nat) (S : aS) : List bC := (List.range n).map fun i => bCe S (o + i)
def bEq (r : Option bS) (S : bS) : Bool := match r with
  | some R => decide (R.1 = S.1) && (decide (R.2.1 = S.2.1) && (decide (R.2.2.1 = S.2.2.1) && (Nat.beq R.2.2.2.1 S.2.2.2.1 && Nat.beq R.2.2.2.2 S.2.2.2.2)))
  | none => false
theorem bEq_ok {r : Option bS} {S : bS} (h : bEq r S = true) : r = some S := by
  unfold bEq at h
  split at h
  · rename_i R
    simp only [Bool.and_eq_true, decide_eq_true_eq] at h
    obtain ⟨h1, h2, h3, h4, h5⟩ := h
    obtain ⟨a, b, c, d, e⟩ := R
    obtain ⟨a', b', c', d', e'⟩ := S
    have h4 := Nat.eq_of_beq_eq_true h4
    have h5 := Nat.eq_of_beq_eq_true h5
    dsimp only at h1 h2 h3 h4 h5
    rw [h1, h2, h3, h4, h5]
  · cases h
set_option maxRecDepth 1000000 in
theorem runX : bst 0 20 bnl bcl bBM 2000 6 10 0 ([some (.ref 0), none], [], [(10, 0, (aft 10).map bDf)], 0, 0) = some ([some (.ref 0), some (.int 4)], [], bCs 0 152 S0X, 151, 5874) := bEq_ok (by decide +kernel)
set_option maxRecDepth 1000000 in
theorem runM : bst 1000 30 bnl bcl bBM 2000 6 11 0 ([some (.ref 1000)], [], [(11, 0, (aft 11).map bDf)], 0, 0) = some ([some (.ref 1000)], [], bCs 1000 41 S0M, 40, 5276) := bEq_ok (by decide +kernel)
