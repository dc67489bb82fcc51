/-! what the constructors made is a state of the small machine -/
theorem afn_atv (ad : Nat → Nat) (S : aS) (i : Nat) (q : Nat × Nat) : atv ad (afn S i q) = afv ad S i q := by
  obtain ⟨t, k⟩ := q
  match t with
  | 0 => rfl
  | 1 => rfl
  | 2 => rfl
  | 3 => rfl
  | n + 4 => rfl
theorem vp_cell_refs {cA : ClassId} {n : Nat} {f g : Nat → Option Nat} (h : ∀ j, j < n → f j = g j) : vp_cell cA (n, .inr (.inr (.inr (.inr f)))) = vp_cell cA (n, .inr (.inr (.inr (.inr g)))) := by
  rw [vp_cell_q, vp_cell_q]
  unfold arrV
  congr 2
  funext j
  show va_rf (f j.val) = va_rf (g j.val)
  rw [h j.val j.isLt]
theorem bCe_at {ad : Nat → Nat} {cy : Nat → ClassId} {D : va_G} {S : aS} {i : Nat} {H : Heap} (h1 : S.2.2.2.1 i = fun _ => 0) (h2 : S.2.2.2.2 i = fun _ => 0) : va_at D vwCl (ad i, bE ad cy (bCe S i)) H → va_at D vwCl (ad i, ace ad cy S i) H := by
  intro h
  unfold bCe at h
  unfold bE at h
  unfold ace
  dsimp only at h
  cases hk : Nat.blt (akd i) 20 with
  | true =>
    rw [hk] at h
    simp only [cond_true] at h ⊢
    rw [List.map_map] at h
    have he : (atv ad ∘ afn S i) = afv ad S i := by
      funext q
      exact afn_atv ad S i q
    rw [he] at h
    exact h
  | false =>
    rw [hk] at h
    simp only [cond_false] at h ⊢
    have h : H[ad i]? = some (vp_cell (cy (akd i % 10)) (aln i, bRw ad (akd i, aln i, cond (Nat.ble 4 (akd i % 10)) ((List.range (aln i)).map fun k => .ref (ara i k)) []))) := h
    show H[ad i]? = some (vp_cell (cy (akd i % 10)) (aln i, arw ad S i))
    rw [h]
    congr 1
    unfold bRw arw
    dsimp only
    have hrow : ∀ j, j < aln i → bOp ad (((List.range (aln i)).map fun k => Value.ref (ara i k)).getD j .null) = some (ad (ara i j)) := by
      intro j hj
      rw [List.getD_eq_getElem?_getD, List.getElem?_map, List.getElem?_range hj]
      rfl
    rcases Nat.lt_or_ge (akd i % 10) 4 with z | z
    · have : akd i % 10 = 0 ∨ akd i % 10 = 1 ∨ akd i % 10 = 2 ∨ akd i % 10 = 3 := by omega
      rcases this with z | z | z | z <;> simp only [z] <;> first | rw [h1] | rw [h2]
    · rw [Nat.ble_eq_true_of_le z]
      simp only [cond_true]
      have : akd i % 10 = 4 ∨ akd i % 10 = 5 ∨ akd i % 10 = 6 ∨ akd i % 10 = 7 ∨ akd i % 10 = 8 ∨ akd i % 10 = 9 := by omega
      rcases this with z | z | z | z | z | z <;> simp only [z] <;> first | exact vp_cell_refs hrow | rw [h1]
theorem bW_aws {ad : Nat → Nat} {cy : Nat → ClassId} {D : va_G} {S : aS} {o n : Nat} {H : Heap} (h1 : S.2.2.2.1 = fun _ _ => 0) (h2 : S.2.2.2.2 = fun _ _ => 0) (h : va_P D vwCl (bW ad cy o (bCs o n S)) H) : va_P D vwCl (aws ad cy ((List.range n).map fun i => o + i) S) H := by
  intro k q hq
  unfold aws at hq
  rw [List.getElem?_map, List.getElem?_map] at hq
  cases hk : (List.range n)[k]? with
  | none => rw [hk] at hq; cases hq
  | some i =>
    rw [hk] at hq
    cases hq
    obtain ⟨hlt, hi⟩ := List.getElem?_eq_some_iff.mp hk
    rw [List.getElem_range] at hi
    subst hi
    have hc : (bCs o n S)[k]? = some (bCe S (o + k)) := by
      unfold bCs
      rw [List.getElem?_map, hk]
      rfl
    exact bCe_at (by rw [h1]) (by rw [h2]) (h k _ (bW_get hc))
theorem bW_inj {ad : Nat → Nat} {cy : Nat → ClassId} {A : Nat → Prop} {S : aS} {o n : Nat} (h : va_D A (bW ad cy o (bCs o n S))) : (∀ i, i < n → A (ad (o + i))) ∧ ∀ i j, i < n → j < n → ad (o + i) = ad (o + j) → i = j := by
  have hc : ∀ k, k < n → (bCs o n S)[k]? = some (bCe S (o + k)) := by
    intro k hk
    unfold bCs
    rw [List.getElem?_map, List.getElem?_range hk]
    rfl
  constructor
  · intro i hi
    exact h.2 i _ (bW_get (hc i hi))
  · intro i j hi hj e
    exact h.1 i j _ _ (bW_get (hc i hi)) (bW_get (hc j hj)) e
/-- the cells of the class, of the reference -/
def idX : List Nat := (List.range 152).map fun i => 0 + i
def idM : List Nat := (List.range 41).map fun i => 1000 + i
theorem akd_big {i : Nat} (h : 1041 ≤ i) : akd i = 99 := by
  have hb : ∀ K, K < 1041 → Nat.ble i K = false := by
    intro K hK
    apply Bool.eq_false_iff.mpr
    intro z
    have := Nat.le_of_ble_eq_true z
    omega
  unfold akd
  simp [hb]
theorem akd_X : ∀ i, i < 1041 → rkX (akd i) = true → i < 152 := by decide +kernel
theorem akd_M : ∀ i, i < 1041 → rkM (akd i) = true → 1000 ≤ i := by decide +kernel
theorem regX : ∀ i k, akd i = k → rkX k = true → i ∈ idX := by
  intro i k h1 h2
  subst h1
  have hi : i < 1041 := by
    rcases Nat.lt_or_ge i 1041 with z | z
    · exact z
    · rw [akd_big z] at h2; cases h2
  have := akd_X i hi h2
  exact List.mem_map.mpr ⟨i, List.mem_range.mpr this, by omega⟩
theorem regM : ∀ i k, akd i = k → rkM k = true → i ∈ idM := by
  intro i k h1 h2
  subst h1
  have hi : i < 1041 := by
    rcases Nat.lt_or_ge i 1041 with z | z
    · exact z
    · rw [akd_big z] at h2; cases h2
  have := akd_M i hi h2
  exact List.mem_map.mpr ⟨i - 1000, List.mem_range.mpr (by omega), by omega⟩
theorem idX_nd : idX.Nodup := by decide +kernel
theorem idM_nd : idM.Nodup := by decide +kernel
