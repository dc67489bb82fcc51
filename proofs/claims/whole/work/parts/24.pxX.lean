/-! the class's further steps are those of the true machine -/
def aSn (i : Nat) : String := (["END", "NOTHING", "NUMBER", "NAME", "WRITER", "WORD", "FOLD", "WEIGHT", "GOOD", "LEFT", "LIKES", "CLASH", "FOLDS", "WRITES", "DOES", "WRITE", "BURN", "PASS", "PLAIN", "WISE", "WILD", "SLY", "NOT", "AND", "OR", "OPEN", "CLOSE", "LESS", "SAME", "PLUS", "MINUS", "TIMES", "STOP"] : List String).getD i ""
def aStF (v : Nat) : String × String × String := if v = 2100 then (RX12, "SORTS", "[LFoldedRealm$Sort;") else if v = 2101 then (RX0, "$SwitchMap$FoldedRealm$Sort", "[I") else (RX9, aSn (v - 2000), "LFoldedRealm$Sort;")
def ySl : MethodName := ⟨"java/lang/String", "length", "()I"⟩
def ySc : MethodName := ⟨"java/lang/String", "charAt", "(I)C"⟩
def ySo : MethodName := ⟨"FoldedRealm$Sort", "ordinal", "()I"⟩
def lkOk (q : Nat × Nat × Nat × Nat) : Prop :=
  (q.2.2.1 = 5010 → (Cond.fieldLink (aCN q.1) q.2.1 (aStF q.2.2.2).1 (aStF q.2.2.2).2.1 (aStF q.2.2.2).2.2 ∈ aWS ∨ Cond.fieldLinkNest (aCN q.1) q.2.1 (aStF q.2.2.2).1 (aStF q.2.2.2).2.1 (aStF q.2.2.2).2.2 RX12 ∈ aNW) ∧ (q.2.2.2 = 2100 ∨ q.2.2.2 = 2101 ∨ (2000 ≤ q.2.2.2 ∧ q.2.2.2 ≤ 2032))) ∧
  (q.2.2.1 = 5011 → Cond.fieldLink (aCN q.1) q.2.1 RX9 "text" "Ljava/lang/String;" ∈ aWS ∨ Cond.fieldLinkNest (aCN q.1) q.2.1 RX9 "text" "Ljava/lang/String;" RX12 ∈ aNW) ∧
  (q.2.2.1 = 5002 → Cond.methodLink (aCN q.1) q.2.1 arraycopyName ∈ aWS) ∧ (q.2.2.1 = 5003 → Cond.methodLink (aCN q.1) q.2.1 ySl ∈ aWS) ∧ (q.2.2.1 = 5004 → Cond.methodLink (aCN q.1) q.2.1 ySc ∈ aWS) ∧ (q.2.2.1 = 5005 → Cond.methodLink (aCN q.1) q.2.1 ySo ∈ aWS)
theorem lkX_0 : lkOk (1, 19, 5010, 2023) := ⟨fun _ => ⟨Or.inl (aW_t 695 (by decide +kernel) (by decide +kernel)), by decide⟩, fun h => absurd h (by decide), fun h => absurd h (by decide), fun h => absurd h (by decide), fun h => absurd h (by decide), fun h => absurd h (by decide)⟩
theorem lkX_1 : lkOk (1, 31, 5010, 2024) := ⟨fun _ => ⟨Or.inl (aW_t 697 (by decide +kernel) (by decide +kernel)), by decide⟩, fun h => absurd h (by decide), fun h => absurd h (by decide), fun h => absurd h (by decide), fun h => absurd h (by decide), fun h => absurd h (by decide)⟩
theorem lkX_2 : lkOk (1, 46, 5010, 2027) := ⟨fun _ => ⟨Or.inl (aW_t 691 (by decide +kernel) (by decide +kernel)), by decide⟩, fun h => absurd h (by decide), fun h => absurd h (by decide), fun h => absurd h (by decide), fun h => absurd h (by decide), fun h => absurd h (by decide)⟩
theorem lkX_3 : lkOk (1, 49, 5010, 2028) := ⟨fun _ => ⟨Or.inl (aW_t 693 (by decide +kernel) (by decide +kernel)), by decide⟩, fun h => absurd h (by decide), fun h => absurd h (by decide), fun h => absurd h (by decide), fun h => absurd h (by decide), fun h => absurd h (by decide)⟩
theorem lkX_4 : lkOk (1, 55, 5010, 2029) := ⟨fun _ => ⟨Or.inl (aW_t 687 (by decide +kernel) (by decide +kernel)), by decide⟩, fun h => absurd h (by decide), fun h => absurd h (by decide), fun h => absurd h (by decide), fun h => absurd h (by decide), fun h => absurd h (by decide)⟩
theorem lkX_5 : lkOk (1, 58, 5010, 2030) := ⟨fun _ => ⟨Or.inl (aW_t 689 (by decide +kernel) (by decide +kernel)), by decide⟩, fun h => absurd h (by decide), fun h => absurd h (by decide), fun h => absurd h (by decide), fun h => absurd h (by decide), fun h => absurd h (by decide)⟩
theorem lkX_6 : lkOk (1, 64, 5010, 2031) := ⟨fun _ => ⟨Or.inl (aW_t 685 (by decide +kernel) (by decide +kernel)), by decide⟩, fun h => absurd h (by decide), fun h => absurd h (by decide), fun h => absurd h (by decide), fun h => absurd h (by decide), fun h => absurd h (by decide)⟩
theorem lkX_7 : lkOk (1, 78, 5010, 2002) := ⟨fun _ => ⟨Or.inl (aW_t 662 (by decide +kernel) (by decide +kernel)), by decide⟩, fun h => absurd h (by decide), fun h => absurd h (by decide), fun h => absurd h (by decide), fun h => absurd h (by decide), fun h => absurd h (by decide)⟩
theorem lkX_8 : lkOk (1, 81, 5010, 2022) := ⟨fun _ => ⟨Or.inl (aW_t 663 (by decide +kernel) (by decide +kernel)), by decide⟩, fun h => absurd h (by decide), fun h => absurd h (by decide), fun h => absurd h (by decide), fun h => absurd h (by decide), fun h => absurd h (by decide)⟩
theorem lkX_9 : lkOk (1, 84, 5010, 2025) := ⟨fun _ => ⟨Or.inl (aW_t 665 (by decide +kernel) (by decide +kernel)), by decide⟩, fun h => absurd h (by decide), fun h => absurd h (by decide), fun h => absurd h (by decide), fun h => absurd h (by decide), fun h => absurd h (by decide)⟩
theorem lkX_10 : lkOk (1, 104, 5010, 2026) := ⟨fun _ => ⟨Or.inl (aW_t 683 (by decide +kernel) (by decide +kernel)), by decide⟩, fun h => absurd h (by decide), fun h => absurd h (by decide), fun h => absurd h (by decide), fun h => absurd h (by decide), fun h => absurd h (by decide)⟩
theorem lkX_11 : lkOk (1, 107, 5010, 2003) := ⟨fun _ => ⟨Or.inl (aW_t 643 (by decide +kernel) (by decide +kernel)), by decide⟩, fun h => absurd h (by decide), fun h => absurd h (by decide), fun h => absurd h (by decide), fun h => absurd h (by decide), fun h => absurd h (by decide)⟩
theorem lkX_12 : lkOk (1, 117, 5015, 2240) := ⟨fun h => absurd h (by decide), fun h => absurd h (by decide), fun h => absurd h (by decide), fun h => absurd h (by decide), fun h => absurd h (by decide), fun h => absurd h (by decide)⟩
theorem lkX_13 : lkOk (1, 123, 5015, 2241) := ⟨fun h => absurd h (by decide), fun h => absurd h (by decide), fun h => absurd h (by decide), fun h => absurd h (by decide), fun h => absurd h (by decide), fun h => absurd h (by decide)⟩
theorem lkX_14 : lkOk (1, 125, 5015, 2242) := ⟨fun h => absurd h (by decide), fun h => absurd h (by decide), fun h => absurd h (by decide), fun h => absurd h (by decide), fun h => absurd h (by decide), fun h => absurd h (by decide)⟩
theorem lkX_15 : lkOk (1, 127, 5015, 2243) := ⟨fun h => absurd h (by decide), fun h => absurd h (by decide), fun h => absurd h (by decide), fun h => absurd h (by decide), fun h => absurd h (by decide), fun h => absurd h (by decide)⟩
theorem lkX_16 : lkOk (1, 129, 5015, 2244) := ⟨fun h => absurd h (by decide), fun h => absurd h (by decide), fun h => absurd h (by decide), fun h => absurd h (by decide), fun h => absurd h (by decide), fun h => absurd h (by decide)⟩
theorem lkX_17 : lkOk (1, 131, 5015, 2245) := ⟨fun h => absurd h (by decide), fun h => absurd h (by decide), fun h => absurd h (by decide), fun h => absurd h (by decide), fun h => absurd h (by decide), fun h => absurd h (by decide)⟩
theorem lkX_18 : lkOk (1, 133, 5015, 2246) := ⟨fun h => absurd h (by decide), fun h => absurd h (by decide), fun h => absurd h (by decide), fun h => absurd h (by decide), fun h => absurd h (by decide), fun h => absurd h (by decide)⟩
theorem lkX_19 : lkOk (1, 135, 5015, 2247) := ⟨fun h => absurd h (by decide), fun h => absurd h (by decide), fun h => absurd h (by decide), fun h => absurd h (by decide), fun h => absurd h (by decide), fun h => absurd h (by decide)⟩
theorem lkX_20 : lkOk (3, 99, 5002, 0) := ⟨fun h => absurd h (by decide), fun h => absurd h (by decide), fun _ => aW_t 1001 (by decide +kernel) (by decide +kernel), fun h => absurd h (by decide), fun h => absurd h (by decide), fun h => absurd h (by decide)⟩
theorem lkX_21 : lkOk (4, 53, 5002, 0) := ⟨fun h => absurd h (by decide), fun h => absurd h (by decide), fun _ => aW_t 740 (by decide +kernel) (by decide +kernel), fun h => absurd h (by decide), fun h => absurd h (by decide), fun h => absurd h (by decide)⟩
theorem lkX_22 : lkOk (5, 38, 5010, 2000) := ⟨fun _ => ⟨Or.inl (aW_t 504 (by decide +kernel) (by decide +kernel)), by decide⟩, fun h => absurd h (by decide), fun h => absurd h (by decide), fun h => absurd h (by decide), fun h => absurd h (by decide), fun h => absurd h (by decide)⟩
theorem lkX_23 : lkOk (5, 48, 5010, 2101) := ⟨fun _ => ⟨Or.inl (aW_t 509 (by decide +kernel) (by decide +kernel)), by decide⟩, fun h => absurd h (by decide), fun h => absurd h (by decide), fun h => absurd h (by decide), fun h => absurd h (by decide), fun h => absurd h (by decide)⟩
theorem lkX_24 : lkOk (5, 56, 5005, 0) := ⟨fun h => absurd h (by decide), fun h => absurd h (by decide), fun h => absurd h (by decide), fun h => absurd h (by decide), fun h => absurd h (by decide), fun _ => aW_t 511 (by decide +kernel) (by decide +kernel)⟩
theorem lkX_25 : lkOk (5, 91, 5010, 2032) := ⟨fun _ => ⟨Or.inl (aW_t 699 (by decide +kernel) (by decide +kernel)), by decide⟩, fun h => absurd h (by decide), fun h => absurd h (by decide), fun h => absurd h (by decide), fun h => absurd h (by decide), fun h => absurd h (by decide)⟩
theorem lkX_26 : lkOk (5, 130, 5010, 2006) := ⟨fun _ => ⟨Or.inl (aW_t 547 (by decide +kernel) (by decide +kernel)), by decide⟩, fun h => absurd h (by decide), fun h => absurd h (by decide), fun h => absurd h (by decide), fun h => absurd h (by decide), fun h => absurd h (by decide)⟩
theorem lkX_27 : lkOk (5, 140, 5010, 2007) := ⟨fun _ => ⟨Or.inl (aW_t 558 (by decide +kernel) (by decide +kernel)), by decide⟩, fun h => absurd h (by decide), fun h => absurd h (by decide), fun h => absurd h (by decide), fun h => absurd h (by decide), fun h => absurd h (by decide)⟩
theorem lkX_28 : lkOk (5, 146, 5010, 2008) := ⟨fun _ => ⟨Or.inl (aW_t 560 (by decide +kernel) (by decide +kernel)), by decide⟩, fun h => absurd h (by decide), fun h => absurd h (by decide), fun h => absurd h (by decide), fun h => absurd h (by decide), fun h => absurd h (by decide)⟩
theorem lkX_29 : lkOk (5, 152, 5010, 2009) := ⟨fun _ => ⟨Or.inl (aW_t 562 (by decide +kernel) (by decide +kernel)), by decide⟩, fun h => absurd h (by decide), fun h => absurd h (by decide), fun h => absurd h (by decide), fun h => absurd h (by decide), fun h => absurd h (by decide)⟩
theorem lkX_30 : lkOk (5, 165, 5010, 2003) := ⟨fun _ => ⟨Or.inl (aW_t 530 (by decide +kernel) (by decide +kernel)), by decide⟩, fun h => absurd h (by decide), fun h => absurd h (by decide), fun h => absurd h (by decide), fun h => absurd h (by decide), fun h => absurd h (by decide)⟩
theorem lkX_31 : lkOk (5, 228, 5010, 2015) := ⟨fun _ => ⟨Or.inl (aW_t 726 (by decide +kernel) (by decide +kernel)), by decide⟩, fun h => absurd h (by decide), fun h => absurd h (by decide), fun h => absurd h (by decide), fun h => absurd h (by decide), fun h => absurd h (by decide)⟩
theorem lkX_32 : lkOk (5, 231, 5010, 2016) := ⟨fun _ => ⟨Or.inl (aW_t 728 (by decide +kernel) (by decide +kernel)), by decide⟩, fun h => absurd h (by decide), fun h => absurd h (by decide), fun h => absurd h (by decide), fun h => absurd h (by decide), fun h => absurd h (by decide)⟩
theorem lkX_33 : lkOk (5, 234, 5010, 2017) := ⟨fun _ => ⟨Or.inl (aW_t 730 (by decide +kernel) (by decide +kernel)), by decide⟩, fun h => absurd h (by decide), fun h => absurd h (by decide), fun h => absurd h (by decide), fun h => absurd h (by decide), fun h => absurd h (by decide)⟩
theorem lkX_34 : lkOk (5, 239, 5010, 2002) := ⟨fun _ => ⟨Or.inl (aW_t 557 (by decide +kernel) (by decide +kernel)), by decide⟩, fun h => absurd h (by decide), fun h => absurd h (by decide), fun h => absurd h (by decide), fun h => absurd h (by decide), fun h => absurd h (by decide)⟩
theorem lkX_35 : lkOk (8, 24, 5002, 0) := ⟨fun h => absurd h (by decide), fun h => absurd h (by decide), fun _ => aW_t 351 (by decide +kernel) (by decide +kernel), fun h => absurd h (by decide), fun h => absurd h (by decide), fun h => absurd h (by decide)⟩
theorem lkX_36 : lkOk (9, 15, 5010, 2000) := ⟨fun _ => ⟨Or.inl (aW_t 41 (by decide +kernel) (by decide +kernel)), by decide⟩, fun h => absurd h (by decide), fun h => absurd h (by decide), fun h => absurd h (by decide), fun h => absurd h (by decide), fun h => absurd h (by decide)⟩
theorem lkX_37 : lkOk (9, 69, 5010, 2001) := ⟨fun _ => ⟨Or.inl (aW_t 444 (by decide +kernel) (by decide +kernel)), by decide⟩, fun h => absurd h (by decide), fun h => absurd h (by decide), fun h => absurd h (by decide), fun h => absurd h (by decide), fun h => absurd h (by decide)⟩
theorem lkX_38 : lkOk (9, 72, 5010, 2002) := ⟨fun _ => ⟨Or.inl (aW_t 446 (by decide +kernel) (by decide +kernel)), by decide⟩, fun h => absurd h (by decide), fun h => absurd h (by decide), fun h => absurd h (by decide), fun h => absurd h (by decide), fun h => absurd h (by decide)⟩
theorem lkX_39 : lkOk (9, 75, 5010, 2100) := ⟨fun _ => ⟨Or.inr (aN_t 448 (by decide +kernel) (by decide +kernel)), by decide⟩, fun h => absurd h (by decide), fun h => absurd h (by decide), fun h => absurd h (by decide), fun h => absurd h (by decide), fun h => absurd h (by decide)⟩
theorem lkX_40 : lkOk (9, 79, 5011, 0) := ⟨fun h => absurd h (by decide), fun _ => Or.inr (aN_t 1916 (by decide +kernel) (by decide +kernel)), fun h => absurd h (by decide), fun h => absurd h (by decide), fun h => absurd h (by decide), fun h => absurd h (by decide)⟩
theorem lkX_41 : lkOk (9, 87, 5010, 2003) := ⟨fun _ => ⟨Or.inl (aW_t 502 (by decide +kernel) (by decide +kernel)), by decide⟩, fun h => absurd h (by decide), fun h => absurd h (by decide), fun h => absurd h (by decide), fun h => absurd h (by decide), fun h => absurd h (by decide)⟩
theorem lkX_42 : lkOk (9, 90, 5003, 0) := ⟨fun h => absurd h (by decide), fun h => absurd h (by decide), fun h => absurd h (by decide), fun _ => aW_t 454 (by decide +kernel) (by decide +kernel), fun h => absurd h (by decide), fun h => absurd h (by decide)⟩
theorem lkX_43 : lkOk (9, 95, 5004, 0) := ⟨fun h => absurd h (by decide), fun h => absurd h (by decide), fun h => absurd h (by decide), fun h => absurd h (by decide), fun _ => aW_t 464 (by decide +kernel) (by decide +kernel), fun h => absurd h (by decide)⟩
set_option maxRecDepth 100000 in
theorem lkX_ok : ∀ q ∈ lkX, lkOk q := List.forall_mem_cons.mpr ⟨lkX_0, List.forall_mem_cons.mpr ⟨lkX_1, List.forall_mem_cons.mpr ⟨lkX_2, List.forall_mem_cons.mpr ⟨lkX_3, List.forall_mem_cons.mpr ⟨lkX_4, List.forall_mem_cons.mpr ⟨lkX_5, List.forall_mem_cons.mpr ⟨lkX_6, List.forall_mem_cons.mpr ⟨lkX_7, List.forall_mem_cons.mpr ⟨lkX_8, List.forall_mem_cons.mpr ⟨lkX_9, List.forall_mem_cons.mpr ⟨lkX_10, List.forall_mem_cons.mpr ⟨lkX_11, List.forall_mem_cons.mpr ⟨lkX_12, List.forall_mem_cons.mpr ⟨lkX_13, List.forall_mem_cons.mpr ⟨lkX_14, List.forall_mem_cons.mpr ⟨lkX_15, List.forall_mem_cons.mpr ⟨lkX_16, List.forall_mem_cons.mpr ⟨lkX_17, List.forall_mem_cons.mpr ⟨lkX_18, List.forall_mem_cons.mpr ⟨lkX_19, List.forall_mem_cons.mpr ⟨lkX_20, List.forall_mem_cons.mpr ⟨lkX_21, List.forall_mem_cons.mpr ⟨lkX_22, List.forall_mem_cons.mpr ⟨lkX_23, List.forall_mem_cons.mpr ⟨lkX_24, List.forall_mem_cons.mpr ⟨lkX_25, List.forall_mem_cons.mpr ⟨lkX_26, List.forall_mem_cons.mpr ⟨lkX_27, List.forall_mem_cons.mpr ⟨lkX_28, List.forall_mem_cons.mpr ⟨lkX_29, List.forall_mem_cons.mpr ⟨lkX_30, List.forall_mem_cons.mpr ⟨lkX_31, List.forall_mem_cons.mpr ⟨lkX_32, List.forall_mem_cons.mpr ⟨lkX_33, List.forall_mem_cons.mpr ⟨lkX_34, List.forall_mem_cons.mpr ⟨lkX_35, List.forall_mem_cons.mpr ⟨lkX_36, List.forall_mem_cons.mpr ⟨lkX_37, List.forall_mem_cons.mpr ⟨lkX_38, List.forall_mem_cons.mpr ⟨lkX_39, List.forall_mem_cons.mpr ⟨lkX_40, List.forall_mem_cons.mpr ⟨lkX_41, List.forall_mem_cons.mpr ⟨lkX_42, List.forall_mem_cons.mpr ⟨lkX_43, fun _ h => absurd h List.not_mem_nil⟩⟩⟩⟩⟩⟩⟩⟩⟩⟩⟩⟩⟩⟩⟩⟩⟩⟩⟩⟩⟩⟩⟩⟩⟩⟩⟩⟩⟩⟩⟩⟩⟩⟩⟩⟩⟩⟩⟩⟩⟩⟩⟩⟩
def ldcL : List (Nat × Nat × Nat × String) := [(1, 117, 2240, "heavy"), (1, 123, 2241, "fond"), (1, 125, 2242, "small"), (1, 127, 2243, "more"), (1, 129, 2244, "ahead"), (1, 131, 2245, "sum"), (1, 133, 2246, "most"), (1, 135, 2247, "spiked")]
theorem ldc_in : ∀ q ∈ lkX, q.2.2.1 = 5015 → ∃ tx, (q.1, q.2.1, q.2.2.2, tx) ∈ ldcL := by
  have key : ∀ q ∈ lkX, q.2.2.1 = 5015 → (ldcL.map fun r => (r.1, r.2.1, r.2.2.1)).contains (q.1, q.2.1, q.2.2.2) = true := by decide +kernel
  intro q hq h5
  have := key q hq h5
  rw [List.contains_iff_mem] at this
  obtain ⟨r, hr, e⟩ := List.mem_map.mp this
  simp only [Prod.mk.injEq] at e
  obtain ⟨e1, e2, e3⟩ := e
  refine ⟨r.2.2.2, ?_⟩
  rw [← e1, ← e2, ← e3]
  exact hr
theorem aCp_s : Cond.static arraycopyName ∈ aWS := aW_t 352 (by decide +kernel) (by decide +kernel)
theorem aCp_n : Cond.native arraycopyName ∈ aWS := aW_t 353 (by decide +kernel) (by decide +kernel)
theorem aCp_i : Cond.initialized "java/lang/System" ∈ aWS := aW_t 14 (by decide +kernel) (by decide +kernel)
/-- what is known of the constants: the Sorts, their row, the switch map, the texts -/
def aZh (ad : Nat → Nat) (A : Nat → Prop) (U : State) (H : Heap) : Prop :=
  (∀ i, i < 33 → va_Z RX9 (aSn i) "LFoldedRealm$Sort;" (.ref (ad (2000 + i))) A U H ∧ va_O RX9 (ad (2000 + i)) A U H ∧ va_OF "java/lang/Enum" "ordinal" "I" (.int (Int32.ofNat i)) (ad (2000 + i)) A U H ∧ va_OF RX9 "text" "Ljava/lang/String;" (.ref (ad (2200 + i))) (ad (2000 + i)) A U H) ∧
  (va_Z RX12 "SORTS" "[LFoldedRealm$Sort;" (.ref (ad 2100)) A U H ∧ va_T (.object RX9) (ad 2100) 33 (fun j => .ref (ad (2000 + j))) A U H) ∧
  (va_Z RX0 "$SwitchMap$FoldedRealm$Sort" "[I" (.ref (ad 2101)) A U H ∧ va_T .int (ad 2101) 33 (fun j => .int (asm j)) A U H) ∧
  (∀ i, 2200 ≤ i → i ≤ 2299 → va_O "java/lang/String" (ad i) A U H ∧ va_OF "java/lang/String" "coder" "B" (.int 0) (ad i) A U H ∧ va_OF "java/lang/String" "value" "[B" (.ref (ad (i + 200))) (ad i) A U H ∧ va_T .byte (ad (i + 200)) (asl i) (fun j => .int (asc i j)) A U H) ∧
  va_Z "java/lang/String" "COMPACT_STRINGS" "Z" (.int 1) A U H ∧ va_Zq "jdk/internal/util/Preconditions" "SIOOBE_FORMATTER" "Ljava/util/function/BiFunction;" A U H
def aZv (ad : Nat → Nat) (U : State) : Prop := ∀ q ∈ ldcL, vk_R (aCN q.1) q.2.1 q.2.2.2 (ad q.2.2.1) U
def aZX (ad : Nat → Nat) (A : Nat → Prop) (U : State) : Prop := aZh ad A U U.heap ∧ aZv ad U
theorem aZh.moved {ad : Nat → Nat} {A : Nat → Prop} {u U : State} {H : Heap} (hvm : u.vm.Alike U.vm) (h : aZh ad A u H) : aZh ad A U H :=
  ⟨fun i hi => ⟨(h.1 i hi).1.moved hvm, (h.1 i hi).2.1.moved hvm, (h.1 i hi).2.2.1.moved hvm, (h.1 i hi).2.2.2.moved hvm⟩, ⟨h.2.1.1.moved hvm, h.2.1.2.moved hvm⟩, ⟨h.2.2.1.1.moved hvm, h.2.2.1.2.moved hvm⟩,
    fun i h1 h2 => ⟨(h.2.2.2.1 i h1 h2).1.moved hvm, (h.2.2.2.1 i h1 h2).2.1.moved hvm, (h.2.2.2.1 i h1 h2).2.2.1.moved hvm, (h.2.2.2.1 i h1 h2).2.2.2.moved hvm⟩, h.2.2.2.2.1.moved hvm, h.2.2.2.2.2.imp (fun z => z.moved hvm) (fun ⟨t, z⟩ => ⟨t, z.moved hvm⟩)⟩
theorem aZh.kept {ad : Nat → Nat} {A : Nat → Prop} {U : State} {H H1 : Heap} (h : aZh ad A U H) (hq : ∀ a : Nat, a < H.size → ¬ A a → H1[a]? = H[a]?) : aZh ad A U H1 :=
  ⟨fun i hi => ⟨(h.1 i hi).1.kept hq, (h.1 i hi).2.1.kept hq, (h.1 i hi).2.2.1.kept hq, (h.1 i hi).2.2.2.kept hq⟩, ⟨h.2.1.1.kept hq, h.2.1.2.kept hq⟩, ⟨h.2.2.1.1.kept hq, h.2.2.1.2.kept hq⟩,
    fun i h1 h2 => ⟨(h.2.2.2.1 i h1 h2).1.kept hq, (h.2.2.2.1 i h1 h2).2.1.kept hq, (h.2.2.2.1 i h1 h2).2.2.1.kept hq, (h.2.2.2.1 i h1 h2).2.2.2.kept hq⟩, h.2.2.2.2.1.kept hq, h.2.2.2.2.2.imp (fun z => z.kept hq) (fun ⟨t, z⟩ => ⟨t, z.kept hq⟩)⟩
theorem aZX_ok {ad : Nat → Nat} {A : Nat → Prop} : aZok A (aZX ad A) := by
  constructor
  · intro U g mk a h
    exact ⟨aZh.moved (u := U) (U := U.calling g mk a) (Vm.Alike.refl U.vm) h.1, fun q hq => vk_R.same (u := U) (U := U.calling g mk a) rfl (h.2 q hq)⟩
  · intro s U H locs h hW hS hU
    refine ⟨?_, fun q hq => vk_R.warm hW (h.2 q hq)⟩
    rw [hU]
    exact (aZh.moved hW.alike h.1).kept hS.2.1
theorem ace_scp {ad : Nat → Nat} {cy : Nat → ClassId} {S : aS} {x y : Nat} {sp dp n : Int32} (j : Nat) (h : j ≠ y) : ace ad cy (scp S x sp y dp n) j = ace ad cy S j := by
  have e : arw ad (scp S x sp y dp n) j = arw ad S j := by
    unfold arw
    simp only [scp, va_up, if_neg h]
  unfold ace
  rw [e]
  rfl
theorem gE_inv {x : Nat} {X : Prop} (h : aG (gE x) X) : (∃ i, i < 33 ∧ x = 2000 + i) ∧ X := by
  unfold gE at h
  cases hb : (Nat.ble 2000 x && Nat.ble x 2032) with
  | true =>
    rw [hb] at h
    obtain ⟨b1, b2⟩ := (Bool.and_eq_true _ _).mp hb
    have b1 := Nat.le_of_ble_eq_true b1
    have b2 := Nat.le_of_ble_eq_true b2
    exact ⟨⟨x - 2000, by omega, by omega⟩, h⟩
  | false =>
    rw [hb] at h
    obtain ⟨b1, b2⟩ := h.1
    exact ⟨⟨x - 2000, by omega, by omega⟩, h.2⟩
section
variable {p : Program} {l : Launch} {e : Env} {s : State} {m : MethodId} {args : Array Value} {below : List Frame} {meth : Method} {c : Code} {cc : ByteArray} {nL on : Nat} {ad : Nat → Nat} {cy : Nat → ClassId} {D : va_G} {ids : List Nat} {A : Nat → Prop} {Qs : State → Prop} {d : Nat} {pc : Nat} {B : Array Slot} {H : Heap} {locs : List Loc} {rest : List Value} {S : aS}
theorem r_static (X : aCx p s m args c cc nL on ad cy D ids A rkX (aZX ad A)) {i v : Nat} (hl : (on, i, 5010, v) ∈ lkX) (hd : decode cc pc = .ok (.getstatic i, 3)) (hS : va_S A s.heap H locs) {R : Room}
    (kk : W p l e R s m args below meth c H locs 0 0 Qs (F0 m (pc + 3) B (.ref (ad v) :: rest))) : W p l e R s m args below meth c H locs 0 0 Qs (F0 m pc B rest) := by
  obtain ⟨hexec, hb, hml, hown, hts, hnw, hK, hn, hA, hi, hreg, ⟨hz, hzv⟩, had⟩ := X
  obtain ⟨h1, h2⟩ := (lkX_ok _ hl).1 rfl
  have hZ : va_Z (aStF v).1 (aStF v).2.1 (aStF v).2.2 (.ref (ad v)) A s s.heap := by
    rcases h2 with h2 | h2 | ⟨h2, h3⟩
    · have h2 : v = 2100 := h2
      subst h2
      exact hz.2.1.1
    · have h2 : v = 2101 := h2
      subst h2
      exact hz.2.2.1.1
    · have h2 : 2000 ≤ v := h2
      have h3 : v ≤ 2032 := h3
      have := (hz.1 (v - 2000) (by omega)).1
      rw [show 2000 + (v - 2000) = v from by omega] at this
      unfold aStF
      rw [if_neg (by omega), if_neg (by omega)]
      dsimp only
      exact this
  rcases h1 with h1 | h1
  · exact va_gets hexec hb hZ hS hown (hts _ h1) (fun _ h => h) hd kk
  · exact va_getsN hexec hb hZ hS hown (va_Nw.use rfl (hnw _ h1)) (fun _ h => h) hd kk
theorem r_text (X : aCx p s m args c cc nL on ad cy D ids A rkX (aZX ad A)) {i k : Nat} (hk : k < 33) (hl : (on, i, 5011, 0) ∈ lkX) (hd : decode cc pc = .ok (.getfield i, 3)) (hS : va_S A s.heap H locs) {R : Room}
    (kk : W p l e R s m args below meth c H locs 0 0 Qs (F0 m (pc + 3) B (.ref (ad (2200 + k)) :: rest))) : W p l e R s m args below meth c H locs 0 0 Qs (F0 m pc B (.ref (ad (2000 + k)) :: rest)) := by
  obtain ⟨hexec, hb, hml, hown, hts, hnw, hK, hn, hA, hi, hreg, ⟨hz, hzv⟩, had⟩ := X
  have hF := (hz.1 k hk).2.2.2
  rcases (lkX_ok _ hl).2.1 rfl with h1 | h1
  · exact vk_getf hexec hb hF hS hown (hts _ h1) (fun _ h => h) hd kk
  · obtain ⟨cf, kf, fi, f, cell, g1, g2, g3, g4, g5, g6⟩ := hF.kept hS.2.1
    exact va_Wgetf hexec hb hown (va_Nw.use rfl (hnw _ h1)) g1 g2 g3 g4 g5 rfl rfl hd kk
theorem r_copy (X : aCx p s m args c cc nL on ad cy D ids A rkX (aZX ad A)) {i x y : Nat} {sp dp n : Int32} (hl : (on, i, 5002, 0) ∈ lkX) (hx : akd x = 20) (hg : acpG x sp y dp n) (hs : acs rest ≤ 100) (hd : decode cc pc = .ok (.invokestatic i, 3)) {ls : aLs} (hl9 : aHas ad B nL ls) (hP : va_P D vwCl (aws ad cy ids S) H) (hS : va_S A s.heap H locs)
    (kk : ∀ (H1 : Heap) (locs1 : List Loc), va_P D vwCl (aws ad cy ids (scp S x sp y dp n)) H1 → va_S A s.heap H1 locs1 → W p l e (aRm (d + 1)) s m args below meth c H1 locs1 0 0 Qs (F0 m (pc + 3) B (rest.map (atv ad)))) : W p l e (aRm (d + 1)) s m args below meth c H locs 0 0 Qs (F0 m pc B (.int n :: .int dp :: .ref (ad y) :: .int sp :: .ref (ad x) :: rest.map (atv ad))) := by
  obtain ⟨hexec, hb, hml, hown, hts, hnw, hK, hn, hA, hi, hreg, hZ⟩ := X
  obtain ⟨hy, g1, g2, g3, g4, g5⟩ := hg
  obtain ⟨q0, h1, h2⟩ := aws_at (ad := ad) (cy := cy) (S := S) (hreg x 20 hx rfl)
  obtain ⟨q1, h3, h4⟩ := aws_at (ad := ad) (cy := cy) (S := S) (hreg y 20 hy rfl)
  rw [ace_arr hx rfl, arw_I hx (Or.inl rfl)] at h2
  rw [ace_arr hy rfl, arw_I hy (Or.inl rfl)] at h4
  have hset := aws_set (ad := ad) (cy := cy) (S := S) (S' := scp S x sp y dp n) hn h3 (fun j hj => ace_scp j hj)
  rw [ace_arr hy rfl, arw_I hy (Or.inl rfl)] at hset
  have hu : (scp S x sp y dp n).2.2.2.1 y = va_cpy (S.2.2.2.1 x) (S.2.2.2.1 y) sp.toNatClampNeg dp.toNatClampNeg n.toNatClampNeg := by simp only [scp, va_up, if_pos]
  rw [hu] at hset
  refine va_copyi hexec hb (hml.trans hl9.2.1.symm) hown (hts _ ((lkX_ok _ hl).2.2.1 rfl)) (hts _ aCp_n) (hts _ aCp_s) (hts _ aCp_i) hK hP (aws_D hn hA hi) hS q0 q1 0 0 h2 h4 rfl rfl rfl g1 g2 g3 g4 g5 (fun _ _ => rfl) ?_ ?_ hd (fun H1 locs1 z1 _ z3 => kk H1 locs1 (hset ▸ z1) z3)
  · show 1 ≤ d + 1 + 5
    omega
  · rw [acs_map]
    show acs rest + (nativeFrameWords "java/lang/System" "arraycopy" 5 + 11) ≤ 120 * (d + 1 + 5)
    have : nativeFrameWords "java/lang/System" "arraycopy" 5 ≤ 9 := by decide +kernel
    omega
end

