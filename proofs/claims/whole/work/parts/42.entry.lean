/-! the constants at the law's entry: their addresses -/
def adOf (args : Array Value) (s : State) (t : Term) : Nat := match t.eval args s none [] s with
  | some (.ref a) => a
  | _ => 0
theorem adOf_eq {args : Array Value} {s : State} {t : Term} {a : Nat} (h : t.eval args s none [] s = some (.ref a)) : adOf args s t = a := by
  unfold adOf
  rw [h]
def adE (args : Array Value) (s : State) (n : Nat) : Nat := if n < 2000 then 0 else if n < 2033 then adOf args s (tS (n - 2000)) else if n < 2100 then s.heap.size + n else if n = 2100 then adOf args s tSO else if n = 2101 then adOf args s tSW else if n < 2300 then adOf args s (tT (n - 2200)) else adOf args s (tV (n - 2400))
theorem fl_mem {w : Cond} {i : Nat} (h : fl[i]? = some w) : w ∈ fl := List.mem_of_getElem? h
theorem tb_mem {w : Cond} {i : Nat} (h : tables_1[i]? = some w) : w ∈ tables_1 := List.mem_of_getElem? h
theorem tT_big {j : Nat} (h : 48 ≤ j) : tT j = tT 47 := by
  unfold tT
  have h1 : Nat.blt j 33 = false := by
    apply Bool.eq_false_iff.mpr
    intro z
    have := Nat.le_of_ble_eq_true z
    omega
  have h2 : kTL.getD j 135 = 135 := by
    rw [List.getD_eq_getElem?_getD, List.getElem?_eq_none (by show kTL.length ≤ j; have : kTL.length = 48 := rfl; omega)]
    rfl
  rw [h1, h2]
  rfl
theorem ast_big : ∀ j, j < 100 → 48 ≤ j → ast (2200 + j) = ast 2247 := by decide +kernel
section
variable {args : Array Value} {s : State} {A : Nat → Prop} (hl : ∀ w ∈ fl, w.before args s = true) (ht : ∀ w ∈ tables_1, w.before args s = true) (hA : ∀ a : Nat, a < s.heap.size → ¬ A a)
theorem eS (hl : ∀ w ∈ fl, w.before args s = true) {i : Nat} (hi : i < 33) : (tS i).eval args s none [] s = some (.ref (adE args s (2000 + i))) := by
  obtain ⟨a, c, cell, k, q1, q2, q3, q4, q5, q6, -⟩ := Cond.exactly_spec (args := args) (first := s) (o := none) (s := s) (idx := []) (t := tS i) (cls := RX9) (hl _ (fl_mem (fS1 i hi)))
  have : adE args s (2000 + i) = a := by
    unfold adE
    rw [if_neg (by omega), if_pos (by omega), show 2000 + i - 2000 = i from by omega]
    exact adOf_eq q1
  rw [this]
  exact q1
theorem eTa (hl : ∀ w ∈ fl, w.before args s = true) {j : Nat} (hj : j < 48) : ∃ a t, (tT j).eval args s none [] s = some (.ref a) ∧ (tV j).eval args s none [] s = some (.ref t) := by
  obtain ⟨a, c, cell, k, q1, q2, q3, q4, q5, q6, -⟩ := Cond.exactly_spec (args := args) (first := s) (o := none) (s := s) (idx := []) (t := tT j) (cls := "java/lang/String") (hl _ (fl_mem (fT1 j hj)))
  have hlen : asl (2200 + j) < 2 ^ 31 := Nat.lt_of_le_of_lt (asl_ok j (by omega)) (by decide)
  obtain ⟨t, h1, -⟩ := va_Tof (f := fun k => .int (asc (2200 + j) k)) (A := fun _ => False) hlen (hl _ (fl_mem (fT3 j hj))) (va_eqt (hl _ (fl_mem (fT4 j hj)))) (fun k hk => va_eqt (hl _ (fl_mem (fT5 j hj k hk)))) (fun _ _ h => h)
  exact ⟨a, t, q1, h1⟩
theorem tT_min {j : Nat} (hj : j < 100) : tT j = tT (min j 47) ∧ tV j = tV (min j 47) ∧ ast (2200 + j) = ast (2200 + min j 47) := by
  rcases Nat.lt_or_ge j 48 with z | z
  · rw [Nat.min_eq_left (by omega)]
    exact ⟨rfl, rfl, rfl⟩
  · rw [Nat.min_eq_right (by omega)]
    refine ⟨tT_big z, ?_, ast_big j hj z⟩
    unfold tV
    rw [tT_big z]
theorem eT (hl : ∀ w ∈ fl, w.before args s = true) {j : Nat} (hj : j < 100) : (tT j).eval args s none [] s = some (.ref (adE args s (2200 + j))) ∧ (tV j).eval args s none [] s = some (.ref (adE args s (2200 + j + 200))) := by
  obtain ⟨a, t, h1, h2⟩ := eTa hl (j := min j 47) (by omega)
  obtain ⟨m1, m2, -⟩ := tT_min hj
  rw [← m1] at h1
  rw [← m2] at h2
  have e1 : adE args s (2200 + j) = a := by
    unfold adE
    rw [if_neg (by omega), if_neg (by omega), if_neg (by omega), if_neg (by omega), if_neg (by omega), if_pos (by omega), show 2200 + j - 2200 = j from by omega]
    exact adOf_eq h1
  have e2 : adE args s (2200 + j + 200) = t := by
    unfold adE
    rw [if_neg (by omega), if_neg (by omega), if_neg (by omega), if_neg (by omega), if_neg (by omega), if_neg (by omega), show 2200 + j + 200 - 2400 = j from by omega]
    exact adOf_eq h2
  rw [e1, e2]
  exact ⟨h1, h2⟩
theorem entT (hl : ∀ w ∈ fl, w.before args s = true) (hA : ∀ a : Nat, a < s.heap.size → ¬ A a) {j : Nat} (hj : j < 100) : va_O "java/lang/String" (adE args s (2200 + j)) A s s.heap ∧ va_OF "java/lang/String" "coder" "B" (.int 0) (adE args s (2200 + j)) A s s.heap ∧ va_OF "java/lang/String" "value" "[B" (.ref (adE args s (2200 + j + 200))) (adE args s (2200 + j)) A s s.heap ∧ va_T .byte (adE args s (2200 + j + 200)) (asl (2200 + j)) (fun k => .int (asc (2200 + j) k)) A s s.heap := by
  obtain ⟨h1, h2⟩ := eT hl hj
  obtain ⟨m1, m2, m3⟩ := tT_min hj
  have hm : min j 47 < 48 := by omega
  have hlen : asl (2200 + j) < 2 ^ 31 := Nat.lt_of_le_of_lt (asl_ok j hj) (by decide)
  have hasl : asl (2200 + j) = asl (2200 + min j 47) := by unfold asl; rw [m3]
  have hasc : ∀ k, asc (2200 + j) k = asc (2200 + min j 47) k := by intro k; unfold asc; rw [m3]
  obtain ⟨t, g1, g2⟩ := va_Tof (tm := tV j) (ty := .byte) (f := fun k => .int (asc (2200 + j) k)) (A := A) hlen (by rw [m2]; exact hl _ (fl_mem (fT3 _ hm))) (by rw [m2, hasl]; exact va_eqt (hl _ (fl_mem (fT4 _ hm)))) (fun k hk => by rw [m2, hasc]; rw [hasl] at hk; exact va_eqt (hl _ (fl_mem (fT5 _ hm k hk)))) hA
  have : t = adE args s (2200 + j + 200) := by
    have := g1.symm.trans h2
    simp only [Option.some.injEq, Value.ref.injEq] at this
    exact this
  subst this
  refine ⟨va_Oof (t := tT j) (by rw [m1]; exact hl _ (fl_mem (fT1 _ hm))) h1 hA, vk_OFof h1 (by rw [m1]; exact va_eqt (hl _ (fl_mem (fT2 _ hm)))) hA, vk_OFof h1 h2 hA, g2⟩
theorem entSO (hl : ∀ w ∈ fl, w.before args s = true) (ht : ∀ w ∈ tables_1, w.before args s = true) (hA : ∀ a : Nat, a < s.heap.size → ¬ A a) : va_Z RX12 "SORTS" "[LFoldedRealm$Sort;" (.ref (adE args s 2100)) A s s.heap ∧ va_T (.object RX9) (adE args s 2100) 33 (fun j => .ref (adE args s (2000 + j))) A s s.heap := by
  obtain ⟨t, g1, g2⟩ := va_Tof (tm := tSO) (ty := .object RX9) (N := 33) (f := fun j => .ref (adE args s (2000 + j))) (A := A) (by decide) (hl _ (fl_mem fN0)) (va_eqt (hl _ (fl_mem fN1))) (fun j hj => va_eqv (hl _ (fl_mem (fO1 j hj))) (eS hl hj)) hA
  have : adE args s 2100 = t := adOf_eq g1
  rw [this]
  exact ⟨va_Zref (ht _ (tb_mem fI0)) (ht _ (tb_mem fI5)) g1 hA, g2⟩
theorem entSW (hl : ∀ w ∈ fl, w.before args s = true) (ht : ∀ w ∈ tables_1, w.before args s = true) (hA : ∀ a : Nat, a < s.heap.size → ¬ A a) : va_Z RX0 "$SwitchMap$FoldedRealm$Sort" "[I" (.ref (adE args s 2101)) A s s.heap ∧ va_T .int (adE args s 2101) 33 (fun j => .int (asm j)) A s s.heap := by
  obtain ⟨t, g1, g2⟩ := va_Tof (tm := tSW) (ty := .int) (N := 33) (f := fun j => .int (asm j)) (A := A) (by decide) (hl _ (fl_mem fN2)) (va_eqt (hl _ (fl_mem fN3))) (fun j hj => va_eqt (hl _ (fl_mem (fW1 j hj)))) hA
  have : adE args s 2101 = t := adOf_eq g1
  rw [this]
  exact ⟨va_Zref (ht _ (tb_mem fI1)) (ht _ (tb_mem fI6)) g1 hA, g2⟩
theorem ldc_t : ∀ q ∈ ldcL, Term.string (aCN q.1) q.2.1 = tT (q.2.2.1 - 2200) ∧ 2200 ≤ q.2.2.1 ∧ q.2.2.1 < 2300 := by decide +kernel
theorem entR (hl : ∀ w ∈ fl, w.before args s = true) (ht : ∀ w ∈ tables_1, w.before args s = true) : aZv (adE args s) s := by
  intro q hq
  obtain ⟨h1, h2, h3⟩ := ldc_t q hq
  obtain ⟨i, hi⟩ := List.getElem?_of_mem hq
  have hi8 : i < 8 := (List.getElem?_eq_some_iff.mp hi).1
  have hw := fR i hi8
  rw [hi] at hw
  have he := (eT hl (j := q.2.2.1 - 2200) (by omega)).1
  rw [← h1, show 2200 + (q.2.2.1 - 2200) = q.2.2.1 from by omega] at he
  exact vk_R.of (ht _ (tb_mem hw)) he
theorem entZ (hl : ∀ w ∈ fl, w.before args s = true) (ht : ∀ w ∈ tables_1, w.before args s = true) (hA : ∀ a : Nat, a < s.heap.size → ¬ A a) : aZX (adE args s) A s := by
  refine ⟨⟨fun i hi => ?_, entSO hl ht hA, entSW hl ht hA, fun i h1 h2 => ?_, ?_, ?_⟩, entR hl ht⟩
  · have e1 := eS hl hi
    exact ⟨va_Zref (ht _ (tb_mem (fL i hi))) (ht _ (tb_mem fI4)) e1 hA, va_Oof (hl _ (fl_mem (fS1 i hi))) e1 hA, vk_OFof e1 (va_eqt (hl _ (fl_mem (fS2 i hi)))) hA, vk_OFof e1 (va_eqv (hl _ (fl_mem (fS3 i hi))) (eT hl (j := i) (by omega)).1) hA⟩
  · have h := entT hl hA (j := i - 2200) (by omega)
    rw [show 2200 + (i - 2200) = i from by omega] at h
    exact h
  · exact va_Zof (ht _ (tb_mem fI2)) (ht _ (tb_mem fI7)) (va_eqt (hl _ (fl_mem fN4))) hA
  · exact va_Zqof (ht _ (tb_mem fI3)) (ht _ (tb_mem fI8)) (hl _ (fl_mem fN5)) hA
theorem entI (hl : ∀ w ∈ fl, w.before args s = true) : ∀ x y, 2000 ≤ x → x ≤ 2099 → 2000 ≤ y → y ≤ 2099 → adE args s x = adE args s y → x = y := by
  have hO : ∀ i, i < 33 → va_OF "java/lang/Enum" "ordinal" "I" (.int (Int32.ofNat i)) (adE args s (2000 + i)) (fun _ => False) s s.heap := fun i hi => vk_OFof (eS hl hi) (va_eqt (hl _ (fl_mem (fS2 i hi)))) (fun _ _ h => h)
  have hlow : ∀ x, 2000 ≤ x → x < 2033 → adE args s x < s.heap.size := by
    intro x h1 h2
    obtain ⟨cf, k, i, f, cell, -, -, g, -⟩ := hO (x - 2000) (by omega)
    rw [show 2000 + (x - 2000) = x from by omega] at g
    exact (Array.getElem?_eq_some_iff.mp g).1
  have hhi : ∀ x, 2033 ≤ x → x ≤ 2099 → adE args s x = s.heap.size + x := by
    intro x h1 h2
    unfold adE
    rw [if_neg (by omega), if_neg (by omega), if_pos (by omega)]
  intro x y h1 h2 h3 h4 e
  rcases Nat.lt_or_ge x 2033 with zx | zx <;> rcases Nat.lt_or_ge y 2033 with zy | zy
  · obtain ⟨cf, k, i, f, cell, a1, -, a3, -, a5, -⟩ := hO (x - 2000) (by omega)
    obtain ⟨cf', k', i', f', cell', b1, -, b3, -, b5, -⟩ := hO (y - 2000) (by omega)
    rw [show 2000 + (x - 2000) = x from by omega] at a3
    rw [show 2000 + (y - 2000) = y from by omega, ← e] at b3
    rw [a3] at b3
    rw [a1] at b1
    cases b3
    cases b1
    rw [a5] at b5
    simp only [Option.some.injEq, Value.int.injEq] at b5
    have key : ∀ a, a < 33 → ∀ b, b < 33 → Int32.ofNat a = Int32.ofNat b → a = b := by decide +kernel
    have := key (x - 2000) (by omega) (y - 2000) (by omega) b5
    omega
  · have := hlow x h1 zx
    rw [hhi y zy h4] at e
    omega
  · have := hlow y h3 zy
    rw [hhi x zx h2] at e
    omega
  · rw [hhi x zx h2, hhi y zy h4] at e
    omega
end
theorem entK {args : Array Value} {s : State} (hts : ∀ w ∈ aWS, w.before args s = true) (ht : ∀ w ∈ tables_1, w.before args s = true) : ∃ (D : va_G) (cy : Nat → ClassId), va_K D vwCl (atys cy) s := by
  have h0 : ∀ c : Nat, ∃ x : ClassId × (Nat → Nat), ∀ q : vw_C, vwCl[c]? = some q → u_Kn s q.1 q.2.1 q.2.2 x.1 x.2 := by
    intro c
    cases hq : vwCl[c]? with
    | none => exact ⟨(0, fun _ => 0), fun q h => by cases h⟩
    | some q =>
      obtain ⟨c1, iS, hK⟩ := u_known (C := q.1) (T := q.2.1) (N := q.2.2) (n := q.2.2) hts (aCk_ok c q hq).1 (hts _ (bI_ok c q hq).1)
      exact ⟨(c1, iS), fun q' h => by cases h; exact hK⟩
  obtain ⟨f, hf⟩ := Classical.axiomOfChoice h0
  have h1 : ∀ k : Nat, ∃ cA : ClassId, k ≤ 5 → ArrOfT s cA (bTy k) ∧ va_RA s cA (bTy k) := by
    intro k
    have prim : ∀ ty : FieldType, Cond.arrayClass ty ∈ aWS → (∀ cA, s.vm.findClass ("[" ++ ty.toString) = some cA → va_RA s cA ty) → ∃ cA : ClassId, ArrOfT s cA ty ∧ va_RA s cA ty := by
      intro ty hw hr
      obtain ⟨c, kA, comp, g1, g2, g3⟩ := Cond.arrayClass_spec (args := args) (first := s) (o := none) (s := s) (idx := []) (type := ty) (hts _ hw)
      exact ⟨c, fun n z => ⟨fun k h => (by cases h), kA, g2, comp, g3⟩, hr c g1⟩
    have over : ∀ C : String, (Cond.arrayOver (.object C)).before args s = true → ∃ cA : ClassId, ArrOfT s cA (.object C) ∧ va_RA s cA (.object C) := by
      intro C hw
      obtain ⟨comp, c, kA, g1, -, g3, g4, g5⟩ := Cond.arrayOver_spec (args := args) (first := s) (o := none) (s := s) (idx := []) (n := C) hw
      exact ⟨c, fun n z => ⟨fun k h => (by cases h), kA, g3, comp, g4⟩, kA, comp, g3, g4, g1, g5⟩
    match k with
    | 0 => obtain ⟨c, h⟩ := prim .int aI_in (fun _ h => h); exact ⟨c, fun _ => h⟩
    | 1 => obtain ⟨c, h⟩ := prim .long aJ_in (fun _ h => h); exact ⟨c, fun _ => h⟩
    | 2 => obtain ⟨c, h⟩ := prim .byte aB_in (fun _ h => h); exact ⟨c, fun _ => h⟩
    | 3 => obtain ⟨c, h⟩ := prim .boolean aZ_in (fun _ h => h); exact ⟨c, fun _ => h⟩
    | 4 => obtain ⟨c, h⟩ := over RX5 (ht _ (List.mem_of_getElem? (i := 280) (by decide +kernel))); exact ⟨c, fun _ => h⟩
    | 5 => obtain ⟨c, h⟩ := over RX10 (ht _ (List.mem_of_getElem? (i := 288) (by decide +kernel))); exact ⟨c, fun _ => h⟩
    | n + 6 => exact ⟨0, fun h => absurd h (by omega)⟩
  obtain ⟨cy, hcy⟩ := Classical.axiomOfChoice h1
  refine ⟨(fun c => (f c).1, fun c => (f c).2), cy, fun c q hq => hf c q hq, fun k q hk => ?_⟩
  have hlt : k < 6 := (List.getElem?_eq_some_iff.mp hk).1
  rw [bTy_in (cy := cy) (show k ≤ 5 by omega)] at hk
  cases hk
  exact hcy k (by omega)
theorem entN {args : Array Value} {s : State} (ht : ∀ w ∈ tables_1, w.before args s = true) : ∀ w ∈ aNW, va_Nw w s := by
  intro w hw
  obtain ⟨h1, h2⟩ := List.mem_filter.mp hw
  have h3 := ht w h1
  cases w <;> first | exact va_tabs rfl rfl h3 | cases h2
theorem entA {args : Array Value} {s : State} (ht : ∀ w ∈ tables_1, w.before args s = true) : va_AO RX5 s ∧ va_AO RX10 s := ⟨va_AO.of (ht _ (List.mem_of_getElem? (i := 280) (by decide +kernel))), va_AO.of (ht _ (List.mem_of_getElem? (i := 288) (by decide +kernel)))⟩
