/-! calls on constants: the texts -/
theorem ddJ0_coder_7d493_0 : decode cJ0_coder_7d493 0 = .ok (.getstatic 38, 3) := by decide +kernel
theorem ddJ0_coder_7d493_3 : decode cJ0_coder_7d493 3 = .ok (.ifCond .eq 10, 3) := by decide +kernel
theorem ddJ0_coder_7d493_6 : decode cJ0_coder_7d493 6 = .ok (.aload_n 0, 1) := by decide +kernel
theorem ddJ0_coder_7d493_7 : decode cJ0_coder_7d493 7 = .ok (.getfield 15, 3) := by decide +kernel
theorem ddJ0_coder_7d493_10 : decode cJ0_coder_7d493 10 = .ok (.goto 4, 3) := by decide +kernel
theorem ddJ0_coder_7d493_13 : decode cJ0_coder_7d493 13 = .ok (.iconst 1, 1) := by decide +kernel
theorem ddJ0_coder_7d493_14 : decode cJ0_coder_7d493 14 = .ok (.ireturn, 1) := by decide +kernel
theorem ddJ0_isLatin1_aae02_0 : decode cJ0_isLatin1_aae02 0 = .ok (.getstatic 38, 3) := by decide +kernel
theorem ddJ0_isLatin1_aae02_3 : decode cJ0_isLatin1_aae02 3 = .ok (.ifCond .eq 14, 3) := by decide +kernel
theorem ddJ0_isLatin1_aae02_6 : decode cJ0_isLatin1_aae02 6 = .ok (.aload_n 0, 1) := by decide +kernel
theorem ddJ0_isLatin1_aae02_7 : decode cJ0_isLatin1_aae02 7 = .ok (.getfield 15, 3) := by decide +kernel
theorem ddJ0_isLatin1_aae02_10 : decode cJ0_isLatin1_aae02 10 = .ok (.ifCond .ne 7, 3) := by decide +kernel
theorem ddJ0_isLatin1_aae02_13 : decode cJ0_isLatin1_aae02 13 = .ok (.iconst 1, 1) := by decide +kernel
theorem ddJ0_isLatin1_aae02_14 : decode cJ0_isLatin1_aae02 14 = .ok (.goto 4, 3) := by decide +kernel
theorem ddJ0_isLatin1_aae02_17 : decode cJ0_isLatin1_aae02 17 = .ok (.iconst 0, 1) := by decide +kernel
theorem ddJ0_isLatin1_aae02_18 : decode cJ0_isLatin1_aae02 18 = .ok (.ireturn, 1) := by decide +kernel
theorem ddJ0_length_8abf5_0 : decode cJ0_length_8abf5 0 = .ok (.aload_n 0, 1) := by decide +kernel
theorem ddJ0_length_8abf5_1 : decode cJ0_length_8abf5 1 = .ok (.getfield 9, 3) := by decide +kernel
theorem ddJ0_length_8abf5_4 : decode cJ0_length_8abf5 4 = .ok (.arraylength, 1) := by decide +kernel
theorem ddJ0_length_8abf5_5 : decode cJ0_length_8abf5 5 = .ok (.aload_n 0, 1) := by decide +kernel
theorem ddJ0_length_8abf5_6 : decode cJ0_length_8abf5 6 = .ok (.invokevirtual 335, 3) := by decide +kernel
theorem ddJ0_length_8abf5_9 : decode cJ0_length_8abf5 9 = .ok (.ishr, 1) := by decide +kernel
theorem ddJ0_length_8abf5_10 : decode cJ0_length_8abf5 10 = .ok (.ireturn, 1) := by decide +kernel
theorem ddJ3_checkIndex_8e157_0 : decode cJ3_checkIndex_8e157 0 = .ok (.iload_n 0, 1) := by decide +kernel
theorem ddJ3_checkIndex_8e157_1 : decode cJ3_checkIndex_8e157 1 = .ok (.ifCond .lt 8, 3) := by decide +kernel
theorem ddJ3_checkIndex_8e157_4 : decode cJ3_checkIndex_8e157 4 = .ok (.iload_n 0, 1) := by decide +kernel
theorem ddJ3_checkIndex_8e157_5 : decode cJ3_checkIndex_8e157 5 = .ok (.iload_n 1, 1) := by decide +kernel
theorem ddJ3_checkIndex_8e157_6 : decode cJ3_checkIndex_8e157 6 = .ok (.if_icmp .lt 10, 3) := by decide +kernel
theorem ddJ3_checkIndex_8e157_9 : decode cJ3_checkIndex_8e157 9 = .ok (.aload_n 2, 1) := by decide +kernel
theorem ddJ3_checkIndex_8e157_10 : decode cJ3_checkIndex_8e157 10 = .ok (.iload_n 0, 1) := by decide +kernel
theorem ddJ3_checkIndex_8e157_11 : decode cJ3_checkIndex_8e157 11 = .ok (.iload_n 1, 1) := by decide +kernel
theorem ddJ3_checkIndex_8e157_12 : decode cJ3_checkIndex_8e157 12 = .ok (.invokestatic 95, 3) := by decide +kernel
theorem ddJ3_checkIndex_8e157_15 : decode cJ3_checkIndex_8e157 15 = .ok (.athrow, 1) := by decide +kernel
theorem ddJ3_checkIndex_8e157_16 : decode cJ3_checkIndex_8e157 16 = .ok (.iload_n 0, 1) := by decide +kernel
theorem ddJ3_checkIndex_8e157_17 : decode cJ3_checkIndex_8e157 17 = .ok (.ireturn, 1) := by decide +kernel
theorem aT_cs : Cond.fieldLink RJ0 38 "java/lang/String" "COMPACT_STRINGS" "Z" ∈ aWS := aW_t 462 (by decide +kernel) (by decide +kernel)
theorem aT_co : Cond.fieldLink RJ0 15 "java/lang/String" "coder" "B" ∈ aWS := aW_t 1918 (by decide +kernel) (by decide +kernel)
theorem aT_va : Cond.fieldLink RJ0 9 "java/lang/String" "value" "[B" ∈ aWS := aW_t 1917 (by decide +kernel) (by decide +kernel)
set_option maxRecDepth 100000 in
theorem c_coder (l : Launch) (ad : Nat → Nat) (A : Nat → Prop) {x : Nat} (h1 : 2200 ≤ x) (h2 : x ≤ 2299) : Met l yJ0_coder_7d493 (Cond.code yJ0_coder_7d493 cJ0_coder_7d493 1 (some .byte) :: aWS) (aRn 0) (aPn ad A [.ref (ad x)]) (aQn 0) 0 0 (fun _ => False) := by
  refine metF (cc := cJ0_coder_7d493) (maxL := 1) (ret := some .byte) (by decide +kernel) rfl ?_
  intro p e s m args below meth c s₁ B hml hv
  obtain ⟨rfl, hz⟩ := hv
  have hx := B.exec
  have hb := B.bytes
  have hr := B.returns
  have hts := atoms_spec B.pre
  have hown : s.vm.findClass RJ0 = some m.cls := findClass_of_methodNamed B.named
  have hlocks := B.notSynchronized
  have hl := lv_entry ([.ref (ad x)]) (n := 1) (Nat.le_of_ble_eq_true rfl)
  rw [lg_entry_eq]
  generalize (lg_sl ([.ref (ad x)]) ++ List.replicate (1 - (lg_sl ([.ref (ad x)])).length) Slot.unset).toArray = ls at hl ⊢
  have hl : lv_has ls 1 [(0, .ref (ad x))] := hl
  have hS : va_S A s.heap s.heap [] := va_S.rf
  obtain ⟨hO, hC, hV, hT⟩ := hz.1.2.2.2.1 x h1 h2
  refine va_gets hx hb hz.1.2.2.2.2.1 hS hown (hts _ (List.mem_cons_of_mem _ aT_cs)) (fun _ h => h) ddJ0_coder_7d493_0 ?_
  refine lv_if_eq (tgt := 13) hx hb ddJ0_coder_7d493_3 rfl (fun z => absurd z (by decide)) (fun _ => ?_)
  refine lv_aload_n hx hb ddJ0_coder_7d493_6 rfl (lv_at hl 0 rfl) ?_
  refine vk_getf hx hb hC hS hown (hts _ (List.mem_cons_of_mem _ aT_co)) (fun _ h => h) ddJ0_coder_7d493_7 ?_
  refine lv_goto (tgt := 14) hx hb ddJ0_coder_7d493_10 rfl ?_
  exact W.zret (ty := .byte) hx hb hr rfl (fun t ht hW => ⟨rfl, ht⟩) (fun _ h => by cases h) ddJ0_coder_7d493_14 hlocks
set_option maxRecDepth 100000 in
theorem c_isLatin1 (l : Launch) (ad : Nat → Nat) (A : Nat → Prop) {x : Nat} (h1 : 2200 ≤ x) (h2 : x ≤ 2299) : Met l yJ0_isLatin1_aae02 (Cond.code yJ0_isLatin1_aae02 cJ0_isLatin1_aae02 1 (some .boolean) :: aWS) (aRn 0) (aPn ad A [.ref (ad x)]) (aQn 1) 0 0 (fun _ => False) := by
  refine metF (cc := cJ0_isLatin1_aae02) (maxL := 1) (ret := some .boolean) (by decide +kernel) rfl ?_
  intro p e s m args below meth c s₁ B hml hv
  obtain ⟨rfl, hz⟩ := hv
  have hx := B.exec
  have hb := B.bytes
  have hr := B.returns
  have hts := atoms_spec B.pre
  have hown : s.vm.findClass RJ0 = some m.cls := findClass_of_methodNamed B.named
  have hlocks := B.notSynchronized
  have hl := lv_entry ([.ref (ad x)]) (n := 1) (Nat.le_of_ble_eq_true rfl)
  rw [lg_entry_eq]
  generalize (lg_sl ([.ref (ad x)]) ++ List.replicate (1 - (lg_sl ([.ref (ad x)])).length) Slot.unset).toArray = ls at hl ⊢
  have hl : lv_has ls 1 [(0, .ref (ad x))] := hl
  have hS : va_S A s.heap s.heap [] := va_S.rf
  obtain ⟨hO, hC, hV, hT⟩ := hz.1.2.2.2.1 x h1 h2
  refine va_gets hx hb hz.1.2.2.2.2.1 hS hown (hts _ (List.mem_cons_of_mem _ aT_cs)) (fun _ h => h) ddJ0_isLatin1_aae02_0 ?_
  refine lv_if_eq (tgt := 17) hx hb ddJ0_isLatin1_aae02_3 rfl (fun z => absurd z (by decide)) (fun _ => ?_)
  refine lv_aload_n hx hb ddJ0_isLatin1_aae02_6 rfl (lv_at hl 0 rfl) ?_
  refine vk_getf hx hb hC hS hown (hts _ (List.mem_cons_of_mem _ aT_co)) (fun _ h => h) ddJ0_isLatin1_aae02_7 ?_
  refine lv_if_ne (tgt := 17) hx hb ddJ0_isLatin1_aae02_10 rfl (fun z => absurd rfl z) (fun _ => ?_)
  refine lv_iconst (v := 1) hx hb ddJ0_isLatin1_aae02_13 (by decide) ?_
  refine lv_goto (tgt := 18) hx hb ddJ0_isLatin1_aae02_14 rfl ?_
  exact W.zret (ty := .boolean) hx hb hr rfl (fun t ht hW => ⟨rfl, ht⟩) (fun _ h => by cases h) ddJ0_isLatin1_aae02_18 hlocks
theorem aT_cc : Cond.code yJ0_coder_7d493 cJ0_coder_7d493 1 (some .byte) ∈ aWS := aW_t 461 (by decide +kernel) (by decide +kernel)
theorem aT_cl : Cond.methodLink RJ0 335 yJ0_coder_7d493 ∈ aWS := aW_t 458 (by decide +kernel) (by decide +kernel)
theorem aT_ci : Cond.instanceMethod yJ0_coder_7d493 ∈ aWS := aW_t 459 (by decide +kernel) (by decide +kernel)
theorem aT_ce : Cond.selects RJ0 yJ0_coder_7d493 yJ0_coder_7d493 ∈ aWS := aW_t 460 (by decide +kernel) (by decide +kernel)
theorem aT_in : Cond.initialized RJ0 ∈ aWS := aW_t 16 (by decide +kernel) (by decide +kernel)
theorem r_runN {p : Program} {l : Launch} {e : Env} {R : Room} {s : State} {m : MethodId} {args : Array Value} {below : List Frame} {meth : Method} {c : Code} {H : Heap} {locs : List Loc} {Qs : State → Prop} {pc : Nat} {B : Array Slot} {v : Int32} {a' : Array Value} {st0 rest : List Value} (hr : va_Run p l e R s m args below meth c H locs 0 0 0 0 (F0 m pc B st0) rest (aQn v a') (fun _ => False))
    (kk : W p l e R s m args below meth c H locs 0 0 Qs (F0 m (pc + 3) B (.int v :: rest))) : W p l e R s m args below meth c H locs 0 0 Qs (F0 m pc B st0) := by
  intro T hT X
  obtain ⟨v1, st₀, t, T', L, h0, X', hL, e1, e2, ⟨hv, hh⟩, stp⟩ := hr T hT X
  cases hv
  have hLn : L = [] := by
    cases L with
    | nil => rfl
    | cons a t => exact (hL a List.mem_cons_self).elim
  subst hLn
  rw [List.append_nil] at X'
  obtain ⟨t2, a1, b1⟩ := kk T' (by rw [e1, hh, h0]) X'
  exact ⟨t2, stp t2 a1, b1⟩
theorem aGoodN {y : MethodName} {b : ByteArray} {n : Nat} {r : Option FieldType} (h : Cond.code y b n r ∈ aWS) {own : String} {i : Nat} (h1 : Cond.methodLink own i y ∈ aWS) (h2 : Cond.instanceMethod y ∈ aWS) (h3 : Cond.selects y.cls y y ∈ aWS) (h4 : Cond.initialized y.cls ∈ aWS) : GoodIn aWS (wsV own i y.cls y (Cond.code y b n r :: aWS)) := aGood h fun w hw => by
  rcases List.mem_cons.mp hw with z | hw
  · rw [z]; exact h1
  · rcases List.mem_cons.mp hw with z | hw
    · rw [z]; exact h2
    · rcases List.mem_cons.mp hw with z | hw
      · rw [z]; exact h3
      · rcases List.mem_cons.mp hw with z | hw
        · rw [z]; exact h4
        · cases hw
set_option maxRecDepth 100000 in
theorem c_length (l : Launch) (ad : Nat → Nat) (A : Nat → Prop) {x : Nat} (h1 : 2200 ≤ x) (h2 : x ≤ 2299) : Met l yJ0_length_8abf5 (Cond.code yJ0_length_8abf5 cJ0_length_8abf5 1 (some .int) :: aWS) (aRn 1) (aPn ad A [.ref (ad x)]) (aQn (Int32.ofNat (asl x))) 0 0 (fun _ => False) := by
  refine metF (cc := cJ0_length_8abf5) (maxL := 1) (ret := some .int) (by decide +kernel) rfl ?_
  intro p e s m args below meth c s₁ B hml hv
  obtain ⟨rfl, hz⟩ := hv
  have hx := B.exec
  have hb := B.bytes
  have hr := B.returns
  have hts := atoms_spec B.pre
  have hown : s.vm.findClass RJ0 = some m.cls := findClass_of_methodNamed B.named
  have hlocks := B.notSynchronized
  have hl := lv_entry ([.ref (ad x)]) (n := 1) (Nat.le_of_ble_eq_true rfl)
  rw [lg_entry_eq]
  generalize (lg_sl ([.ref (ad x)]) ++ List.replicate (1 - (lg_sl ([.ref (ad x)])).length) Slot.unset).toArray = ls at hl ⊢
  have hl : lv_has ls 1 [(0, .ref (ad x))] := hl
  have hS : va_S A s.heap s.heap [] := va_S.rf
  obtain ⟨hO, hC, hV, hT⟩ := hz.1.2.2.2.1 x h1 h2
  have hts' : ∀ w ∈ aWS, w.before (#[.ref (ad x)] : Array Value) s = true := fun w hw => hts w (List.mem_cons_of_mem _ hw)
  refine lv_aload_n hx hb ddJ0_length_8abf5_0 rfl (lv_at hl 0 rfl) ?_
  refine vk_getf hx hb hV hS hown (hts' _ aT_va) (fun _ h => h) ddJ0_length_8abf5_1 ?_
  refine va_tlen hx hb hT hS rfl ddJ0_length_8abf5_4 ?_
  refine lv_aload_n hx hb ddJ0_length_8abf5_5 rfl (lv_at hl 0 rfl) ?_
  refine r_runN (va_runV (As := []) (rest := [.int (Int32.ofNat (asl x))]) (Ts := aWS) ⟨hx, hb, hml, hown, hts'⟩ (c_coder l ad A h1 h2) (cwV 0 hts' (aGoodN aT_cc aT_cl aT_ci aT_ce aT_in) rfl rfl rfl ⟨rfl, by decide, by decide, by decide +kernel⟩ ⟨Nat.le_refl _, by decide⟩) ⟨aPn_blind, ?_, fun U hU hW => ⟨rfl, aZX_ok.2 s U s.heap [] hz hW hS hU⟩⟩ rfl rfl hl.1 rfl (lv_room (Nat.le_of_ble_eq_true rfl)) ddJ0_length_8abf5_6 ⟨Nat.le_refl _, Nat.le_refl _⟩) ?_
  · obtain ⟨cell, g1, g2, g3, -⟩ := hO
    exact ⟨cell, g1, g2, g3⟩
  · refine lv_ishr hx hb ddJ0_length_8abf5_9 ?_
    rw [sb_shr0]
    exact W.iret hx hb hr (fun t ht hW => ⟨rfl, ht⟩) (fun _ h => by cases h) ddJ0_length_8abf5_10 hlocks
theorem ddJ0_checkIndex_df160_0 : decode cJ0_checkIndex_df160 0 = .ok (.iload_n 0, 1) := by decide +kernel
theorem ddJ0_checkIndex_df160_1 : decode cJ0_checkIndex_df160 1 = .ok (.iload_n 1, 1) := by decide +kernel
theorem ddJ0_checkIndex_df160_2 : decode cJ0_checkIndex_df160 2 = .ok (.getstatic 1053, 3) := by decide +kernel
theorem ddJ0_checkIndex_df160_5 : decode cJ0_checkIndex_df160 5 = .ok (.invokestatic 1059, 3) := by decide +kernel
theorem ddJ0_checkIndex_df160_8 : decode cJ0_checkIndex_df160 8 = .ok (.pop, 1) := by decide +kernel
theorem ddJ0_checkIndex_df160_9 : decode cJ0_checkIndex_df160 9 = .ok (.return_, 1) := by decide +kernel
theorem aT_pl : Cond.methodLink RJ0 1059 yJ3_checkIndex_8e157 ∈ aWS := aW_t 480 (by decide +kernel) (by decide +kernel)
theorem aT_ps : Cond.static yJ3_checkIndex_8e157 ∈ aWS := aW_t 481 (by decide +kernel) (by decide +kernel)
theorem aT_pc : Cond.code yJ3_checkIndex_8e157 cJ3_checkIndex_8e157 3 (some .int) ∈ aWS := aW_t 482 (by decide +kernel) (by decide +kernel)
theorem aT_pi : Cond.initialized yJ3_checkIndex_8e157.cls ∈ aWS := aW_t 18 (by decide +kernel) (by decide +kernel)
theorem aT_sf : Cond.fieldLink RJ0 1053 "jdk/internal/util/Preconditions" "SIOOBE_FORMATTER" "Ljava/util/function/BiFunction;" ∈ aWS := aW_t 478 (by decide +kernel) (by decide +kernel)
set_option maxRecDepth 100000 in
theorem c_pci (l : Launch) (ad : Nat → Nat) (A : Nat → Prop) {i n : Int32} (f : Option Nat) (h0 : ¬ i < 0) (h1 : i < n) : Met l yJ3_checkIndex_8e157 (Cond.code yJ3_checkIndex_8e157 cJ3_checkIndex_8e157 3 (some .int) :: aWS) (aRn 0) (aPn ad A [.int i, .int n, va_rf f]) (aQn i) 0 0 (fun _ => False) := by
  refine metF (cc := cJ3_checkIndex_8e157) (maxL := 3) (ret := some .int) (by decide +kernel) rfl ?_
  intro p e s m args below meth c s₁ B hml hv
  obtain ⟨rfl, hz⟩ := hv
  have hx := B.exec
  have hb := B.bytes
  have hr := B.returns
  have hlocks := B.notSynchronized
  have hcat : (va_rf f).category = 1 := by cases f <;> rfl
  have hsl : lg_sl [.int i, .int n, va_rf f] = [.val (.int i), .val (.int n), .val (va_rf f)] := by cases f <;> rfl
  have hl := lv_entry ([.int i, .int n, va_rf f]) (n := 3) (by rw [hsl]; exact Nat.le_of_ble_eq_true rfl)
  rw [lg_entry_eq]
  generalize (lg_sl [.int i, .int n, va_rf f] ++ List.replicate (3 - (lg_sl [.int i, .int n, va_rf f]).length) Slot.unset).toArray = ls at hl ⊢
  have g0 : ls[0]? = some (.val (.int i)) := lv_at hl 0 rfl
  have g1 : ls[1]? = some (.val (.int n)) := lv_at hl 1 rfl
  refine lv_iload_n hx hb ddJ3_checkIndex_8e157_0 rfl g0 ?_
  refine lv_if_lt (tgt := 9) hx hb ddJ3_checkIndex_8e157_1 rfl (fun z => absurd z h0) (fun _ => ?_)
  refine lv_iload_n hx hb ddJ3_checkIndex_8e157_4 rfl g0 ?_
  refine lv_iload_n hx hb ddJ3_checkIndex_8e157_5 rfl g1 ?_
  refine lv_icmp_lt (tgt := 16) hx hb ddJ3_checkIndex_8e157_6 rfl (fun _ => ?_) (fun z => absurd h1 z)
  refine lv_iload_n hx hb ddJ3_checkIndex_8e157_16 rfl g0 ?_
  exact W.iret hx hb hr (fun t ht hW => ⟨rfl, ht⟩) (fun _ h => by cases h) ddJ3_checkIndex_8e157_17 hlocks
def aQv0 : Array Value → State → Outcome → State → Prop := fun _ st o t => o = .returned none ∧ t.heap = st.heap
set_option maxRecDepth 100000 in
theorem c_sci (l : Launch) (ad : Nat → Nat) (A : Nat → Prop) {i n : Int32} (h0 : ¬ i < 0) (h1 : i < n) : Met l yJ0_checkIndex_df160 (Cond.code yJ0_checkIndex_df160 cJ0_checkIndex_df160 2 none :: aWS) (aRn 1) (aPn ad A [.int i, .int n]) aQv0 0 0 (fun _ => False) := by
  refine metF (cc := cJ0_checkIndex_df160) (maxL := 2) (ret := none) (by decide +kernel) rfl ?_
  intro p e s m args below meth c s₁ B hml hv
  obtain ⟨rfl, hz⟩ := hv
  have hx := B.exec
  have hb := B.bytes
  have hr := B.returns
  have hts := atoms_spec B.pre
  have hts' : ∀ w ∈ aWS, w.before (#[.int i, .int n] : Array Value) s = true := fun w hw => hts w (List.mem_cons_of_mem _ hw)
  have hown : s.vm.findClass RJ0 = some m.cls := findClass_of_methodNamed B.named
  have hlocks := B.notSynchronized
  have hl := lv_entry ([.int i, .int n]) (n := 2) (Nat.le_of_ble_eq_true rfl)
  rw [lg_entry_eq]
  generalize (lg_sl [.int i, .int n] ++ List.replicate (2 - (lg_sl [.int i, .int n]).length) Slot.unset).toArray = ls at hl ⊢
  have g0 : ls[0]? = some (.val (.int i)) := lv_at hl 0 rfl
  have g1 : ls[1]? = some (.val (.int n)) := lv_at hl 1 rfl
  have hS : va_S A s.heap s.heap [] := va_S.rf
  refine lv_iload_n hx hb ddJ0_checkIndex_df160_0 rfl g0 ?_
  refine lv_iload_n hx hb ddJ0_checkIndex_df160_1 rfl g1 ?_
  have hq : ∃ f : Option Nat, va_Z "jdk/internal/util/Preconditions" "SIOOBE_FORMATTER" "Ljava/util/function/BiFunction;" (va_rf f) A s s.heap := by
    rcases hz.1.2.2.2.2.2 with z | ⟨t, z⟩
    · exact ⟨none, z⟩
    · exact ⟨some t, z⟩
  obtain ⟨f, hq⟩ := hq
  refine va_gets hx hb hq hS hown (hts' _ aT_sf) (fun _ h => h) ddJ0_checkIndex_df160_2 ?_
  refine r_runN (va_runS (As := [.int i, .int n, va_rf f]) (rest := []) (Ts := aWS) ⟨hx, hb, hml, hown, hts'⟩ (c_pci l ad A f h0 h1) ⟨callB_of 3 hts' (aGood (ws := []) aT_pc (fun _ h => by cases h)) rfl rfl rfl (hts' _ aT_pi) (hts' _ aT_pl) ⟨by decide, by decide, by decide +kernel⟩ ⟨Nat.le_refl _, by decide⟩, hts' _ aT_ps⟩ ⟨aPn_blind, fun U hU hW => ⟨rfl, aZX_ok.2 s U s.heap [] hz hW hS hU⟩⟩ rfl rfl hl.1 rfl (lv_room (by decide)) ddJ0_checkIndex_df160_5 ⟨Nat.le_refl _, Nat.le_refl _⟩) ?_
  refine lv_pop hx hb ddJ0_checkIndex_df160_8 rfl ?_
  exact W.vret hx hb hr (fun t ht hW => ⟨rfl, ht⟩) (fun _ h => by cases h) ddJ0_checkIndex_df160_9 hlocks
theorem ddJ1_charAt_3b067_0 : decode cJ1_charAt_3b067 0 = .ok (.iload_n 1, 1) := by decide +kernel
theorem ddJ1_charAt_3b067_1 : decode cJ1_charAt_3b067 1 = .ok (.aload_n 0, 1) := by decide +kernel
theorem ddJ1_charAt_3b067_2 : decode cJ1_charAt_3b067 2 = .ok (.arraylength, 1) := by decide +kernel
theorem ddJ1_charAt_3b067_3 : decode cJ1_charAt_3b067 3 = .ok (.invokestatic 9, 3) := by decide +kernel
theorem ddJ1_charAt_3b067_6 : decode cJ1_charAt_3b067 6 = .ok (.aload_n 0, 1) := by decide +kernel
theorem ddJ1_charAt_3b067_7 : decode cJ1_charAt_3b067 7 = .ok (.iload_n 1, 1) := by decide +kernel
theorem ddJ1_charAt_3b067_8 : decode cJ1_charAt_3b067 8 = .ok (.baload, 1) := by decide +kernel
theorem ddJ1_charAt_3b067_9 : decode cJ1_charAt_3b067 9 = .ok (.sipush 255, 3) := by decide +kernel
theorem ddJ1_charAt_3b067_12 : decode cJ1_charAt_3b067 12 = .ok (.iand, 1) := by decide +kernel
theorem ddJ1_charAt_3b067_13 : decode cJ1_charAt_3b067 13 = .ok (.i2c, 1) := by decide +kernel
theorem ddJ1_charAt_3b067_14 : decode cJ1_charAt_3b067 14 = .ok (.ireturn, 1) := by decide +kernel
theorem ddJ0_charAt_5068e_0 : decode cJ0_charAt_5068e 0 = .ok (.aload_n 0, 1) := by decide +kernel
theorem ddJ0_charAt_5068e_1 : decode cJ0_charAt_5068e 1 = .ok (.invokevirtual 492, 3) := by decide +kernel
theorem ddJ0_charAt_5068e_4 : decode cJ0_charAt_5068e 4 = .ok (.ifCond .eq 12, 3) := by decide +kernel
theorem ddJ0_charAt_5068e_7 : decode cJ0_charAt_5068e 7 = .ok (.aload_n 0, 1) := by decide +kernel
theorem ddJ0_charAt_5068e_8 : decode cJ0_charAt_5068e 8 = .ok (.getfield 9, 3) := by decide +kernel
theorem ddJ0_charAt_5068e_11 : decode cJ0_charAt_5068e 11 = .ok (.iload_n 1, 1) := by decide +kernel
theorem ddJ0_charAt_5068e_12 : decode cJ0_charAt_5068e 12 = .ok (.invokestatic 495, 3) := by decide +kernel
theorem ddJ0_charAt_5068e_15 : decode cJ0_charAt_5068e 15 = .ok (.ireturn, 1) := by decide +kernel
theorem ddJ0_charAt_5068e_16 : decode cJ0_charAt_5068e 16 = .ok (.aload_n 0, 1) := by decide +kernel
theorem ddJ0_charAt_5068e_17 : decode cJ0_charAt_5068e 17 = .ok (.getfield 9, 3) := by decide +kernel
theorem ddJ0_charAt_5068e_20 : decode cJ0_charAt_5068e 20 = .ok (.iload_n 1, 1) := by decide +kernel
theorem ddJ0_charAt_5068e_21 : decode cJ0_charAt_5068e 21 = .ok (.invokestatic 498, 3) := by decide +kernel
theorem ddJ0_charAt_5068e_24 : decode cJ0_charAt_5068e 24 = .ok (.ireturn, 1) := by decide +kernel
theorem aT_kl : Cond.methodLink RJ1 9 yJ0_checkIndex_df160 ∈ aWS := aW_t 475 (by decide +kernel) (by decide +kernel)
theorem aT_ks : Cond.static yJ0_checkIndex_df160 ∈ aWS := aW_t 476 (by decide +kernel) (by decide +kernel)
theorem aT_kc : Cond.code yJ0_checkIndex_df160 cJ0_checkIndex_df160 2 none ∈ aWS := aW_t 477 (by decide +kernel) (by decide +kernel)
theorem aT_ll : Cond.methodLink RJ0 495 yJ1_charAt_3b067 ∈ aWS := aW_t 472 (by decide +kernel) (by decide +kernel)
theorem aT_ls : Cond.static yJ1_charAt_3b067 ∈ aWS := aW_t 473 (by decide +kernel) (by decide +kernel)
theorem aT_lc : Cond.code yJ1_charAt_3b067 cJ1_charAt_3b067 2 (some .char) ∈ aWS := aW_t 474 (by decide +kernel) (by decide +kernel)
theorem aT_li : Cond.initialized yJ1_charAt_3b067.cls ∈ aWS := aW_t 17 (by decide +kernel) (by decide +kernel)
theorem aT_ic : Cond.code yJ0_isLatin1_aae02 cJ0_isLatin1_aae02 1 (some .boolean) ∈ aWS := aW_t 471 (by decide +kernel) (by decide +kernel)
theorem aT_il : Cond.methodLink RJ0 492 yJ0_isLatin1_aae02 ∈ aWS := aW_t 468 (by decide +kernel) (by decide +kernel)
theorem aT_ii : Cond.instanceMethod yJ0_isLatin1_aae02 ∈ aWS := aW_t 469 (by decide +kernel) (by decide +kernel)
theorem aT_ie : Cond.selects RJ0 yJ0_isLatin1_aae02 yJ0_isLatin1_aae02 ∈ aWS := aW_t 470 (by decide +kernel) (by decide +kernel)
theorem ast_ok : ∀ j, j < 100 → ((ast (2200 + j)).all fun b => decide (b &&& 255 = b)) = true := by decide +kernel
theorem asc_ok {x k : Nat} (h1 : 2200 ≤ x) (h2 : x ≤ 2299) : asc x k &&& 255 = asc x k := by
  have h := ast_ok (x - 2200) (by omega)
  rw [show 2200 + (x - 2200) = x from by omega] at h
  unfold asc
  rw [List.getD_eq_getElem?_getD]
  cases hk : (ast x)[k]? with
  | none => rfl
  | some b => exact of_decide_eq_true (List.all_eq_true.mp h b (List.mem_of_getElem? hk))
theorem r_runV0 {p : Program} {l : Launch} {e : Env} {R : Room} {s : State} {m : MethodId} {args : Array Value} {below : List Frame} {meth : Method} {c : Code} {H : Heap} {locs : List Loc} {Qs : State → Prop} {pc : Nat} {B : Array Slot} {a' : Array Value} {st0 rest : List Value} (hr : va_Run p l e R s m args below meth c H locs 0 0 0 0 (F0 m pc B st0) rest (aQv0 a') (fun _ => False))
    (kk : W p l e R s m args below meth c H locs 0 0 Qs (F0 m (pc + 3) B rest)) : W p l e R s m args below meth c H locs 0 0 Qs (F0 m pc B st0) := by
  intro T hT X
  obtain ⟨v1, st₀, t, T', L, h0, X', hL, e1, e2, ⟨hv, hh⟩, stp⟩ := hr T hT X
  cases hv
  have hLn : L = [] := by
    cases L with
    | nil => rfl
    | cons a t => exact (hL a List.mem_cons_self).elim
  subst hLn
  rw [List.append_nil] at X'
  obtain ⟨t2, a1, b1⟩ := kk T' (by rw [e1, hh, h0]) X'
  exact ⟨t2, stp t2 a1, b1⟩
set_option maxRecDepth 100000 in
theorem c_lat (l : Launch) (ad : Nat → Nat) (A : Nat → Prop) {x : Nat} {i : Int32} (h1 : 2200 ≤ x) (h2 : x ≤ 2299) (hi : vp_in i (asl x)) (hi2 : i < Int32.ofNat (asl x)) : Met l yJ1_charAt_3b067 (Cond.code yJ1_charAt_3b067 cJ1_charAt_3b067 2 (some .char) :: aWS) (aRn 2) (aPn ad A [.ref (ad (x + 200)), .int i]) (aQn (asc x i.toNatClampNeg)) 0 0 (fun _ => False) := by
  refine metF (cc := cJ1_charAt_3b067) (maxL := 2) (ret := some .char) (by decide +kernel) rfl ?_
  intro p e s m args below meth c s₁ B hml hv
  obtain ⟨rfl, hz⟩ := hv
  have hx := B.exec
  have hb := B.bytes
  have hr := B.returns
  have hts := atoms_spec B.pre
  have hts' : ∀ w ∈ aWS, w.before (#[.ref (ad (x + 200)), .int i] : Array Value) s = true := fun w hw => hts w (List.mem_cons_of_mem _ hw)
  have hown : s.vm.findClass RJ1 = some m.cls := findClass_of_methodNamed B.named
  have hlocks := B.notSynchronized
  have hl := lv_entry ([.ref (ad (x + 200)), .int i]) (n := 2) (Nat.le_of_ble_eq_true rfl)
  rw [lg_entry_eq]
  generalize (lg_sl [.ref (ad (x + 200)), .int i] ++ List.replicate (2 - (lg_sl [.ref (ad (x + 200)), .int i]).length) Slot.unset).toArray = ls at hl ⊢
  have g0 : ls[0]? = some (.val (.ref (ad (x + 200)))) := lv_at hl 0 rfl
  have g1 : ls[1]? = some (.val (.int i)) := lv_at hl 1 rfl
  have hS : va_S A s.heap s.heap [] := va_S.rf
  obtain ⟨hO, hC, hV, hT⟩ := hz.1.2.2.2.1 x h1 h2
  refine lv_iload_n hx hb ddJ1_charAt_3b067_0 rfl g1 ?_
  refine lv_aload_n hx hb ddJ1_charAt_3b067_1 rfl g0 ?_
  refine va_tlen hx hb hT hS rfl ddJ1_charAt_3b067_2 ?_
  refine r_runV0 (va_runS (As := [.int i, .int (Int32.ofNat (asl x))]) (rest := []) (Ts := aWS) ⟨hx, hb, hml, hown, hts'⟩ (c_sci l ad A (fun z => hi (Or.inl z)) hi2) ⟨callB_of 2 hts' (aGood (ws := []) aT_kc (fun _ h => by cases h)) rfl rfl rfl (hts' _ aT_in) (hts' _ aT_kl) ⟨by decide, by decide, by decide +kernel⟩ ⟨Nat.le_refl _, by decide⟩, hts' _ aT_ks⟩ ⟨aPn_blind, fun U hU hW => ⟨rfl, aZX_ok.2 s U s.heap [] hz hW hS hU⟩⟩ rfl rfl hl.1 rfl (lv_room (by decide)) ddJ1_charAt_3b067_3 ⟨Nat.le_refl _, Nat.le_refl _⟩) ?_
  refine lv_aload_n hx hb ddJ1_charAt_3b067_6 rfl g0 ?_
  refine lv_iload_n hx hb ddJ1_charAt_3b067_7 rfl g1 ?_
  refine va_tb hx hb hT hS hi rfl ddJ1_charAt_3b067_8 ?_
  refine lv_sipush (v := 255) hx hb ddJ1_charAt_3b067_9 (by decide) ?_
  refine lv_iand hx hb ddJ1_charAt_3b067_12 ?_
  refine lv_i2c hx hb ddJ1_charAt_3b067_13 rfl ?_
  rw [sc_c2]
  refine W.zret (ty := .char) hx hb hr (sc_nar _) (fun t ht hW => ⟨?_, ht⟩) (fun _ h => by cases h) ddJ1_charAt_3b067_14 hlocks
  rw [asc_ok h1 h2]
set_option maxRecDepth 100000 in
theorem c_charAt (l : Launch) (ad : Nat → Nat) (A : Nat → Prop) {x : Nat} {i : Int32} (h1 : 2200 ≤ x) (h2 : x ≤ 2299) (hi : vp_in i (asl x)) (hi2 : i < Int32.ofNat (asl x)) : Met l yJ0_charAt_5068e (Cond.code yJ0_charAt_5068e cJ0_charAt_5068e 2 (some .char) :: aWS) (aRn 3) (aPn ad A [.ref (ad x), .int i]) (aQn (asc x i.toNatClampNeg)) 0 0 (fun _ => False) := by
  refine metF (cc := cJ0_charAt_5068e) (maxL := 2) (ret := some .char) (by decide +kernel) rfl ?_
  intro p e s m args below meth c s₁ B hml hv
  obtain ⟨rfl, hz⟩ := hv
  have hx := B.exec
  have hb := B.bytes
  have hr := B.returns
  have hts := atoms_spec B.pre
  have hts' : ∀ w ∈ aWS, w.before (#[.ref (ad x), .int i] : Array Value) s = true := fun w hw => hts w (List.mem_cons_of_mem _ hw)
  have hown : s.vm.findClass RJ0 = some m.cls := findClass_of_methodNamed B.named
  have hlocks := B.notSynchronized
  have hl := lv_entry ([.ref (ad x), .int i]) (n := 2) (Nat.le_of_ble_eq_true rfl)
  rw [lg_entry_eq]
  generalize (lg_sl [.ref (ad x), .int i] ++ List.replicate (2 - (lg_sl [.ref (ad x), .int i]).length) Slot.unset).toArray = ls at hl ⊢
  have g0 : ls[0]? = some (.val (.ref (ad x))) := lv_at hl 0 rfl
  have g1 : ls[1]? = some (.val (.int i)) := lv_at hl 1 rfl
  have hS : va_S A s.heap s.heap [] := va_S.rf
  obtain ⟨hO, hC, hV, hT⟩ := hz.1.2.2.2.1 x h1 h2
  have hrv : ∃ cell : Cell, s.heap[ad x]? = some cell ∧ cell.vm.isStatics = false ∧ s.vm.findClass RJ0 = some cell.cls := by
    obtain ⟨cell, q1, q2, q3, -⟩ := hO
    exact ⟨cell, q1, q2, q3⟩
  refine lv_aload_n hx hb ddJ0_charAt_5068e_0 rfl g0 ?_
  refine r_runN (va_runV (As := []) (rest := []) (Ts := aWS) ⟨hx, hb, hml, hown, hts'⟩ (c_isLatin1 l ad A h1 h2) (cwV 0 hts' (aGoodN aT_ic aT_il aT_ii aT_ie aT_in) rfl rfl rfl ⟨rfl, by decide, by decide, by decide +kernel⟩ ⟨by decide, by decide⟩) ⟨aPn_blind, hrv, fun U hU hW => ⟨rfl, aZX_ok.2 s U s.heap [] hz hW hS hU⟩⟩ rfl rfl hl.1 rfl (lv_room (by decide)) ddJ0_charAt_5068e_1 ⟨Nat.le_refl _, Nat.le_refl _⟩) ?_
  refine lv_if_eq (tgt := 16) hx hb ddJ0_charAt_5068e_4 rfl (fun z => absurd z (by decide)) (fun _ => ?_)
  refine lv_aload_n hx hb ddJ0_charAt_5068e_7 rfl g0 ?_
  refine vk_getf hx hb hV hS hown (hts' _ aT_va) (fun _ h => h) ddJ0_charAt_5068e_8 ?_
  refine lv_iload_n hx hb ddJ0_charAt_5068e_11 rfl g1 ?_
  refine r_runN (va_runS (As := [.ref (ad (x + 200)), .int i]) (rest := []) (Ts := aWS) ⟨hx, hb, hml, hown, hts'⟩ (c_lat l ad A h1 h2 hi hi2) ⟨callB_of 2 hts' (aGood (ws := []) aT_lc (fun _ h => by cases h)) rfl rfl rfl (hts' _ aT_li) (hts' _ aT_ll) ⟨by decide, by decide, by decide +kernel⟩ ⟨Nat.le_refl _, by decide⟩, hts' _ aT_ls⟩ ⟨aPn_blind, fun U hU hW => ⟨rfl, aZX_ok.2 s U s.heap [] hz hW hS hU⟩⟩ rfl rfl hl.1 rfl (lv_room (by decide)) ddJ0_charAt_5068e_12 ⟨Nat.le_refl _, Nat.le_refl _⟩) ?_
  refine W.zret (ty := .char) hx hb hr ?_ (fun t ht hW => ⟨rfl, ht⟩) (fun _ h => by cases h) ddJ0_charAt_5068e_15 hlocks
  rw [← asc_ok h1 h2]
  exact sc_nar _
