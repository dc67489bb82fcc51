/-! calls on constants: Enum.ordinal -/
theorem aO_c : Cond.code yJx29ce0_ordinal_8abf5 cJx29ce0_ordinal_8abf5 1 (some .int) ∈ aWS := aW_t 516 (by decide +kernel) (by decide +kernel)
theorem aO_f : Cond.fieldLink RJx29ce0 7 "java/lang/Enum" "ordinal" "I" ∈ aWS := aW_t 1919 (by decide +kernel) (by decide +kernel)
theorem aO_0 : decode cJx29ce0_ordinal_8abf5 0 = .ok (.aload_n 0, 1) := by decide +kernel
theorem aO_1 : decode cJx29ce0_ordinal_8abf5 1 = .ok (.getfield 7, 3) := by decide +kernel
theorem aO_4 : decode cJx29ce0_ordinal_8abf5 4 = .ok (.ireturn, 1) := by decide +kernel
/-- what a call on a constant brings: an int, no cell written -/
def aQn (v : Int32) : Array Value → State → Outcome → State → Prop := fun _ st o t => o = .returned (some (.int v)) ∧ t.heap = st.heap
def aPn (ad : Nat → Nat) (A : Nat → Prop) (av : List Value) : Array Value → State → Prop := va_Pc av fun U => aZX ad A U
theorem aPn_blind {ad : Nat → Nat} {A : Nat → Prop} {av : List Value} : FrameBlind (aPn ad A av) := fun a U g mk h => ⟨h.1, aZX_ok.1 U g mk a h.2⟩
set_option maxRecDepth 100000 in
theorem c_ordinal (l : Launch) (ad : Nat → Nat) (A : Nat → Prop) {k : Nat} (hk : k < 33) : Met l yJx29ce0_ordinal_8abf5 (Cond.code yJx29ce0_ordinal_8abf5 cJx29ce0_ordinal_8abf5 1 (some .int) :: aWS) (aRn 0) (aPn ad A [.ref (ad (2000 + k))]) (aQn (Int32.ofNat k)) 0 0 (fun _ => False) := by
  refine metF (cc := cJx29ce0_ordinal_8abf5) (maxL := 1) (ret := some .int) (by decide +kernel) rfl ?_
  intro p e s m args below meth c s₁ B hml hv
  obtain ⟨rfl, hz⟩ := hv
  have hx := B.exec
  have hb := B.bytes
  have hr := B.returns
  have hts := atoms_spec B.pre
  have hown : s.vm.findClass RJx29ce0 = some m.cls := findClass_of_methodNamed B.named
  have hlocks := B.notSynchronized
  have hl := lv_entry ([.ref (ad (2000 + k))]) (n := 1) (Nat.le_of_ble_eq_true rfl)
  rw [lg_entry_eq]
  generalize (lg_sl ([.ref (ad (2000 + k))]) ++ List.replicate (1 - (lg_sl ([.ref (ad (2000 + k))])).length) Slot.unset).toArray = ls at hl ⊢
  have hl : lv_has ls 1 [(0, .ref (ad (2000 + k)))] := hl
  refine lv_aload_n hx hb aO_0 rfl (lv_at hl 0 rfl) ?_
  refine vk_getf hx hb (hz.1.1 k hk).2.2.1 (va_S.rf (A := A)) hown (hts _ (List.mem_cons_of_mem _ aO_f)) (fun _ h => h) aO_1 ?_
  exact W.iret hx hb hr (fun t ht hW => ⟨rfl, ht⟩) (fun _ h => by cases h) aO_4 hlocks
