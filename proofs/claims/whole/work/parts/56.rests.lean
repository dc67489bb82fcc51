/-! rests of the class: its contract -/
theorem l_notrace {l : Launch} (h : l.flags = flags0) : l.stackTraces = false := by
  unfold Launch.stackTraces
  rw [h]
  decide +kernel
section
variable {p : Program} {l : Launch} {e : Env} {R : Room} {s : State} {m : MethodId} {args : Array Value} {below : List Frame} {meth : Method} {c : Code} {H : Heap} {locs : List Loc} {cells slots : Nat} {free : Addr → Prop} {ls : Array Slot} {rest : List Value}
variable {Qc : Array Value → State → Outcome → State → Prop} {XC : String → State → State → Prop}
theorem ns_throw {cc : ByteArray} {pc : Nat} (hexec : p.tables.exec = Jvm.exec) (hb : c.code = cc) (hl : l.stackTraces = false) {own text : String} {ik is ic mc ms sa : Nat} {A : Nat → Prop}
    (hown : s.vm.findClass own = some m.cls) (hk : (Cond.classLink own ik nsX).before args s = true) (hini : (Cond.initialized nsX).before args s = true) (hstr : vk_R own is text sa s) (hat : ∀ w ∈ (nsA own ic).filter vx_no, w.before args s = true)
    (hgood : ∀ w ∈ Cond.classLink own ik nsX :: Cond.initialized nsX :: (nsA own ic).filter vx_no, vx_ot w = true)
    (hU : vx_Zq Bundle.tN "UNASSIGNED_STACK" Bundle.steD A s s.heap) (hN : vx_Zq Bundle.tN "SUPPRESSED_SENTINEL" Bundle.listD A s s.heap) (hS : va_S A s.heap H locs) (hsize : ls.size = c.maxLocals)
    (d0 : decode cc pc = .ok (.new ik, 3)) (d3 : decode cc (pc + 3) = .ok (.dup, 1)) (d4 : decode cc (pc + 4) = .ok (.ldc_w is, 3)) (d7 : decode cc (pc + 7) = .ok (.invokespecial ic, 3)) (d10 : decode cc (pc + 10) = .ok (.athrow, 1))
    (hout : ∀ x ∈ c.exceptionTable.toList, covers x (pc + 10) = false) (hRframes : 5 < R.frames) (hRlocals : (rest.map fun v => v.category).sum + 82 ≤ R.locals) (hRcells : cells + 1 ≤ R.cells) (hRslots : slots + 6 ≤ R.slots) (hlocks : meth.locks = false)
    (hx : ∀ t : State, s.vm.Alike t.vm → H.size ≤ t.heap.size → (∀ q : Nat, q < H.size → t.heap[q]? = H[q]?) → XC nsX s t) (hf : ∀ z ∈ locs, free z.base) (hc : cells + 1 ≤ mc) (hs : slots + 6 ≤ ms) :
    W p l e R s m args below meth c H locs cells slots (vx_MQ below Qc XC args s mc ms free) (F0 m pc ls rest) := by
  intro T hT X
  have htr : e.platform.stackTraces = false := (show e.platform.stackTraces = l.stackTraces by rw [X.admits.platform]).trans hl
  have Y := vx_rebase X (R' := { frames := R.frames, locals := R.locals, cells := 1, slots := 6 }) (Nat.le_refl _) (Nat.le_refl _) hRcells hRslots
  obtain ⟨s', hA⟩ : ∃ z, z = (T.setVm s.vm).setFrames (.invoking m args :: below) := ⟨_, rfl⟩
  rw [← hA] at Y
  have hvm : s'.vm = s.vm := by rw [hA]; rfl
  have hhp : s'.heap = H := by rw [hA]; exact hT
  have hW0 : s.WarmedH s'.vm := by rw [hvm]; exact State.WarmedH.refl s
  have hat' : ∀ w ∈ (nsA own ic).filter vx_no, w.before args s' = true := fun w hw => vx_ot_at hW0 hvm.symm (hgood w (List.mem_cons_of_mem _ (List.mem_cons_of_mem _ hw))) (hat w hw)
  have hk' : (Cond.classLink own ik nsX).before args s' = true := vx_ot_at hW0 hvm.symm (hgood _ List.mem_cons_self) hk
  have hini' : (Cond.initialized nsX).before args s' = true := vx_ot_at hW0 hvm.symm (hgood _ (List.mem_cons_of_mem _ List.mem_cons_self)) hini
  have hU' : vx_Zq Bundle.tN "UNASSIGNED_STACK" Bundle.steD A s' s'.heap := by rw [hhp]; exact vx_Zq.moved hW0.alike (hU.kept hS.2.1)
  have hN' : vx_Zq Bundle.tN "SUPPRESSED_SENTINEL" Bundle.listD A s' s'.heap := by rw [hhp]; exact vx_Zq.moved hW0.alike (hN.kept hS.2.1)
  have h : ∀ w ∈ nsA own ic, w.before args s' = true := vx_own hat' (vx_isRefq hU'.1) (vx_isRefq hN'.1) hU'.2.word hN'.2.word
  have hown' : s'.vm.findClass own = some m.cls := by rw [hvm]; exact hown
  have hins : (Cond.instantiable nsX 6).before args s' = true := h _ (by simp [nsA])
  obtain ⟨vm₁, cX, kX, hfX, hkX, -, -, X₁, st1⟩ := Y.newCold hexec (own := own) (C := nsX) (index := ik) (n := 6) hown' hk' hins hini'
    (g := F0 m pc ls rest) rfl (by rw [hb]; exact d0) (Nat.le_refl _) (Nat.le_refl _)
  generalize hT1 : (T.setVm vm₁).pushCell { cls := cX, slots := kX.instanceTypes.map defaultValue, vm := .none } = T1 at X₁ st1
  have hcat : (Value.ref T.heap.size).category = 1 := rfl
  have hcellA : T1.heap[T.heap.size]? = some (freshCell cX kX) := by rw [← hT1]; exact State.heap_pushCell_size _ _
  have d3' : decode c.code (pc + 3) = .ok (.dup, 1) := by rw [hb]; exact d3
  have d4' : decode c.code (pc + 4) = .ok (.ldc_w is, 3) := by rw [hb]; exact d4
  have hstr' : vk_R own is text sa s' := vk_R.warm hW0 hstr
  obtain ⟨U, hsteps, hrun, hend, hW, hsame, ce, hce, hO1, hO2⟩ := ns_ctor X₁ hexec htr (own := own) (ic := ic) hown' h (fun x hx => nomatch hx) hfX hkX hcellA (by rw [hhp, hT]; exact Nat.le_refl _) (msg := .ref sa) rfl
    (g := { method := m, pc := pc + 7, locals := ls, stack := .ref sa :: .ref T.heap.size :: .ref T.heap.size :: rest, locked := none }) rfl hsize rfl rfl (rest := rest) rfl
    (by rw [hb]; exact d7) (by rw [hb]; exact d10) hout hRframes (by
      have h9 : 2 * JFrame.monitorRoom { method := m, pc := pc + 7, locals := ls, stack := .ref sa :: .ref T.heap.size :: .ref T.heap.size :: rest, locked := none } = 0 := rfl
      simp only [List.map_cons, List.sum_cons, hcat]
      show _ ≤ R.locals
      omega) hlocks
  obtain ⟨f1, f2⟩ := vx_frame hsame
  rw [hhp] at f1 f2
  have hWs : s.WarmedH U.vm := State.WarmedH.trans hW0 hW
  have hcl : s.vm.findClass nsX = some ce.cls := by
    rw [hvm] at hO1
    exact hO1
  have hall : s.sameButNew ({ U with vm := s.vm } : State) locs mc ms := by
    subst hA
    obtain ⟨e1, e2⟩ := hsame
    rw [State.setFrames_setFrames] at e1
    have h2 : (T.setVm s.vm).sameButNew ({ U with vm := s.vm } : State) [] (0 + 1) (0 + 6) := ⟨e1, e2⟩
    have h3 := X.same.trans h2
    rw [List.append_nil] at h3
    exact h3.mono hc hs
  refine ⟨U, ?_, .threw T.heap.size, hrun, hend, Or.inr ⟨T.heap.size, rfl, nsX, ce, locs, hx U hWs.alike f1 (fun q hq => f2 q hq (fun z hz => nomatch hz)), hce, hO2, hcl, hWs, hall, hf⟩⟩
  refine st1 _ ?_
  show Steps p.tables e below (T1.setTop { method := m, pc := pc + 3, locals := ls, stack := .ref T.heap.size :: rest, locked := none }) _
  jvm_step X₁.here [X₁.here.top, hexec, d3', Value.category]
  exact X₁.ldcStringW hexec (own := own) (text := text) (index := is) (a := sa) hown' hstr'.1 hstr'.2
    (g := { method := m, pc := pc + 4, locals := ls, stack := .ref T.heap.size :: .ref T.heap.size :: rest, locked := none }) rfl d4' _ hsteps
end
def nsL : List Cond := Cond.classLink RX12 340 nsX :: Cond.initialized nsX :: (nsA RX12 344).filter vx_no
theorem ns_ot : ∀ w ∈ nsL, vx_ot w = true := by decide +kernel
theorem ns_tb : ∀ w ∈ nsL, w.onTables = true := by decide +kernel
def qR (a b n w : Int32) : Array Value → State → Outcome → State → Prop := va_Qi (S := Unit) (fun r _ => restP a b n w = some r) (fun _ _ => True) (fun _ => False)
def xR (a b n w : Int32) : String → State → State → Prop := vx_X (S := Unit) (fun _ => restP a b n w = none) (fun E _ _ => E = nsX) (fun _ => False)
def kR (A : Nat → Prop) (U : State) : Prop := (∀ w ∈ nsL, va_Nw w U) ∧ (∃ sa, vk_R RX12 342 "a prize is 0 to 9" sa U) ∧ (∃ sa, vk_R RX12 351 "no such rest" sa U) ∧ vx_Zq Bundle.tN "UNASSIGNED_STACK" Bundle.steD A U U.heap ∧ vx_Zq Bundle.tN "SUPPRESSED_SENTINEL" Bundle.listD A U U.heap
theorem kR_same {A : Nat → Prop} {U U' : State} (hv : U.vm = U'.vm) (hh : U'.heap = U.heap) (h : kR A U) : kR A U' := by
  obtain ⟨h1, ⟨s1, h2⟩, ⟨s2, h3⟩, h4, h5⟩ := h
  have hal : U.vm.Alike U'.vm := by rw [hv]; exact Vm.Alike.refl _
  refine ⟨fun w hw => va_Nw.same (ns_tb w hw) hv (h1 w hw), ⟨s1, vk_R.same hv.symm h2⟩, ⟨s2, vk_R.same hv.symm h3⟩, ?_, ?_⟩
  · rw [hh]; exact vx_Zq.moved hal h4
  · rw [hh]; exact vx_Zq.moved hal h5
def rPc (A : Nat → Prop) (x : Nat) (a b n w : Int32) : Array Value → State → Prop := va_Pc [.ref x, .int a, .int b, .int n, .int w] (kR A)
theorem rPc_blind {A : Nat → Prop} {x : Nat} {a b n w : Int32} : FrameBlind (rPc A x a b n w) := fun _ U g mk h => ⟨h.1, kR_same (U := U) (U' := U.calling g mk _) rfl rfl h.2⟩
def rmR : Room := { frames := 8, cells := 1, slots := 6, locals := 1200 }
set_option maxRecDepth 100000 in
theorem c_rests (l : Launch) (hfl : l.flags = flags0) (A : Nat → Prop) (x : Nat) (a b n w : Int32) : vx_Met l yX12_rests (Cond.code yX12_rests cX12_rests 10 (some .int) :: aWS) rmR (rPc A x a b n w) (qR a b n w) (xR a b n w) 1 6 (fun _ => False) := by
  refine vx_ofW (cc := cX12_rests) (maxL := 10) (ret := some .int) (by decide +kernel) rfl ?_
  intro p e s m args below meth c s₁ B hml hno hv
  obtain ⟨rfl, hkR⟩ := hv
  obtain ⟨hw, ⟨sa1, hs1⟩, ⟨sa2, hs2⟩, hz1, hz2⟩ := hkR
  have hx := B.exec
  have hb := B.bytes
  have hr := B.returns
  have hts := atoms_spec B.pre
  have hts' : ∀ u ∈ aWS, u.before ([Value.ref x, .int a, .int b, .int n, .int w] : List Value).toArray s = true := fun u hu => hts u (List.mem_cons_of_mem _ hu)
  have hown : s.vm.findClass RX12 = some m.cls := findClass_of_methodNamed B.named
  have hlocks := B.notSynchronized
  have XF : CallFix p m c cX12_rests 10 s ([Value.ref x, .int a, .int b, .int n, .int w] : List Value).toArray aWS RX12 := ⟨hx, hb, hml, hown, hts'⟩
  have hl := lv_entry ([.ref x, .int a, .int b, .int n, .int w]) (n := 10) (Nat.le_of_ble_eq_true rfl)
  rw [lg_entry_eq]
  generalize (lg_sl ([.ref x, .int a, .int b, .int n, .int w]) ++ List.replicate (10 - (lg_sl ([.ref x, .int a, .int b, .int n, .int w])).length) Slot.unset).toArray = B0 at hl ⊢
  have hl : lv_has B0 10 [(0, .ref x), (1, .int a), (2, .int b), (3, .int n), (4, .int w)] := hl
  have hout : ∀ y ∈ c.exceptionTable.toList, ∀ k, covers y k = false := fun y hy => (hno y hy).elim
  have hwb : ∀ u ∈ nsL, u.before ([Value.ref x, .int a, .int b, .int n, .int w] : List Value).toArray s = true := fun w' hw' => va_Nw.use (ns_tb w' hw') (hw w' hw')
  have thr1 : restP a b n w = none → W p l e rmR s m _ below meth c s.heap [] 0 0 (vx_MQ below (qR a b n w) (xR a b n w) _ s 1 6 (fun _ => False)) (F0 m 21 B0 []) := fun hp =>
    ns_throw hx hb (l_notrace hfl) hown (hwb _ List.mem_cons_self) (hwb _ (List.mem_cons_of_mem _ List.mem_cons_self)) hs1 (fun w' hw' => hwb w' (List.mem_cons_of_mem _ (List.mem_cons_of_mem _ hw'))) ns_ot hz1 hz2 va_S.rf (by rw [hml]; exact hl.1) dR_21 dR_24 dR_25 dR_28 dR_31 (fun y hy => hout y hy _) (by decide) (by decide) (by decide) (by decide) hlocks (fun t _ h1 h2 => ⟨(), hp, rfl, h1, fun q hq _ => h2 q hq⟩) (fun _ h => by cases h) (by decide) (by decide)
  have pz01 : ∀ y : Int32, ¬ isPz y = 0 → isPz y = 1 := by
    intro y hy
    unfold isPz at hy ⊢
    split
    · rename_i h1; rw [if_pos h1] at hy; exact absurd rfl hy
    · rename_i h1
      rw [if_neg h1] at hy
      split
      · rename_i h2; rw [if_pos h2] at hy; exact absurd rfl hy
      · rfl
  have n01 : ¬ (0 : Int32) = 1 := by decide
  refine lv_iload_n hx hb dR_0 rfl (lv_at hl 1 rfl) ?_
  refine r_isPrize XF (Nat.le_of_ble_eq_true rfl) (Nat.le_of_ble_eq_true rfl) dR_1 hl.1 (Nat.zero_le _) ?_
  refine lv_if_eq (tgt := 21) hx hb dR_4 rfl (fun z => thr1 (by unfold restP; rw [if_neg (fun q => n01 (z.symm.trans q.1))])) (fun z1 => ?_)
  refine lv_iload_n hx hb dR_7 rfl (lv_at hl 2 rfl) ?_
  refine r_isPrize XF (Nat.le_of_ble_eq_true rfl) (Nat.le_of_ble_eq_true rfl) dR_8 hl.1 (Nat.zero_le _) ?_
  refine lv_if_eq (tgt := 21) hx hb dR_11 rfl (fun z => thr1 (by unfold restP; rw [if_neg (fun q => n01 (z.symm.trans q.2.1))])) (fun z2 => ?_)
  refine lv_iload_n hx hb dR_14 rfl (lv_at hl 3 rfl) ?_
  refine r_isPrize XF (Nat.le_of_ble_eq_true rfl) (Nat.le_of_ble_eq_true rfl) dR_15 hl.1 (Nat.zero_le _) ?_
  refine lv_if_ne (tgt := 32) hx hb dR_18 rfl (fun z3 => ?_) (fun z => thr1 (by unfold restP; rw [if_neg (fun q => n01 (z.symm.trans q.2.2))]))
  have hP : restP a b n w = rL a b n w 4 0 0 := by
    unfold restP
    rw [if_pos ⟨pz01 a z1, pz01 b z2, pz01 n z3⟩]
  refine lv_iconst (v := 0) hx hb dR_32 rfl ?_
  refine lv_istore (lv' := [(5, .int 0), (0, .ref x), (1, .int a), (2, .int b), (3, .int n), (4, .int w)]) hx hb dR_33 hl (by decide) rfl (fun B1 hl1 => ?_)
  refine lv_iconst (v := 0) hx hb dR_35 rfl ?_
  refine lv_istore (lv' := [(6, .int 0), (5, .int 0), (0, .ref x), (1, .int a), (2, .int b), (3, .int n), (4, .int w)]) hx hb dR_36 hl1 (by decide) rfl (fun B2 hl2 => ?_)
  have loop : ∀ (mm k : Nat) (f : Int32) (B3 : Array Slot), k + mm = 4 → restP a b n w = rL a b n w mm k f → lv_has B3 10 [(6, .int (nI k)), (5, .int f), (0, .ref x), (1, .int a), (2, .int b), (3, .int n), (4, .int w)] → W p l e rmR s m ([Value.ref x, .int a, .int b, .int n, .int w] : List Value).toArray below meth c s.heap [] 0 0 (vx_MQ below (qR a b n w) (xR a b n w) ([Value.ref x, .int a, .int b, .int n, .int w] : List Value).toArray s 1 6 (fun _ => False)) (F0 m 38 B3 []) := by
    intro mm
    induction mm with
    | zero =>
      intro k f B3 hk hR hl3
      obtain rfl : k = 4 := by omega
      refine lv_iload hx hb dR_38 (lv_at hl3 0 rfl) ?_
      refine lv_iconst (v := 4) hx hb dR_40 rfl ?_
      refine lv_icmp_ge (tgt := 142) hx hb dR_41 rfl (fun _ => ?_) (fun z => absurd (show (4 : Int32) ≤ nI 4 by decide) z)
      refine lv_iload hx hb dR_142 (lv_at hl3 6 rfl) ?_
      refine lv_iconst (v := -1) hx hb dR_144 rfl ?_
      refine lv_icmp_eq (tgt := 159) hx hb dR_145 rfl (fun z => ?_) (fun z => ?_)
      · refine lv_iload hx hb dR_159 (lv_at hl3 1 rfl) ?_
        refine vx_ret (W.widen (k := 1) (n := 6) (by decide) (by decide) ?_)
        refine W.iret hx hb hr (fun t ht hW => ⟨⟨f, (), rfl, ?_, trivial⟩, (va_S.rf (A := fun _ => False) (H0 := s.heap)).F ht⟩) (fun _ h => by cases h) dR_161 hlocks
        rw [hR]
        show (if w = -1 then some f else none) = some f
        rw [if_pos z]
      · refine ns_throw hx hb (l_notrace hfl) hown (hwb _ List.mem_cons_self) (hwb _ (List.mem_cons_of_mem _ List.mem_cons_self)) hs2 (fun w' hw' => hwb w' (List.mem_cons_of_mem _ (List.mem_cons_of_mem _ hw'))) ns_ot hz1 hz2 va_S.rf (by rw [hml]; exact hl3.1) dR_148 dR_151 dR_152 dR_155 dR_158 (fun y hy => hout y hy _) (by decide) (by decide) (by decide) (by decide) hlocks (fun t _ h1 h2 => ⟨(), ?_, rfl, h1, fun q hq _ => h2 q hq⟩) (fun _ h => by cases h) (by decide) (by decide)
        rw [hR]
        show (if w = -1 then some f else none) = none
        rw [if_neg z]
    | succ mm ih =>
      intro k f B3 hk hR hl3
      refine lv_iload hx hb dR_38 (lv_at hl3 0 rfl) ?_
      refine lv_iconst (v := 4) hx hb dR_40 rfl ?_
      refine lv_icmp_ge (tgt := 142) hx hb dR_41 rfl (fun z => absurd z (nI_ge (a := k) (b := 4) (by omega) (by decide))) (fun _ => ?_)
      refine lv_iload hx hb dR_44 (lv_at hl3 0 rfl) ?_
      refine lv_iconst (v := 1) hx hb dR_46 rfl ?_
      refine lv_ishr hx hb dR_47 ?_
      refine lv_istore (lv' := [(7, .int (oneP (nI k))), (6, .int (nI k)), (5, .int f), (0, .ref x), (1, .int a), (2, .int b), (3, .int n), (4, .int w)]) hx hb dR_48 hl3 (by decide) rfl (fun B4 hl4 => ?_)
      refine lv_iload hx hb dR_50 (lv_at hl4 1 rfl) ?_
      refine lv_iconst (v := 1) hx hb dR_52 rfl ?_
      refine lv_iand hx hb dR_53 ?_
      refine lv_istore (lv' := [(8, .int (othP (nI k))), (7, .int (oneP (nI k))), (6, .int (nI k)), (5, .int f), (0, .ref x), (1, .int a), (2, .int b), (3, .int n), (4, .int w)]) hx hb dR_54 hl4 (by decide) rfl (fun B5 hl5 => ?_)
      have back : ∀ (f1 : Int32) (B6 : Array Slot), lv_has B6 10 [(6, .int (nI k)), (5, .int f1), (0, .ref x), (1, .int a), (2, .int b), (3, .int n), (4, .int w)] → restP a b n w = rL a b n w mm (k + 1) f1 → W p l e rmR s m ([Value.ref x, .int a, .int b, .int n, .int w] : List Value).toArray below meth c s.heap [] 0 0 (vx_MQ below (qR a b n w) (xR a b n w) ([Value.ref x, .int a, .int b, .int n, .int w] : List Value).toArray s 1 6 (fun _ => False)) (F0 m 136 B6 []) := by
        intro f1 B6 hl6 hR6
        refine lv_iinc hx hb dR_136 hl6 (show ([(6, Value.int (nI k)), (5, .int f1), (0, .ref x), (1, .int a), (2, .int b), (3, .int n), (4, .int w)] : List (Nat × Value))[0]? = some (6, .int (nI k)) from rfl) (v := nI (k + 1)) (nI_1 k) (by decide) rfl (fun B7 hl7 => ?_)
        refine lv_goto (tgt := 38) hx hb dR_139 rfl ?_
        exact ih (k + 1) f1 B7 (by omega) hR6 hl7
      have no : ∀ B6 : Array Slot, lv_has B6 10 [(8, .int (othP (nI k))), (7, .int (oneP (nI k))), (6, .int (nI k)), (5, .int f), (0, .ref x), (1, .int a), (2, .int b), (3, .int n), (4, .int w)] → isR a b n (nI k) = false → W p l e rmR s m ([Value.ref x, .int a, .int b, .int n, .int w] : List Value).toArray below meth c s.heap [] 0 0 (vx_MQ below (qR a b n w) (xR a b n w) ([Value.ref x, .int a, .int b, .int n, .int w] : List Value).toArray s 1 6 (fun _ => False)) (F0 m 110 B6 []) := by
        intro B6 hl6 hno
        refine lv_iconst (v := 0) hx hb dR_110 rfl ?_
        refine lv_istore (lv' := [(9, .int 0), (8, .int (othP (nI k))), (7, .int (oneP (nI k))), (6, .int (nI k)), (5, .int f), (0, .ref x), (1, .int a), (2, .int b), (3, .int n), (4, .int w)]) hx hb dR_111 hl6 (by decide) rfl (fun B7 hl7 => ?_)
        refine lv_iload hx hb dR_113 (lv_at hl7 0 rfl) ?_
        refine lv_if_eq (tgt := 128) hx hb dR_115 rfl (fun _ => ?_) (fun z => absurd rfl z)
        refine lv_iload hx hb dR_128 (lv_at hl7 0 rfl) ?_
        refine lv_if_eq (tgt := 136) hx hb dR_130 rfl (fun _ => ?_) (fun z => absurd rfl z)
        refine back f B7 (lv_sub hl7 [3, 4, 5, 6, 7, 8, 9] rfl) ?_
        rw [hR]
        show (if isR a b n (nI k) = true then _ else rL a b n w mm (k + 1) f) = _
        rw [if_neg (by rw [hno]; decide)]
      refine lv_iconst (v := 1) hx hb dR_56 rfl ?_
      refine lv_iload hx hb dR_57 (lv_at hl5 1 rfl) ?_
      refine lv_isub hx hb dR_59 ?_
      refine lv_iload hx hb dR_60 (lv_at hl5 0 rfl) ?_
      refine lv_iload_n hx hb dR_62 rfl (lv_at hl5 5 rfl) ?_
      refine lv_iload_n hx hb dR_63 rfl (lv_at hl5 6 rfl) ?_
      refine lv_iload_n hx hb dR_64 rfl (lv_at hl5 7 rfl) ?_
      refine r_prize XF (Nat.le_of_ble_eq_true rfl) (Nat.le_of_ble_eq_true rfl) dR_65 hl5.1 (Nat.zero_le _) ?_
      refine lv_iload hx hb dR_68 (lv_at hl5 1 rfl) ?_
      refine lv_iload hx hb dR_70 (lv_at hl5 0 rfl) ?_
      refine lv_iload_n hx hb dR_72 rfl (lv_at hl5 5 rfl) ?_
      refine lv_iload_n hx hb dR_73 rfl (lv_at hl5 6 rfl) ?_
      refine lv_iload_n hx hb dR_74 rfl (lv_at hl5 7 rfl) ?_
      refine r_prize XF (Nat.le_of_ble_eq_true rfl) (Nat.le_of_ble_eq_true rfl) dR_75 hl5.1 (show (1 : Nat) ≤ 8 by decide) ?_
      refine lv_icmp_gt (tgt := 110) hx hb dR_78 rfl (fun z => no B5 hl5 ?_) (fun z => ?_)
      · unfold isR
        rw [decide_eq_true z]
        rfl
      refine lv_iconst (v := 1) hx hb dR_81 rfl ?_
      refine lv_iload hx hb dR_82 (lv_at hl5 0 rfl) ?_
      refine lv_isub hx hb dR_84 ?_
      refine lv_iload hx hb dR_85 (lv_at hl5 1 rfl) ?_
      refine lv_iload_n hx hb dR_87 rfl (lv_at hl5 5 rfl) ?_
      refine lv_iload_n hx hb dR_88 rfl (lv_at hl5 6 rfl) ?_
      refine lv_iload_n hx hb dR_89 rfl (lv_at hl5 7 rfl) ?_
      refine r_prize XF (Nat.le_of_ble_eq_true rfl) (Nat.le_of_ble_eq_true rfl) dR_90 hl5.1 (Nat.zero_le _) ?_
      refine lv_iload hx hb dR_93 (lv_at hl5 0 rfl) ?_
      refine lv_iload hx hb dR_95 (lv_at hl5 1 rfl) ?_
      refine lv_iload_n hx hb dR_97 rfl (lv_at hl5 5 rfl) ?_
      refine lv_iload_n hx hb dR_98 rfl (lv_at hl5 6 rfl) ?_
      refine lv_iload_n hx hb dR_99 rfl (lv_at hl5 7 rfl) ?_
      refine r_prize XF (Nat.le_of_ble_eq_true rfl) (Nat.le_of_ble_eq_true rfl) dR_100 hl5.1 (show (1 : Nat) ≤ 8 by decide) ?_
      refine lv_icmp_gt (tgt := 110) hx hb dR_103 rfl (fun z2 => no B5 hl5 ?_) (fun z2 => ?_)
      · unfold isR
        rw [decide_eq_true z2]
        simp
      have hyes : isR a b n (nI k) = true := by
        unfold isR
        rw [decide_eq_false z, decide_eq_false z2]
        rfl
      refine lv_iconst (v := 1) hx hb dR_106 rfl ?_
      refine lv_goto (tgt := 111) hx hb dR_107 rfl ?_
      refine lv_istore (lv' := [(9, .int 1), (8, .int (othP (nI k))), (7, .int (oneP (nI k))), (6, .int (nI k)), (5, .int f), (0, .ref x), (1, .int a), (2, .int b), (3, .int n), (4, .int w)]) hx hb dR_111 hl5 (by decide) rfl (fun B7 hl7 => ?_)
      refine lv_iload hx hb dR_113 (lv_at hl7 0 rfl) ?_
      refine lv_if_eq (tgt := 128) hx hb dR_115 rfl (fun z => absurd z (by decide)) (fun _ => ?_)
      refine lv_iload hx hb dR_118 (lv_at hl7 4 rfl) ?_
      refine lv_iload hx hb dR_120 (lv_at hl7 9 rfl) ?_
      have hR2 : restP a b n w = if f = w then some (nI k) else rL a b n w mm (k + 1) (f + 1) := by
        rw [hR]
        show (if isR a b n (nI k) = true then _ else _) = _
        rw [if_pos hyes]
      refine lv_icmp_ne (tgt := 128) hx hb dR_122 rfl (fun y => ?_) (fun y => ?_)
      · refine lv_iload hx hb dR_128 (lv_at hl7 0 rfl) ?_
        refine lv_if_eq (tgt := 136) hx hb dR_130 rfl (fun z => absurd z (by decide)) (fun _ => ?_)
        refine lv_iinc hx hb dR_133 hl7 (show ([(9, Value.int 1), (8, .int (othP (nI k))), (7, .int (oneP (nI k))), (6, .int (nI k)), (5, .int f), (0, .ref x), (1, .int a), (2, .int b), (3, .int n), (4, .int w)] : List (Nat × Value))[4]? = some (5, .int f) from rfl) (v := f + 1) rfl (by decide) rfl (fun B8 hl8 => ?_)
        refine back (f + 1) B8 (lv_sub hl8 [4, 0, 5, 6, 7, 8, 9] rfl) ?_
        rw [hR2, if_neg y]
      · refine lv_iload hx hb dR_125 (lv_at hl7 3 rfl) ?_
        refine vx_ret (W.widen (k := 1) (n := 6) (by decide) (by decide) ?_)
        refine W.iret hx hb hr (fun t ht hW => ⟨⟨nI k, (), rfl, ?_, trivial⟩, (va_S.rf (A := fun _ => False) (H0 := s.heap)).F ht⟩) (fun _ h => by cases h) dR_127 hlocks
        rw [hR2, if_pos y]
  exact loop 4 0 0 B2 rfl hP hl2
