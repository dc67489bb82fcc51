/-! rests of the law: the class's rests tried, its throw caught -/
def nsG (w : Cond) : Bool := (w.onTables && w.keeps) || (match w with
  | .declares _ => true
  | .castable _ _ => true
  | _ => false)
theorem ns_g : ∀ w ∈ nsL, nsG w = true := by decide +kernel
theorem ns_cast {x y : String} {s U : State} (hal : s.vm.Alike U.vm) (h : va_Nw (.castable x y) s) : va_Nw (.castable x y) U := by
  unfold va_Nw at h ⊢
  simp only [Cond.before, Cond.holds, Cond.value] at h ⊢
  rw [hal.findClass, hal.findClass]
  simp only [hal.assignable]
  exact h
theorem kR_warm {A : Nat → Prop} {s U : State} {H : Heap} {locs : List Loc} (hW : s.WarmedH U.vm) (hS : va_S A s.heap H locs) (hU : U.heap = H) (h : kR A s) : kR A U := by
  obtain ⟨h1, ⟨s1, h2⟩, ⟨s2, h3⟩, h4, h5⟩ := h
  refine ⟨fun w hw => ?_, ⟨s1, vk_R.warm hW h2⟩, ⟨s2, vk_R.warm hW h3⟩, ?_, ?_⟩
  · have hg := ns_g w hw
    have hw1 := h1 w hw
    rcases (Bool.or_eq_true _ _).mp hg with z | z
    · exact word_at hW (Or.inl z) hw1
    · cases w <;> first | exact va_Nw.warmD hW hw1 | exact ns_cast hW.alike hw1 | cases z
  · rw [hU]; exact (vx_Zq.moved hW.alike h4).kept hS.2.1
  · rw [hU]; exact (vx_Zq.moved hW.alike h5).kept hS.2.1
theorem aR_c : Cond.code yX12_rests cX12_rests 10 (some .int) ∈ aWS := aW_t 1173 (by decide +kernel) (by decide +kernel)
theorem aR_l : Cond.methodLink RL 7 yX12_rests ∈ aWS := aW_t 1170 (by decide +kernel) (by decide +kernel)
theorem aR_i : Cond.instanceMethod yX12_rests ∈ aWS := aW_t 1171 (by decide +kernel) (by decide +kernel)
theorem aR_s : Cond.selects yX12_rests.cls yX12_rests yX12_rests ∈ aWS := aW_t 1172 (by decide +kernel) (by decide +kernel)
theorem aR_j : Cond.initialized yX12_rests.cls ∈ aWS := aW_t 1 (by decide +kernel) (by decide +kernel)
theorem aR_k : Cond.classLink RL 13 nsX ∈ aWS := aW_t 1169 (by decide +kernel) (by decide +kernel)
theorem aR_y : Cond.castable nsX nsX ∈ nsL := by decide +kernel
theorem aR_w : Cond.codeWith yL_rests cL_rests 7 (some .int) [(0, 14, 17, 13)] ∈ aWS := aW_t 1168 (by decide +kernel) (by decide +kernel)
theorem aR_t : Cond.static yL_rests ∈ aWS := aW_t 1167 (by decide +kernel) (by decide +kernel)
theorem aR_h : Cond.methodLink RL 128 yL_rests ∈ aWS := aW_t 1166 (by decide +kernel) (by decide +kernel)
/-- how the law's rests ends -/
def rEnd (a b n w k : Int32) (o o1 : Int64) : Prop := (restP a b n w = none ∧ k = 1 ∧ o1 = o) ∨ ∃ r, restP a b n w = some r ∧ k = 0 ∧ o1 = r.toInt64
def lrP (cy : Nat → ClassId) (D : va_G) (x q : Nat) (a b n w : Int32) (o : Int64) : Array Value → State → Prop := va_Pc [.ref x, .int a, .int b, .int n, .int w, .ref q] fun U =>
  kR (fun z => z = q) U ∧ (∃ cell : Cell, U.heap[x]? = some cell ∧ cell.vm.isStatics = false ∧ U.vm.findClass RX12 = some cell.cls) ∧ va_P D vwCl [(q, .inl (cy 1, 1, .inr (.inl fun _ => o)))] U.heap ∧ va_K D vwCl (atys cy) U ∧ x ≠ q
def lrQ (cy : Nat → ClassId) (D : va_G) (q : Nat) (a b n w : Int32) (o : Int64) : Array Value → State → Outcome → State → Prop := va_Qi (S := Int64) (fun k o1 => rEnd a b n w k o o1) (fun o1 t => va_P D vwCl [(q, .inl (cy 1, 1, .inr (.inl fun _ => o1)))] t.heap) (fun z => z = q)
theorem lrP_blind {cy : Nat → ClassId} {D : va_G} {x q : Nat} {a b n w : Int32} {o : Int64} : FrameBlind (lrP cy D x q a b n w o) := fun v U g mk h => ⟨h.1, kR_same (U := U) (U' := U.calling g mk v) rfl rfl h.2.1, h.2.2.1, h.2.2.2.1, va_K.moved (u := U) (U := U.calling g mk v) (Vm.Alike.refl U.vm) h.2.2.2.2.1, h.2.2.2.2.2⟩
def nX : String → State → State → Prop := vx_X (S := Unit) (fun _ => False) (fun _ _ _ => True) (fun _ => False)
def rmL : Room := { frames := 12, cells := 1, slots := 6, locals := 1400 }
theorem vp_cell_longs {cA : ClassId} {n : Nat} {f g : Nat → Int64} (h : ∀ j, j < n → f j = g j) : vp_cell cA (n, .inr (.inl f)) = vp_cell cA (n, .inr (.inl g)) := by
  show arrV cA n (fun j => .long (f j)) = arrV cA n (fun j => .long (g j))
  unfold arrV
  congr 2
  funext j
  show Value.long (f j.val) = Value.long (g j.val)
  rw [h j.val j.isLt]
set_option maxRecDepth 100000 in
theorem c_lrests (l : Launch) (hfl : l.flags = flags0) {cy : Nat → ClassId} {D : va_G} {x q : Nat} {a b n w : Int32} {o : Int64} : vx_Met l yL_rests (Cond.codeWith yL_rests cL_rests 7 (some .int) [(0, 14, 17, 13)] :: aWS) rmL (lrP cy D x q a b n w o) (lrQ cy D q a b n w o) nX 1 6 (fun z => z = q) := by
  refine vx_ofWH (cc := cL_rests) (maxL := 7) (ret := some .int) (hh := [(0, 14, 17, 13)]) (by decide +kernel) rfl ?_
  intro p e s m args below meth c s₁ B hml hv
  obtain ⟨rfl, hkR, ⟨cellX, x1, x2, x3⟩, hPq, hK, hxq⟩ := hv
  have hx := B.exec
  have hb := B.bytes
  have hr := B.returns
  have hts := atoms_spec B.pre
  have hts' : ∀ w' ∈ aWS, w'.before ([Value.ref x, .int a, .int b, .int n, .int w, .ref q] : List Value).toArray s = true := fun w' hw => hts w' (List.mem_cons_of_mem _ hw)
  have hown : s.vm.findClass RL = some m.cls := findClass_of_methodNamed B.named
  have hlocks := B.notSynchronized
  have htab : c.exceptionTable.toList = [⟨0, 14, 17, 13⟩] := vx_table (x := yL_rests) B (hts _ List.mem_cons_self)
  have XF : CallFix p m c cL_rests 7 s ([Value.ref x, .int a, .int b, .int n, .int w, .ref q] : List Value).toArray aWS RL := ⟨hx, hb, hml, hown, hts'⟩
  have hl := lv_entry ([.ref x, .int a, .int b, .int n, .int w, .ref q]) (n := 7) (Nat.le_of_ble_eq_true rfl)
  rw [lg_entry_eq]
  generalize (lg_sl ([.ref x, .int a, .int b, .int n, .int w, .ref q]) ++ List.replicate (7 - (lg_sl ([.ref x, .int a, .int b, .int n, .int w, .ref q])).length) Slot.unset).toArray = B0 at hl ⊢
  have hl : lv_has B0 7 [(0, .ref x), (1, .int a), (2, .int b), (3, .int n), (4, .int w), (5, .ref q)] := hl
  have hqlt : q < s.heap.size := (hPq 0 _ rfl).lt
  have hD : va_D (fun z => z = q) ([(q, .inl (cy 1, 1, .inr (.inl fun _ => o)))] : va_W) := by
    constructor
    · intro i j p1 q1 h1 h2 _
      have := (List.getElem?_eq_some_iff.mp h1).1
      have := (List.getElem?_eq_some_iff.mp h2).1
      simp only [List.length_cons, List.length_nil] at *
      omega
    · intro k q1 h1
      have hk : k < 1 := (List.getElem?_eq_some_iff.mp h1).1
      obtain rfl : k = 0 := by omega
      cases h1
      rfl
  refine lv_aload hx hb dLR_0 (lv_at hl 5 rfl) ?_
  refine lv_iconst (v := 0) hx hb dLR_2 rfl ?_
  refine lv_aload_n hx hb dLR_3 rfl (lv_at hl 0 rfl) ?_
  refine lv_iload_n hx hb dLR_4 rfl (lv_at hl 1 rfl) ?_
  refine lv_iload_n hx hb dLR_5 rfl (lv_at hl 2 rfl) ?_
  refine lv_iload_n hx hb dLR_6 rfl (lv_at hl 3 rfl) ?_
  refine lv_iload hx hb dLR_7 (lv_at hl 4 rfl) ?_
  refine vx_calli (post := fun r (_ : Unit) => restP a b n w = some r) (B := fun _ _ => True) (px := fun (_ : Unit) => restP a b n w = none) (BX := fun E _ _ => E = nsX) (A0 := fun z => z = q) (H0 := s.heap) (A1 := fun _ => False) (AX := fun _ => False) (free := fun _ => False) (vx_runV (As := [.int a, .int b, .int n, .int w]) (rest := [.int 0, .ref q]) (Ts := aWS) XF (c_rests l hfl (fun z => z = q) x a b n w) (cwV 4 hts' (aGoodN aR_c aR_l aR_i aR_s aR_j) rfl rfl rfl ⟨rfl, by decide, by decide, by decide +kernel⟩ ⟨Nat.le_of_ble_eq_true rfl, Nat.le_of_ble_eq_true rfl⟩) ⟨rPc_blind, ⟨cellX, x1, x2, x3⟩, fun U hU hW => ⟨rfl, kR_warm hW va_S.rf hU hkR⟩⟩ rfl rfl hl.1 rfl (show (2 : Nat) ≤ 8 by decide) dLR_9 ⟨Nat.le_of_ble_eq_true rfl, Nat.le_of_ble_eq_true rfl⟩) va_S.rf (fun _ _ h => h.elim) (fun _ h => h.elim) (fun _ _ h => h.elim) (fun E ce q9 u t H1 locs1 e1 e2 hpx hBX e3 e4 hS1 hce hcv hcl => ?_) (fun r u t H1 locs1 e1 e2 hpost hB1 e3 e4 hS1 => ?_)
  · subst hBX
    have hPq1 : va_P D vwCl [(q, .inl (cy 1, 1, .inr (.inl fun _ => o)))] H1 := va_P_kept hPq (fun k y hy => e4 y.1 (hPq k y hy).lt (fun h => h))
    refine xc_catch hown ⟨0, 14, 17, 13⟩ htab (by decide) (by decide) (hts' _ aR_k) (va_Nw.use rfl (hkR.1 _ aR_y)) hce hcv hcl ?_
    refine lv_astore (lv' := [(6, .ref q9), (0, .ref x), (1, .int a), (2, .int b), (3, .int n), (4, .int w), (5, .ref q)]) hx hb dLR_17 hl (by decide) rfl (fun B1 hl1 => ?_)
    refine lv_iconst (v := 1) hx hb dLR_19 rfl ?_
    refine vx_ret ?_
    exact W.iret hx hb hr (fun t2 ht2 hW2 => ⟨⟨1, o, rfl, Or.inl ⟨hpx, rfl, rfl⟩, (show va_P D vwCl [(q, .inl (cy 1, 1, .inr (.inl fun _ => o)))] t2.heap by rw [ht2]; exact hPq1)⟩, hS1.F ht2⟩) hS1.2.2 dLR_20 hlocks
  · have hPq1 : va_P D vwCl [(q, .inl (cy 1, 1, .inr (.inl fun _ => o)))] H1 := va_P_kept hPq (fun k y hy => e4 y.1 (hPq k y hy).lt (fun h => h))
    refine lv_i2l hx hb dLR_12 rfl ?_
    refine va_last (D := D) (A := fun z => z = q) (H0 := s.heap) hx hb hK hPq1 hD hS1 0 1 rfl rfl (by show ¬ ((0 : Int32) < 0 ∨ 1 ≤ (0 : Int32).toNatClampNeg); decide) dLR_13 (fun H2 locs2 z1 z2 z3 => ?_)
    have hPq2 : va_P D vwCl [(q, .inl (cy 1, 1, .inr (.inl fun _ => r.toInt64)))] H2 := by
      intro k y hy
      have hk : k < 1 := (List.getElem?_eq_some_iff.mp hy).1
      obtain rfl : k = 0 := by omega
      cases hy
      have := z1 0 _ rfl
      show H2[q]? = some (vp_cell (cy 1) (1, .inr (.inl fun _ => r.toInt64)))
      rw [← vp_cell_longs (f := vp_updL (fun _ => o) (0 : Int32).toNatClampNeg r.toInt64) (fun j hj => by have h0 : j = 0 := Nat.lt_one_iff.mp hj; subst h0; rfl)]
      exact this
    refine lv_goto (tgt := 21) hx hb dLR_14 rfl ?_
    refine lv_iconst (v := 0) hx hb dLR_21 rfl ?_
    refine vx_ret ?_
    exact W.iret hx hb hr (fun t2 ht2 hW2 => ⟨⟨0, r.toInt64, rfl, Or.inr ⟨r, hpost, rfl, rfl⟩, (show va_P D vwCl [(q, .inl (cy 1, 1, .inr (.inl fun _ => r.toInt64)))] t2.heap by rw [ht2]; exact hPq2)⟩, z3.F ht2⟩) z3.2.2 dLR_22 hlocks
