/-! rests of the class: what it answers, when it throws -/
def pzX (mine his alone both none : Int32) : Int32 := if mine = 1 then (if his = 1 then both else alone) else (if his = 1 then 0 else none)
def isPz (x : Int32) : Int32 := if x < 0 then 0 else if 9 < x then 0 else 1
def oneP (p : Int32) : Int32 := p >>> ((1 : Int32) &&& 31)
def othP (p : Int32) : Int32 := p &&& 1
def isR (a b n p : Int32) : Bool := !decide (pzX (oneP p) (othP p) a b n < pzX (1 - oneP p) (othP p) a b n) && !decide (pzX (othP p) (oneP p) a b n < pzX (1 - othP p) (oneP p) a b n)
def rL (a b n w : Int32) : Nat → Nat → Int32 → Option Int32
  | 0, _, f => if w = -1 then some f else none
  | m + 1, k, f => if isR a b n (nI k) = true then (if f = w then some (nI k) else rL a b n w m (k + 1) (f + 1)) else rL a b n w m (k + 1) f
def restP (a b n w : Int32) : Option Int32 := if isPz a = 1 ∧ isPz b = 1 ∧ isPz n = 1 then rL a b n w 4 0 0 else none
theorem aI_c : Cond.code yX12_isPrize cX12_isPrize 1 (some .boolean) ∈ aWS := aW_t 1176 (by decide +kernel) (by decide +kernel)
theorem aI_l : Cond.methodLink RX12 337 yX12_isPrize ∈ aWS := aW_t 1174 (by decide +kernel) (by decide +kernel)
theorem aI_s : Cond.static yX12_isPrize ∈ aWS := aW_t 1175 (by decide +kernel) (by decide +kernel)
theorem aP_c : Cond.code yX12_prize cX12_prize 5 (some .int) ∈ aWS := aW_t 1244 (by decide +kernel) (by decide +kernel)
theorem aP_l : Cond.methodLink RX12 347 yX12_prize ∈ aWS := aW_t 1242 (by decide +kernel) (by decide +kernel)
theorem aP_s : Cond.static yX12_prize ∈ aWS := aW_t 1243 (by decide +kernel) (by decide +kernel)
theorem aX_j : Cond.initialized RX12 ∈ aWS := aW_t 1 (by decide +kernel) (by decide +kernel)
def aPt (av : List Value) : Array Value → State → Prop := va_Pc av fun _ => True
theorem aPt_blind {av : List Value} : FrameBlind (aPt av) := fun _ _ _ _ h => ⟨h.1, trivial⟩
set_option maxRecDepth 100000 in
theorem c_isPrize (l : Launch) (x : Int32) : Met l yX12_isPrize (Cond.code yX12_isPrize cX12_isPrize 1 (some .boolean) :: aWS) (aRn 0) (aPt [.int x]) (aQn (isPz x)) 0 0 (fun _ => False) := by
  refine metF (cc := cX12_isPrize) (maxL := 1) (ret := some .boolean) (by decide +kernel) rfl ?_
  intro p e s m args below meth c s₁ B hml hv
  obtain ⟨rfl, -⟩ := hv
  have hx := B.exec
  have hb := B.bytes
  have hr := B.returns
  have hlocks := B.notSynchronized
  have hl := lv_entry ([.int x]) (n := 1) (Nat.le_of_ble_eq_true rfl)
  rw [lg_entry_eq]
  generalize (lg_sl ([.int x]) ++ List.replicate (1 - (lg_sl ([.int x])).length) Slot.unset).toArray = ls at hl ⊢
  have hl : lv_has ls 1 [(0, .int x)] := hl
  refine lv_iload_n hx hb dI_0 rfl (lv_at hl 0 rfl) ?_
  refine lv_if_lt (tgt := 14) hx hb dI_1 rfl (fun z => ?_) (fun z => ?_)
  · refine lv_iconst (v := 0) hx hb dI_14 rfl ?_
    exact W.zret (ty := .boolean) hx hb hr rfl (fun t ht hW => ⟨by unfold isPz; rw [if_pos z], ht⟩) (fun _ h => by cases h) dI_15 hlocks
  · refine lv_iload_n hx hb dI_4 rfl (lv_at hl 0 rfl) ?_
    refine lv_bipush (v := 9) hx hb dI_5 rfl ?_
    refine lv_icmp_gt (tgt := 14) hx hb dI_7 rfl (fun y => ?_) (fun y => ?_)
    · refine lv_iconst (v := 0) hx hb dI_14 rfl ?_
      exact W.zret (ty := .boolean) hx hb hr rfl (fun t ht hW => ⟨by unfold isPz; rw [if_neg z, if_pos y], ht⟩) (fun _ h => by cases h) dI_15 hlocks
    · refine lv_iconst (v := 1) hx hb dI_10 rfl ?_
      refine lv_goto (tgt := 15) hx hb dI_11 rfl ?_
      exact W.zret (ty := .boolean) hx hb hr rfl (fun t ht hW => ⟨by unfold isPz; rw [if_neg z, if_neg y], ht⟩) (fun _ h => by cases h) dI_15 hlocks
set_option maxRecDepth 100000 in
theorem c_prize (l : Launch) (i h a b n : Int32) : Met l yX12_prize (Cond.code yX12_prize cX12_prize 5 (some .int) :: aWS) (aRn 0) (aPt [.int i, .int h, .int a, .int b, .int n]) (aQn (pzX i h a b n)) 0 0 (fun _ => False) := by
  refine metF (cc := cX12_prize) (maxL := 5) (ret := some .int) (by decide +kernel) rfl ?_
  intro p e s m args below meth c s₁ B hml hv
  obtain ⟨rfl, -⟩ := hv
  have hx := B.exec
  have hb := B.bytes
  have hr := B.returns
  have hlocks := B.notSynchronized
  have hl := lv_entry ([.int i, .int h, .int a, .int b, .int n]) (n := 5) (Nat.le_of_ble_eq_true rfl)
  rw [lg_entry_eq]
  generalize (lg_sl ([.int i, .int h, .int a, .int b, .int n]) ++ List.replicate (5 - (lg_sl ([.int i, .int h, .int a, .int b, .int n])).length) Slot.unset).toArray = ls at hl ⊢
  have hl : lv_has ls 5 [(0, .int i), (1, .int h), (2, .int a), (3, .int b), (4, .int n)] := hl
  refine lv_iload_n hx hb dZ_0 rfl (lv_at hl 0 rfl) ?_
  refine lv_iconst (v := 1) hx hb dZ_1 rfl ?_
  refine lv_icmp_ne (tgt := 16) hx hb dZ_2 rfl (fun z => ?_) (fun z => ?_)
  · refine lv_iload_n hx hb dZ_16 rfl (lv_at hl 1 rfl) ?_
    refine lv_iconst (v := 1) hx hb dZ_17 rfl ?_
    refine lv_icmp_ne (tgt := 25) hx hb dZ_18 rfl (fun y => ?_) (fun y => ?_)
    · refine lv_iload hx hb dZ_25 (lv_at hl 4 rfl) ?_
      exact W.iret hx hb hr (fun t ht hW => ⟨by unfold pzX; rw [if_neg z, if_neg y], ht⟩) (fun _ h => by cases h) dZ_27 hlocks
    · refine lv_iconst (v := 0) hx hb dZ_21 rfl ?_
      refine lv_goto (tgt := 27) hx hb dZ_22 rfl ?_
      exact W.iret hx hb hr (fun t ht hW => ⟨by unfold pzX; rw [if_neg z, if_pos y], ht⟩) (fun _ h => by cases h) dZ_27 hlocks
  · refine lv_iload_n hx hb dZ_5 rfl (lv_at hl 1 rfl) ?_
    refine lv_iconst (v := 1) hx hb dZ_6 rfl ?_
    refine lv_icmp_ne (tgt := 14) hx hb dZ_7 rfl (fun y => ?_) (fun y => ?_)
    · refine lv_iload_n hx hb dZ_14 rfl (lv_at hl 2 rfl) ?_
      exact W.iret hx hb hr (fun t ht hW => ⟨by unfold pzX; rw [if_pos z, if_neg y], ht⟩) (fun _ h => by cases h) dZ_15 hlocks
    · refine lv_iload_n hx hb dZ_10 rfl (lv_at hl 3 rfl) ?_
      refine lv_goto (tgt := 15) hx hb dZ_11 rfl ?_
      exact W.iret hx hb hr (fun t ht hW => ⟨by unfold pzX; rw [if_pos z, if_pos y], ht⟩) (fun _ h => by cases h) dZ_15 hlocks
section
variable {p : Program} {l : Launch} {e : Env} {R : Room} {s : State} {m : MethodId} {args : Array Value} {below : List Frame} {meth : Method} {c : Code} {cc : ByteArray} {nL : Nat} {Qs : State → Prop} {pc : Nat} {B : Array Slot} {H : Heap} {locs : List Loc} {rest : List Value}
theorem r_isPrize (X : CallFix p m c cc nL s args aWS RX12) (hfr : 1 ≤ R.frames) (hlo : 120 ≤ R.locals) {x : Int32} (hd : decode cc pc = .ok (.invokestatic 337, 3)) (hsz : B.size = nL) (hcs : (rest.map fun v => v.category).sum ≤ 8)
    (kk : W p l e R s m args below meth c H locs 0 0 Qs (F0 m (pc + 3) B (.int (isPz x) :: rest))) : W p l e R s m args below meth c H locs 0 0 Qs (F0 m pc B (.int x :: rest)) :=
  r_runN (va_runS (As := [.int x]) (rest := rest) (Ts := aWS) X (c_isPrize l x) ⟨callB_of 1 X.2.2.2.2 (aGood (ws := []) aI_c (fun _ h => by cases h)) rfl rfl rfl (X.2.2.2.2 _ aX_j) (X.2.2.2.2 _ aI_l) ⟨by decide, by decide, by decide +kernel⟩ ⟨hfr, by show 8 + (1 + 11) + 120 * 0 ≤ R.locals; omega⟩, X.2.2.2.2 _ aI_s⟩ ⟨aPt_blind, fun U hU hW => ⟨rfl, trivial⟩⟩ rfl rfl hsz rfl (lv_room hcs) hd ⟨Nat.zero_le _, Nat.zero_le _⟩) kk
theorem r_prize (X : CallFix p m c cc nL s args aWS RX12) (hfr : 1 ≤ R.frames) (hlo : 120 ≤ R.locals) {i h a b n : Int32} (hd : decode cc pc = .ok (.invokestatic 347, 3)) (hsz : B.size = nL) (hcs : (rest.map fun v => v.category).sum ≤ 8)
    (kk : W p l e R s m args below meth c H locs 0 0 Qs (F0 m (pc + 3) B (.int (pzX i h a b n) :: rest))) : W p l e R s m args below meth c H locs 0 0 Qs (F0 m pc B (.int n :: .int b :: .int a :: .int h :: .int i :: rest)) :=
  r_runN (va_runS (As := [.int i, .int h, .int a, .int b, .int n]) (rest := rest) (Ts := aWS) X (c_prize l i h a b n) ⟨callB_of 5 X.2.2.2.2 (aGood (ws := []) aP_c (fun _ h => by cases h)) rfl rfl rfl (X.2.2.2.2 _ aX_j) (X.2.2.2.2 _ aP_l) ⟨by decide, by decide, by decide +kernel⟩ ⟨hfr, by show 8 + (5 + 11) + 120 * 0 ≤ R.locals; omega⟩, X.2.2.2.2 _ aP_s⟩ ⟨aPt_blind, fun U hU hW => ⟨rfl, trivial⟩⟩ rfl rfl hsz rfl (lv_room hcs) hd ⟨Nat.zero_le _, Nat.zero_le _⟩) kk
end
