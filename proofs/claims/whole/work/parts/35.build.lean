/-! the machine of the constructors: whole runs -/
theorem find_link {nl : List aQ} {on i : Nat} {q : aQ} (h : (nl.find? fun q => Nat.beq q.1 on && Nat.beq q.2.1 i) = some q) : q ∈ nl ∧ q.1 = on ∧ q.2.1 = i := by
  have h1 := List.find?_some h
  obtain ⟨a, b⟩ := (Bool.and_eq_true _ _).mp h1
  exact ⟨List.mem_of_find?_eq_some h, Nat.eq_of_beq_eq_true a, Nat.eq_of_beq_eq_true b⟩
section
variable {p : Program} {l : Launch} {e : Env} {R : Room} {s : State} {m : MethodId} {args : Array Value} {below : List Frame} {meth : Method} {c : Code} {cc : ByteArray} {nL on : Nat} {ad : Nat → Nat} {cy : Nat → ClassId} {D : va_G} {A : Nat → Prop} {Qs : State → Prop} {o kb e0 : Nat} {nl : List aQ}
theorem bgo_inv {pc pc' : Nat} {off : Int} {S S' : bS} (h : bgo pc off S = some (pc', S')) : (pc : Int) + off = (pc' : Int) ∧ S = S' := by
  unfold bgo at h
  obtain ⟨h1, h2⟩ := cond_some h
  cases h2
  exact ⟨(Int.toNat_of_nonneg (of_decide_eq_true h1)).symm, rfl⟩
set_option maxHeartbeats 1000000 in
theorem b1_ok (X : bCx p s m args meth c cc nL on cy D A e0) (hkb : kb = 20 ∨ kb = 30) (hnl : ∀ q ∈ nl, bNok q) (hI : ∀ ci, bIok ci) {mc ms : Nat} (hmc : mc ≤ R.cells) (hms : ms ≤ R.slots) (had : ad 2000 = e0) {ins : ClassFile.Instr} {len pc pc' : Nat} {S S' : bS} (hd : decode cc pc = .ok (ins, len)) (h : b1 o kb mc ms on nl ins len pc S = some (pc', S'))
    (hgo : S.2.2.1.length ≤ S'.2.2.1.length → ∀ ad', bAg (o + S.2.2.1.length) ad ad' → bG p l e R s m args below meth c nL cy D A Qs o pc' S' ad') : bG p l e R s m args below meth c nL cy D A Qs o pc S ad := by
  have X0 := X
  obtain ⟨hx, hb, hml, hown, hts, hK, hA, hAO1, hAO2, hZ, hin, hNW⟩ := X
  obtain ⟨ls, st, cs, nc, ns⟩ := S
  dsimp only at hgo
  unfold b1 at h
  dsimp only at h
  cases ins with
  | aload_n k =>
    dsimp only at h
    split at h
    · rename_i x hk
      obtain ⟨h1, h2⟩ := cond_some h
      have h1 := Nat.eq_of_beq_eq_true h1
      subst h1
      cases h2
      intro B H locs hl hP hD hS
      exact lv_aload_n hx hb hd rfl (hl.at hk) (hgo (Nat.le_refl _) ad bAg.rf B H locs hl hP hD hS)
    · cases h
  | iload_n k =>
    dsimp only at h
    split at h
    · rename_i x hk
      obtain ⟨h1, h2⟩ := cond_some h
      have h1 := Nat.eq_of_beq_eq_true h1
      subst h1
      cases h2
      intro B H locs hl hP hD hS
      exact lv_iload_n hx hb hd rfl (hl.at hk) (hgo (Nat.le_refl _) ad bAg.rf B H locs hl hP hD hS)
    · cases h
  | istore_n k =>
    dsimp only at h
    split at h
    · rename_i x r
      obtain ⟨h1, h2⟩ := cond_some h
      obtain ⟨h1, h3⟩ := (Bool.and_eq_true _ _).mp h1
      have h1 := Nat.eq_of_beq_eq_true h1
      have h3 := Nat.le_of_ble_eq_true h3
      subst h1
      cases h2
      intro B H locs hl hP hD hS
      exact lv_istore_n hx hb hd rfl hl.2 (by rw [← hl.1]; exact h3) rfl (fun B1 q => hgo (Nat.le_refl _) ad bAg.rf B1 H locs (hl.st1 q) hP hD hS)
    · cases h
  | astore_n k =>
    dsimp only at h
    split at h
    · rename_i x r
      obtain ⟨h1, h2⟩ := cond_some h
      obtain ⟨h1, h3⟩ := (Bool.and_eq_true _ _).mp h1
      have h1 := Nat.eq_of_beq_eq_true h1
      have h3 := Nat.le_of_ble_eq_true h3
      subst h1
      cases h2
      intro B H locs hl hP hD hS
      exact lv_astore_n hx hb hd rfl hl.2 (by rw [← hl.1]; exact h3) rfl (fun B1 q => hgo (Nat.le_refl _) ad bAg.rf B1 H locs (hl.st1 q) hP hD hS)
    · cases h
  | iconst n =>
    obtain ⟨h1, h2⟩ := cond_some h
    have h1 := Nat.eq_of_beq_eq_true h1
    subst h1
    cases h2
    intro B H locs hl hP hD hS
    exact lv_iconst hx hb hd rfl (hgo (Nat.le_refl _) ad bAg.rf B H locs hl hP hD hS)
  | bipush n =>
    obtain ⟨h1, h2⟩ := cond_some h
    have h1 := Nat.eq_of_beq_eq_true h1
    subst h1
    cases h2
    intro B H locs hl hP hD hS
    exact lv_bipush hx hb hd rfl (hgo (Nat.le_refl _) ad bAg.rf B H locs hl hP hD hS)
  | sipush n =>
    obtain ⟨h1, h2⟩ := cond_some h
    have h1 := Nat.eq_of_beq_eq_true h1
    subst h1
    cases h2
    intro B H locs hl hP hD hS
    exact lv_sipush hx hb hd rfl (hgo (Nat.le_refl _) ad bAg.rf B H locs hl hP hD hS)
  | dup =>
    dsimp only at h
    split at h
    · rename_i x r
      obtain ⟨h1, h2⟩ := cond_some h
      have h1 := Nat.eq_of_beq_eq_true h1
      subst h1
      cases h2
      intro B H locs hl hP hD hS
      exact lv_dup hx hb hd rfl (hgo (Nat.le_refl _) ad bAg.rf B H locs hl hP hD hS)
    · cases h
  | iinc k n =>
    dsimp only at h
    split at h
    · rename_i x hk
      obtain ⟨h1, h2⟩ := cond_some h
      obtain ⟨h1, h3⟩ := (Bool.and_eq_true _ _).mp h1
      have h1 := Nat.eq_of_beq_eq_true h1
      have h3 := Nat.le_of_ble_eq_true h3
      subst h1
      cases h2
      intro B H locs hl hP hD hS
      obtain ⟨k0, hk0⟩ := List.getElem?_of_mem ((apr_mem (ad := ad) ls 0 (k, .int x)).mpr ⟨k, .int x, hk, by rw [Nat.zero_add]; rfl⟩)
      exact lv_iinc hx hb hd hl.2 hk0 rfl (by rw [← hl.1]; exact h3) rfl (fun B1 q => hgo (Nat.le_refl _) ad bAg.rf B1 H locs (hl.st1 q) hP hD hS)
    · cases h
  | goto off =>
    obtain ⟨h1, h2⟩ := cond_some2 h
    have h1 := Nat.eq_of_beq_eq_true h1
    subst h1
    obtain ⟨h3, h4⟩ := bgo_inv h2
    subst h4
    intro B H locs hl hP hD hS
    exact lv_goto hx hb hd h3 (hgo (Nat.le_refl _) ad bAg.rf B H locs hl hP hD hS)
  | if_icmp cnd off =>
    cases cnd with
    | ge =>
      dsimp only at h
      split at h
      · rename_i y x r
        obtain ⟨h1, h2⟩ := cond_some2 h
        obtain ⟨h1, h0⟩ := (Bool.and_eq_true _ _).mp h1
        have h1 := Nat.eq_of_beq_eq_true h1
        subst h1
        intro B H locs hl hP hD hS
        cases hc : decide (y ≤ x) with
        | true =>
          rw [hc] at h2
          obtain ⟨h3, h4⟩ := bgo_inv h2
          subst h4
          exact lv_icmp_ge hx hb hd h3 (fun _ => hgo (Nat.le_refl _) ad bAg.rf B H locs hl hP hD hS) (fun z => absurd (of_decide_eq_true hc) z)
        | false =>
          rw [hc] at h2
          cases h2
          exact lv_icmp_ge (tgt := ((pc : Int) + off).toNat) hx hb hd (Int.toNat_of_nonneg (of_decide_eq_true h0)).symm (fun z => absurd z (of_decide_eq_false hc)) (fun _ => hgo (Nat.le_refl _) ad bAg.rf B H locs hl hP hD hS)
      · cases h
    | _ => cases h
  | new i =>
    dsimp only at h
    split at h
    · rename_i q hq
      obtain ⟨q1, q2, q3⟩ := find_link hq
      obtain ⟨h1, h2⟩ := cond_some h
      simp only [Bool.and_eq_true] at h1
      obtain ⟨g1, g2, g3, g4, g5, g6, g7⟩ := h1
      have g1 := Nat.eq_of_beq_eq_true g1
      subst g1
      cases h2
      exact b1_new X0 (hnl _ q1) (hI _) q2 q3 hd (Nat.le_of_ble_eq_true g2) g3 g4 g5 (Nat.le_trans (Nat.le_of_ble_eq_true g6) hmc) (Nat.le_trans (Nat.le_of_ble_eq_true g7) hms) (hgo (by rw [List.length_append]; omega))
    · cases h
  | newarray t =>
    dsimp only at h
    split at h
    · rename_i n r
      obtain ⟨h1, h2⟩ := cond_some h
      simp only [Bool.and_eq_true] at h1
      obtain ⟨g1, g2, g3, g4, g5, g6, g7, g8, g9, g10⟩ := h1
      have g1 := Nat.eq_of_beq_eq_true g1
      subst g1
      cases h2
      exact b1_newa X0 hkb (Nat.le_of_ble_eq_true g10) hd (Nat.le_of_ble_eq_true g2) g3 g4 g5 (Nat.le_trans (Nat.le_of_ble_eq_true g6) hmc) (Nat.le_trans (Nat.le_of_ble_eq_true g7) hms) (of_decide_eq_true g8) (Nat.le_of_ble_eq_true g9) (hgo (by rw [List.length_append]; omega))
    · cases h
  | anewarray i =>
    dsimp only at h
    split at h
    · rename_i q hq
      obtain ⟨q1, q2, q3⟩ := find_link hq
      split at h
      · rename_i n r
        obtain ⟨h1, h2⟩ := cond_some h
        simp only [Bool.and_eq_true] at h1
        obtain ⟨g1, g2, g3, g4, g5, g6, g7, g8, g9, g10⟩ := h1
        have g1 := Nat.eq_of_beq_eq_true g1
        subst g1
        cases h2
        exact b1_newq X0 hkb (hnl _ q1) q2 q3 (Nat.le_of_ble_eq_true g10) hd (Nat.le_of_ble_eq_true g2) g3 g4 g5 (Nat.le_trans (Nat.le_of_ble_eq_true g6) hmc) (Nat.le_trans (Nat.le_of_ble_eq_true g7) hms) (of_decide_eq_true g8) (Nat.le_of_ble_eq_true g9) (hgo (by rw [List.length_append]; omega))
      · cases h
    · cases h
  | putfield i =>
    dsimp only at h
    split at h
    · rename_i q hq
      obtain ⟨q1, q2, q3⟩ := find_link hq
      split at h
      · rename_i v x r
        split at h
        · rename_i k z fs hc
          obtain ⟨h1, h2⟩ := cond_some h
          simp only [Bool.and_eq_true] at h1
          obtain ⟨g1, g2, g3, g4, g5, g6⟩ := h1
          have g1 := Nat.eq_of_beq_eq_true g1
          subst g1
          cases h2
          intro B H locs hl hP hD hS
          exact b1_put X0 (bLT_ok _ q1) q2 q3 hd (Nat.le_of_ble_eq_true g2) hc (Nat.eq_of_beq_eq_true g3) (Nat.eq_of_beq_eq_true g4) (Nat.le_of_ble_eq_true g5) g6 hP hD hS (fun H1 locs1 z1 z2 z3 => hgo (by dsimp only; rw [List.length_set]; exact Nat.le_refl _) ad bAg.rf B H1 locs1 hl z1 z2 z3)
        · cases h
      · cases h
    · cases h
  | getfield i =>
    dsimp only at h
    split at h
    · rename_i q hq
      obtain ⟨q1, q2, q3⟩ := find_link hq
      split at h
      · rename_i x r
        split at h
        · rename_i k z fs hc
          split at h
          · rename_i v hv
            obtain ⟨h1, h2⟩ := cond_some h
            simp only [Bool.and_eq_true] at h1
            obtain ⟨g1, g2, g3⟩ := h1
            have g1 := Nat.eq_of_beq_eq_true g1
            subst g1
            cases h2
            intro B H locs hl hP hD hS
            exact b1_get X0 (bLT_ok _ q1) q2 q3 hd (Nat.le_of_ble_eq_true g2) hc (Nat.eq_of_beq_eq_true g3) hv hP (hgo (Nat.le_refl _) ad bAg.rf B H locs hl hP hD hS)
          · cases h
        · cases h
      · cases h
    · cases h
  | getstatic i =>
    obtain ⟨h1, h2⟩ := cond_some h
    simp only [Bool.and_eq_true] at h1
    obtain ⟨g1, g2, g3⟩ := h1
    have g1 := Nat.eq_of_beq_eq_true g1
    have g2 := Nat.eq_of_beq_eq_true g2
    have g3 := Nat.eq_of_beq_eq_true g3
    subst g1
    subst g2
    subst g3
    cases h2
    intro B H locs hl hP hD hS
    refine va_gets hx hb hZ hS hown (hts _ bEnd) (fun _ h => h) hd ?_
    rw [← had]
    exact hgo (Nat.le_refl _) ad bAg.rf B H locs hl hP hD hS
  | aastore =>
    dsimp only at h
    split at h
    · rename_i v n x r
      split at h
      · rename_i k z fs hc
        split at h
        · rename_i kv zv vs hv
          obtain ⟨h1, h2⟩ := cond_some h
          simp only [Bool.and_eq_true] at h1
          obtain ⟨g1, g2, g3, g4, g5, g6, g7, g8⟩ := h1
          have g1 := Nat.eq_of_beq_eq_true g1
          subst g1
          cases h2
          intro B H locs hl hP hD hS
          exact b1_ast X0 hkb hd (Nat.le_of_ble_eq_true g2) (Nat.le_of_ble_eq_true g3) hc hv (Nat.eq_of_beq_eq_true g4) (Nat.le_of_ble_eq_true g5) (of_decide_eq_true g6) (Nat.le_of_ble_eq_true g7) (Nat.eq_of_beq_eq_true g8) hP hD hS (fun H1 locs1 z1 z2 z3 => hgo (by dsimp only; rw [List.length_set]; exact Nat.le_refl _) ad bAg.rf B H1 locs1 hl z1 z2 z3)
        · cases h
      · cases h
    · cases h
  | _ => cases h
end
/-- what the tables say of a constructor -/
def bMok (k : Nat) (i : bMI) : Prop := plainFor i.1 = true ∧ i.1.name = "<init>" ∧ i.1.cls = aCN k ∧ (i.1.cls ≠ "java/lang/invoke/MethodHandle" ∧ i.1.cls ≠ "java/lang/invoke/VarHandle" ∧ (parseMethodDescriptor i.1.desc).map (fun d => d.parameters.length) = some i.2.2.2.1) ∧ i.2.2.1 ≤ 100 ∧ Cond.code i.1 i.2.1 i.2.2.1 none ∈ aWS ∧ Cond.instanceMethod i.1 ∈ aWS ∧ Cond.initialized i.1.cls ∈ aWS ∧ decode i.2.1 i.2.2.2.2.2.2 = .ok (.return_, 1)
def bCok (BM : Nat → bMI) (q : aQ) : Prop := (q.2.2.2 = 1 → Cond.methodLink (aCN q.1) q.2.1 Lib.objectInit ∈ aWS) ∧ (q.2.2.2 ≠ 1 → Cond.methodLink (aCN q.1) q.2.1 (BM q.2.2.1).1 ∈ aWS ∨ Cond.methodLinkNest (aCN q.1) q.2.1 (BM q.2.2.1).1 RX12 ∈ aNW)
def bRm (d mc ms : Nat) : Room := { frames := d + 2, cells := mc, slots := ms, locals := 120 * (d + 2) }
def bPc (o : Nat) (cy : Nat → ClassId) (D : va_G) (A : Nat → Prop) (e0 : Nat) (ad : Nat → Nat) (av : List Value) (cs : List bC) : Array Value → State → Prop := va_Pc (av.map (atv ad)) fun U => va_P D vwCl (bW ad cy o cs) U.heap ∧ va_D A (bW ad cy o cs) ∧ va_K D vwCl (atys cy) U ∧ (∀ q, U.heap.size ≤ q → A q) ∧ va_AO RX5 U ∧ va_AO RX10 U ∧ va_Z RX9 "END" "LFoldedRealm$Sort;" (.ref e0) A U U.heap ∧ ∀ w ∈ aNW, va_Nw w U
theorem bPc_blind {o : Nat} {cy : Nat → ClassId} {D : va_G} {A : Nat → Prop} {e0 : Nat} {ad : Nat → Nat} {av : List Value} {cs : List bC} : FrameBlind (bPc o cy D A e0 ad av cs) := by
  intro a U g mk h
  obtain ⟨h1, h2, h3, h4, h5, h6, h7, h8, h9⟩ := h
  exact ⟨h1, h2, h3, va_K.moved (u := U) (U := U.calling g mk a) (Vm.Alike.refl U.vm) h4, h5, va_AO.moved (u := U) (U := U.calling g mk a) (Vm.Alike.refl U.vm) h6, va_AO.moved (u := U) (U := U.calling g mk a) (Vm.Alike.refl U.vm) h7, va_Z.moved (u := U) (U := U.calling g mk a) (Vm.Alike.refl U.vm) h8, aNW_same (s := U) (U := U.calling g mk a) rfl h9⟩
def bQc (o : Nat) (cy : Nat → ClassId) (D : va_G) (A : Nat → Prop) (ad : Nat → Nat) (n : Nat) (cs : List bC) : Array Value → State → Outcome → State → Prop := va_Qv (S := Nat → Nat) (fun ad' => bAg (o + n) ad ad') (fun ad' t => va_P D vwCl (bW ad' cy o cs) t.heap ∧ va_D A (bW ad' cy o cs)) A
theorem bO_i : Cond.instanceMethod Lib.objectInit ∈ aWS := aW_t 33 (by decide +kernel) (by decide +kernel)
theorem bO_c : Cond.code Lib.objectInit ⟨#[0xb1]⟩ 1 none ∈ aWS := aW_t 34 (by decide +kernel) (by decide +kernel)
section
variable {l : Launch} {cy : Nat → ClassId} {D : va_G} {A : Nat → Prop} {o kb e0 : Nat} {nl cl : List aQ} {BM : Nat → bMI}
/-- what a run says -/
def bRun (l : Launch) (cy : Nat → ClassId) (D : va_G) (A : Nat → Prop) (o e0 : Nat) (BM : Nat → bMI) (d j pc : Nat) (S S' : bS) : Prop :=
  ∀ (p : Program) (e : Env) (R : Room) (s : State) (m : MethodId) (args : Array Value) (below : List Frame) (meth : Method) (c : Code) (Qs : State → Prop) (ad : Nat → Nat), bCx p s m args meth c (BM j).2.1 (BM j).2.2.1 j cy D A e0 → d + 2 ≤ R.frames → 120 * (d + 2) ≤ R.locals → (BM j).2.2.2.2.1 ≤ R.cells → (BM j).2.2.2.2.2.1 ≤ R.slots → ad 2000 = e0 →
    (∀ ad', bAg (o + S.2.2.1.length) ad ad' → bG p l e R s m args below meth c (BM j).2.2.1 cy D A Qs o (BM j).2.2.2.2.2.2 S' ad') → bG p l e R s m args below meth c (BM j).2.2.1 cy D A Qs o pc S ad
theorem bMet_of {d k : Nat} (hB : bMok k (BM k)) {av : List Value} {cs cs' : List bC} {ls' : aLs} {nc ns : Nat} {ad : Nat → Nat} (hfit : (alE av).length ≤ (BM k).2.2.1) (had : ad 2000 = e0) (hnc : nc ≤ (BM k).2.2.2.2.1) (hns : ns ≤ (BM k).2.2.2.2.2.1)
    (h : bRun l cy D A o e0 BM d k 0 (alc av (BM k).2.2.1, [], cs, 0, 0) (ls', [], cs', nc, ns)) :
    Met l (BM k).1 (Cond.code (BM k).1 (BM k).2.1 (BM k).2.2.1 none :: aWS) (bRm d (BM k).2.2.2.2.1 (BM k).2.2.2.2.2.1) (bPc o cy D A e0 ad av cs) (bQc o cy D A ad cs.length cs') (BM k).2.2.2.2.1 (BM k).2.2.2.2.2.1 A := by
  obtain ⟨m1, m2, m3, m4, m5, m6, m7, m8, m9⟩ := hB
  refine metF (cc := (BM k).2.1) (maxL := (BM k).2.2.1) (ret := none) m1 rfl ?_
  intro p e s m args below meth c s₁ B hml hv
  obtain ⟨hargs, hP, hD, hK, hA, hAO1, hAO2, hZ, hN⟩ := hv
  subst hargs
  have hts := atoms_spec B.pre
  have hlocks := B.notSynchronized
  have hr := B.returns
  have X : bCx p s m (av.map (atv ad)).toArray meth c (BM k).2.1 (BM k).2.2.1 k cy D A e0 :=
    ⟨B.exec, B.bytes, hml, by rw [← m3]; exact findClass_of_methodNamed B.named, fun w hw => hts w (List.mem_cons_of_mem _ hw), hK, hA, hAO1, hAO2, hZ, (name_of_methodNamed B.named B.method).1.trans m2, hN⟩
  rw [lg_entry_eq]
  have hl := lv_entry (av.map (atv ad)) (n := (BM k).2.2.1) (by rw [alE_len]; exact hfit)
  have hl' : aHas ad ((lg_sl (av.map (atv ad)) ++ List.replicate ((BM k).2.2.1 - (lg_sl (av.map (atv ad))).length) Slot.unset).toArray) (BM k).2.2.1 (alc av (BM k).2.2.1) := by
    refine ⟨?_, ?_⟩
    · unfold alc
      rw [List.length_append, List.length_replicate]
      omega
    · unfold alc
      rw [apr_args]
      exact hl
  refine h p e _ s m _ below meth c _ ad X (Nat.le_refl _) (Nat.le_refl _) (Nat.le_refl _) (Nat.le_refl _) had (fun ad' hag => ?_) _ s.heap [] hl' hP hD va_S.rf
  intro B1 H locs hl1 hP1 hD1 hS1
  dsimp only at hP1 hD1 ⊢
  refine W.widen hnc hns ?_
  exact W.vret X.1 X.2.1 hr (fun t ht hW => ⟨⟨ad', rfl, hag, by rw [ht]; exact hP1, hD1⟩, hS1.F ht⟩) hS1.2.2 m9 hlocks
end
