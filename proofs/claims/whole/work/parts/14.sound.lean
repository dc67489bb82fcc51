/-! the whole of it: a row of instructions, a method -/
theorem aM_max_s : Cond.static Lib.Math.max.name ∈ aWS := aW_t 613 (by decide +kernel) (by decide +kernel)
theorem aM_max_c : Cond.code Lib.Math.max.name Lib.Math.max.code 2 (some .int) ∈ aWS := aW_t 614 (by decide +kernel) (by decide +kernel)
theorem aM_min_s : Cond.static Lib.Math.min.name ∈ aWS := aW_t 737 (by decide +kernel) (by decide +kernel)
theorem aM_min_c : Cond.code Lib.Math.min.name Lib.Math.min.code 2 (some .int) ∈ aWS := aW_t 738 (by decide +kernel) (by decide +kernel)
theorem aM_i : Cond.initialized "java/lang/Math" ∈ aWS := aW_t 21 (by decide +kernel) (by decide +kernel)
section
variable {tb : Nat → List (Int32 × Nat)} {cl : Nat → List Value → aS → (Value → aS → Prop) → Prop} {Q : Value → aS → Prop} {nx : Nat → aLs → List Value → aS → Prop} {go : Nat → aLs → List Value → aS → Prop} {ls : aLs} {st : List Value} {S : aS} {pc : Nat} {r : Nat × Nat × Nat × Nat × Int32 × Int64}
theorem v_ifCond {cnd : ClassFile.Cond} {off : Int} (h : astp tb cl Q nx (pc, .ifCond cnd off, r) go ls st S) : ∃ x s, st = .int x :: s ∧ abr cnd x 0 (ajp (pc, .ifCond cnd off, r) nx go ls s S) (go 0 ls s S) := by
  unfold astp at h; dsimp only at h; split at h
  · exact ⟨_, _, rfl, h⟩
  · exact h.elim
theorem v_icmp {cnd : ClassFile.Cond} {off : Int} (h : astp tb cl Q nx (pc, .if_icmp cnd off, r) go ls st S) : ∃ x y s, st = .int y :: .int x :: s ∧ abr cnd x y (ajp (pc, .if_icmp cnd off, r) nx go ls s S) (go 0 ls s S) := by
  unfold astp at h; dsimp only at h; split at h
  · exact ⟨_, _, _, rfl, h⟩
  · exact h.elim
theorem v_goto {off : Int} (h : astp tb cl Q nx (pc, .goto off, r) go ls st S) : ajp (pc, .goto off, r) nx go ls st S := h
theorem v_iret (h : astp tb cl Q nx (pc, .ireturn, r) go ls st S) : ∃ x, st = [.int x] ∧ (r.2.2.1 = 0 → Q (.int x) S) ∧ (r.2.2.1 ≠ 0 → (x = 0 ∨ x = 1) ∧ Q (.int x) S) := by
  unfold astp at h; dsimp only at h; split at h
  · split at h
    · rename_i hz; exact ⟨_, rfl, fun _ => h, fun z => absurd hz z⟩
    · rename_i hz; exact ⟨_, rfl, fun z => absurd z hz, fun _ => h⟩
  · exact h.elim
theorem v_lret (h : astp tb cl Q nx (pc, .lreturn, r) go ls st S) : ∃ x, st = [.long x] ∧ Q (.long x) S := by
  unfold astp at h; dsimp only at h; split at h
  · exact ⟨_, rfl, h⟩
  · exact h.elim
theorem v_aret (h : astp tb cl Q nx (pc, .areturn, r) go ls st S) : ∃ x, st = [.ref x] ∧ Q (.ref x) S := by
  unfold astp at h; dsimp only at h; split at h
  · exact ⟨_, rfl, h⟩
  · exact h.elim
theorem v_vret (h : astp tb cl Q nx (pc, .return_, r) go ls st S) : st = [] ∧ Q .null S := by
  unfold astp at h; dsimp only at h; split at h
  · exact ⟨rfl, h⟩
  · exact h.elim
theorem v_acl {e : aE} (h : acl cl e go ls st S) : acs (st.drop (e.2.2.2.2.2.1 % 16)) ≤ 8 ∧ e.2.2.2.2.2.1 % 16 ≤ st.length ∧ cl e.2.2.2.2.1 (st.take (e.2.2.2.2.2.1 % 16)).reverse S (fun v S' => arv (e.2.2.2.2.2.1 / 16) v fun l => go 0 ls (l ++ st.drop (e.2.2.2.2.2.1 % 16)) S') := by
  unfold acl at h
  split at h
  · rename_i hbl
    obtain ⟨b1, b2⟩ := (Bool.and_eq_true _ _).mp hbl
    exact ⟨Nat.le_of_ble_eq_true b1, Nat.le_of_ble_eq_true b2, h⟩
  · exact h.elim
theorem v_inv {i : Nat} (h : astp tb cl Q nx (pc, .invokevirtual i, r) go ls st S) : acl cl (pc, .invokevirtual i, r) go ls st S := h
theorem v_ins {i : Nat} (h : astp tb cl Q nx (pc, .invokestatic i, r) go ls st S) : acl cl (pc, .invokestatic i, r) go ls st S := h
end
theorem narrow_z {x : Int32} (h : x = 0 ∨ x = 1) : narrow .boolean (.int x) = .int x := by
  rcases h with h | h <;> rw [h] <;> rfl
/-- instructions that do not go on to the next one -/
def actl (i : ClassFile.Instr) : Bool := match i with
  | .ifCond _ _ => true
  | .if_icmp _ _ => true
  | .if_acmp _ _ => true
  | .goto _ => true
  | .tableswitch _ _ _ _ => true
  | .ireturn => true
  | .lreturn => true
  | .areturn => true
  | .return_ => true
  | .invokevirtual _ => true
  | .invokespecial _ => true
  | .invokestatic _ => true
  | _ => false
theorem v_pure {tb : Nat → List (Int32 × Nat)} {cl : Nat → List Value → aS → (Value → aS → Prop) → Prop} {Q : Value → aS → Prop} {nx : Nat → aLs → List Value → aS → Prop} {go : Nat → aLs → List Value → aS → Prop} {ls : aLs} {st : List Value} {S : aS} {n : aE} (hp : actl n.2.1 = false) (h : astp tb cl Q nx n go ls st S) : apw n go ls st S := by
  obtain ⟨pc, i, r⟩ := n
  unfold astp at h
  cases i <;> first | exact h | cases hp
theorem v_pureC {MI : Nat → aMI} {NM : Nat} {MT : List (Nat × Nat × Nat)} {on : Nat} {rk : Nat → Bool} {rt : Option FieldType} {code : List aE} {n : aE} {t : List aE} (hp : actl n.2.1 = false) (h : ackC MI NM MT on rk rt code n t = true) : pcO t = some (n.1 + n.2.2.1) ∧ ackX on rk n = true := by
  have key : ackC MI NM MT on rk rt code n t = (decide (pcO t = some (n.1 + n.2.2.1)) && ackX on rk n) := by
    obtain ⟨pc, i, r⟩ := n
    unfold ackC
    cases i <;> first | rfl | cases hp
  rw [key] at h
  obtain ⟨h1, h2⟩ := (Bool.and_eq_true _ _).mp h
  exact ⟨of_decide_eq_true h1, h2⟩
section
variable {p : Program} {l : Launch} {e : Env} {R : Room} {s : State} {m : MethodId} {args : Array Value} {below : List Frame} {meth : Method} {c : Code} {cc : ByteArray} {nL on : Nat} {ad : Nat → Nat} {cy : Nat → ClassId} {D : va_G} {ids : List Nat} {A : Nat → Prop} {rk : Nat → Bool}
variable {MI : Nat → aMI} {tb : Nat → List (Int32 × Nat)} {NM : Nat} {MT : List (Nat × Nat × Nat)} {d : Nat}
set_option maxHeartbeats 8000000 in
theorem aw_ok (X : aCx p s m args c cc nL on ad cy D ids A rk) (hR : R = aRm (d + 1)) (hNM : NM ≤ 5000) (hMI : ∀ j, j < NM → aMok (MI j)) (hMT : ∀ q ∈ MT, aMTok MI q)
    (IH : ∀ j av S Q, j < NM → aW MI tb d j av S Q → aMet l ad cy D ids A MI d j av S Q) {rt : Option FieldType} (hr : meth.sig.returnType = rt) (hlocks : meth.locks = false) {Q : Value → aS → Prop} {code : List aE} {nx : Nat → aLs → List Value → aS → Prop}
    (hnx : ∀ q ls st S, nx q ls st S → ∀ g, pcO (code.drop q) = some g → aWg p l e R s m args below meth c nL ad cy D ids A (MQ below (aQc ad cy D ids A Q) args s 0 0 A) g ls st S) :
    ∀ (t : List aE), ackL MI NM MT cc on rk rt code t = true → ∀ (k : Nat) (f : Bool) (ls : aLs) (st : List Value) (S : aS), awp tb (aW MI tb d) Q nx t k f ls st S → ∀ g, pcO (t.drop k) = some g → aWg p l e R s m args below meth c nL ad cy D ids A (MQ below (aQc ad cy D ids A Q) args s 0 0 A) g ls st S := by
  have hx := X.1
  have hb := X.2.1
  have hml := X.2.2.1
  have hown := X.2.2.2.1
  have hts := X.2.2.2.2.1
  intro t
  induction t with
  | nil => intro _ k f ls st S h; exact h.elim
  | cons n t ih =>
    intro hck k f ls st S h g hg
    obtain ⟨hd, hck⟩ := (Bool.and_eq_true _ _).mp hck
    obtain ⟨hlen, hck⟩ := (Bool.and_eq_true _ _).mp hck
    obtain ⟨hcut, hck⟩ := (Bool.and_eq_true _ _).mp hck
    obtain ⟨hc, hckt⟩ := (Bool.and_eq_true _ _).mp hck
    replace hd := of_decide_eq_true hd
    replace hlen := of_decide_eq_true hlen
    replace hcut := of_decide_eq_true hcut
    have ih := ih hckt
    cases k with
    | succ k => exact ih k f ls st S h g hg
    | zero =>
      have hg : n.1 = g := Option.some.inj hg
      subst hg
      replace h : cond (f || Nat.beq n.2.2.2.1 0) (astp tb (aW MI tb d) Q nx n (fun k => awp tb (aW MI tb d) Q nx t k false) ls st S) (nx (n.2.2.2.1 - 1) ls st S) := h
      cases hb0 : (f || Nat.beq n.2.2.2.1 0) with
      | false =>
        rw [hb0] at h
        have h0 : Nat.beq n.2.2.2.1 0 = false := by cases f <;> simp_all
        rcases hcut with z | z
        · rw [z] at h0; cases h0
        · exact hnx _ _ _ _ h _ z
      | true =>
        rw [hb0] at h
        replace h : astp tb (aW MI tb d) Q nx n (fun k => awp tb (aW MI tb d) Q nx t k false) ls st S := h
        have J : ∀ (off : Int), ackT code n t off = true → ∃ g : Nat, (n.1 : Int) + off = (g : Int) ∧ ∀ st' : List Value, ajp n nx (fun k => awp tb (aW MI tb d) Q nx t k false) ls st' S → aWg p l e R s m args below meth c nL ad cy D ids A (MQ below (aQc ad cy D ids A Q) args s 0 0 A) g ls st' S := by
          intro off hT
          obtain ⟨g, h1, h2⟩ := ackT_inv hT
          refine ⟨g, h2, fun st' z => ?_⟩
          unfold ajp at z
          split at z
          · rename_i hz
            rw [hz] at h1
            exact ih _ _ _ _ _ z _ h1
          · rename_i hz
            refine hnx _ _ _ _ z _ ?_
            split at h1
            · exact absurd ‹_› hz
            · exact h1
        cases hp : actl n.2.1 with
        | false =>
          obtain ⟨c1, c2⟩ := v_pureC hp hc
          exact apw_ok X hd hlen c2 (v_pure hp h) (fun ls' st' S' z => ih _ _ _ _ _ z _ c1)
        | true =>
        obtain ⟨pc, i, len, cut, a, b, v, w⟩ := n
        dsimp only at hd hlen hcut J hp ⊢
        cases i with
        | ifCond cnd off =>
          obtain rfl : len = 3 := hlen
          obtain ⟨c1, c2⟩ := (Bool.and_eq_true _ _).mp hc
          have c2 := of_decide_eq_true c2
          obtain ⟨g, hg1, hg2⟩ := J off c1
          have h' := v_ifCond h
          clear h
          obtain ⟨x, s9, rfl, h⟩ := h'
          · intro B H locs hl hP hS
            cases cnd with
            | eq => exact lv_if_eq hx hb hd hg1 (fun z => hg2 _ (h.1 z) B H locs hl hP hS) (fun z => ih _ _ _ _ _ (h.2 z) _ c2 B H locs hl hP hS)
            | ne => exact lv_if_ne hx hb hd hg1 (fun z => hg2 _ (h.1 z) B H locs hl hP hS) (fun z => ih _ _ _ _ _ (h.2 z) _ c2 B H locs hl hP hS)
            | lt => exact lv_if_lt hx hb hd hg1 (fun z => hg2 _ (h.1 z) B H locs hl hP hS) (fun z => ih _ _ _ _ _ (h.2 z) _ c2 B H locs hl hP hS)
            | ge => exact lv_if_ge hx hb hd hg1 (fun z => hg2 _ (h.1 z) B H locs hl hP hS) (fun z => ih _ _ _ _ _ (h.2 z) _ c2 B H locs hl hP hS)
            | gt => exact lv_if_gt hx hb hd hg1 (fun z => hg2 _ (h.1 z) B H locs hl hP hS) (fun z => ih _ _ _ _ _ (h.2 z) _ c2 B H locs hl hP hS)
            | le => exact lv_if_le hx hb hd hg1 (fun z => hg2 _ (h.1 z) B H locs hl hP hS) (fun z => ih _ _ _ _ _ (h.2 z) _ c2 B H locs hl hP hS)
        | if_icmp cnd off =>
          obtain rfl : len = 3 := hlen
          obtain ⟨c1, c2⟩ := (Bool.and_eq_true _ _).mp hc
          have c2 := of_decide_eq_true c2
          obtain ⟨g, hg1, hg2⟩ := J off c1
          have h' := v_icmp h
          clear h
          obtain ⟨x, y, s9, rfl, h⟩ := h'
          · intro B H locs hl hP hS
            cases cnd with
            | eq => exact lv_icmp_eq hx hb hd hg1 (fun z => hg2 _ (h.1 z) B H locs hl hP hS) (fun z => ih _ _ _ _ _ (h.2 z) _ c2 B H locs hl hP hS)
            | ne => exact lv_icmp_ne hx hb hd hg1 (fun z => hg2 _ (h.1 z) B H locs hl hP hS) (fun z => ih _ _ _ _ _ (h.2 z) _ c2 B H locs hl hP hS)
            | lt => exact lv_icmp_lt hx hb hd hg1 (fun z => hg2 _ (h.1 z) B H locs hl hP hS) (fun z => ih _ _ _ _ _ (h.2 z) _ c2 B H locs hl hP hS)
            | ge => exact lv_icmp_ge hx hb hd hg1 (fun z => hg2 _ (h.1 z) B H locs hl hP hS) (fun z => ih _ _ _ _ _ (h.2 z) _ c2 B H locs hl hP hS)
            | gt => exact lv_icmp_gt hx hb hd hg1 (fun z => hg2 _ (h.1 z) B H locs hl hP hS) (fun z => ih _ _ _ _ _ (h.2 z) _ c2 B H locs hl hP hS)
            | le => exact lv_icmp_le hx hb hd hg1 (fun z => hg2 _ (h.1 z) B H locs hl hP hS) (fun z => ih _ _ _ _ _ (h.2 z) _ c2 B H locs hl hP hS)
        | if_acmp cnd off => cases hc
        | tableswitch x y z u => cases hc
        | invokespecial x => cases hc
        | goto off =>
          obtain rfl : len = 3 := hlen
          obtain ⟨g, hg1, hg2⟩ := J off hc
          intro B H locs hl hP hS
          exact lv_goto hx hb hd hg1 (hg2 _ (v_goto h) B H locs hl hP hS)
        | ireturn =>
          obtain rfl : len = 1 := hlen
          have h' := v_iret h
          clear h
          obtain ⟨x, rfl, h⟩ := h'
          intro B H locs hl hP hS
          cases a with
          | zero => exact W.iret hx hb (hr.trans (of_decide_eq_true hc)) (fun t ht hW => ⟨⟨.int x, S, rfl, h.1 rfl, by rw [ht]; exact hP⟩, hS.F ht⟩) hS.2.2 hd hlocks
          | succ a => exact W.zret (ty := .boolean) hx hb (hr.trans (of_decide_eq_true hc)) (narrow_z (h.2 (Nat.succ_ne_zero _)).1) (fun t ht hW => ⟨⟨.int x, S, rfl, (h.2 (Nat.succ_ne_zero _)).2, by rw [ht]; exact hP⟩, hS.F ht⟩) hS.2.2 hd hlocks
        | lreturn =>
          obtain rfl : len = 1 := hlen
          have h' := v_lret h
          clear h
          obtain ⟨x, rfl, h⟩ := h'
          intro B H locs hl hP hS
          exact W.lret hx hb (hr.trans (of_decide_eq_true hc)) (fun t ht hW => ⟨⟨.long x, S, rfl, h, by rw [ht]; exact hP⟩, hS.F ht⟩) hS.2.2 hd hlocks
        | areturn =>
          obtain rfl : len = 1 := hlen
          have h' := v_aret h
          clear h
          obtain ⟨x, rfl, h⟩ := h'
          intro B H locs hl hP hS
          cases rt with
          | none => cases hc
          | some ty =>
            cases ty <;> first | exact W.aret hx hb hr (Or.inl ⟨_, rfl⟩) (Or.inr ⟨_, rfl⟩) (fun t ht hW => ⟨⟨.ref x, S, rfl, h, by rw [ht]; exact hP⟩, hS.F ht⟩) hS.2.2 hd hlocks | cases hc
        | return_ =>
          obtain rfl : len = 1 := hlen
          have h' := v_vret h
          clear h
          obtain ⟨rfl, h⟩ := h'
          intro B H locs hl hP hS
          exact W.vret hx hb (hr.trans (of_decide_eq_true hc)) (fun t ht hW => ⟨⟨.null, S, rfl, h, by rw [ht]; exact hP⟩, hS.F ht⟩) hS.2.2 hd hlocks
        | invokevirtual i =>
          obtain rfl : len = 3 := hlen
          obtain ⟨c1, c2, c3, c4, c5, c6⟩ := of_decide_eq_true hc
          obtain ⟨b1, b2, h⟩ := v_acl (v_inv h)
          dsimp only at b1 b2 h c1 c2 c3 c4 c5 c6
          · 
            have hM := IH _ _ _ _ c2 h
            cases d with
            | zero => exact h.elim
            | succ d' =>
              have hlt : Nat.blt a 5000 = true := Nat.ble_eq_true_of_le (Nat.lt_of_lt_of_le c2 hNM)
              unfold aW at h
              rw [hlt] at h
              dsimp only at h
              have h9 := aif_out h
              unfold arc at h9
              split at h9
              · rename_i hz
                exact absurd (Nat.eq_of_beq_eq_true hz) c3
              · split at h9
                · rename_i b0 As hrev
                  obtain ⟨k1, -⟩ := aGK h9
                  have hst : st = As.reverse ++ .ref b0 :: st.drop (b % 16) := by
                    have e1 : st.take (b % 16) = As.reverse ++ [.ref b0] := by
                      have := congrArg List.reverse hrev
                      rw [List.reverse_reverse, List.reverse_cons] at this
                      exact this
                    have e2 := (List.take_append_drop (b % 16) st).symm
                    rw [e1, List.append_assoc] at e2
                    exact e2
                  have hal : As.length = (MI a).2.2.2.2.2.2.1 := by
                    have := congrArg List.length hrev
                    rw [List.length_reverse, List.length_take, Nat.min_eq_left b2, List.length_cons, c5] at this
                    omega
                  rw [hrev] at hM
                  intro B H locs hl hP hS
                  have hmp : st.map (atv ad) = (As.map (atv ad)).reverse ++ .ref (ad b0) :: (st.drop (b % 16)).map (atv ad) := by
                    conv => lhs; rw [hst]
                    rw [List.map_append, List.map_cons, List.map_reverse]
                    rfl
                  rw [hmp]
                  exact r_callV X hR (hMI a c2) c3 ((hMT _ c1).1 (Nat.lt_of_lt_of_le c2 hNM)) hal k1 c4 hM hd b1 hl hP hS (fun v S' H1 locs1 q1 q2 q3 => by
                    obtain ⟨w, hw, ew⟩ := aro_cat (ad := ad) q1
                    rw [ew, ← List.map_append]
                    exact ih _ _ _ _ _ hw _ c6 B H1 locs1 hl q2 q3)
                · exact h9.elim
        | invokestatic i =>
          obtain rfl : len = 3 := hlen
          obtain ⟨c1, c2, c3, c6⟩ := of_decide_eq_true hc
          dsimp only at c1 c2 c3 c6
          obtain ⟨b1, b2, h⟩ := v_acl (v_ins h)
          dsimp only at b1 b2 h
          · 
            intro B H locs hl hP hS
            rcases c3 with ⟨c3, c4⟩ | c3
            · have hM := IH _ _ _ _ c3 h
              rw [if_pos c3] at c2
              have hmp : st.map (atv ad) = (((st.take (b % 16)).reverse).map (atv ad)).reverse ++ (st.drop (b % 16)).map (atv ad) := by
                rw [List.map_reverse, List.reverse_reverse, ← List.map_append, List.take_append_drop]
              rw [hmp]
              exact r_callS X hR (hMI a c3) c4 ((hMT _ c1).1 (Nat.lt_of_lt_of_le c3 hNM)) (by rw [List.length_reverse, List.length_take, Nat.min_eq_left b2, c2]) hM hd b1 hl hP hS (fun v S' H1 locs1 q1 q2 q3 => by
                obtain ⟨w, hw, ew⟩ := aro_cat (ad := ad) q1
                rw [ew, ← List.map_append]
                exact ih _ _ _ _ _ hw _ c6 B H1 locs1 hl q2 q3)
            · have hge : ¬ a < NM := by omega
              rw [if_neg hge] at c2
              rw [c2] at h b1 b2
              have hq : aprm a (st.take 2).reverse S (fun v S' => arv (b / 16) v fun l => awp tb (aW MI tb d) Q nx t 0 false ls (l ++ st.drop 2) S') := by
                cases d with
                | zero => exact h.elim
                | succ d' => rcases c3 with c3 | c3 <;> subst c3 <;> exact h
              unfold aprm at hq
              split at hq
              · rename_i x y hrev
                have hst : st = .int y :: .int x :: st.drop 2 := by
                  have e1 : st.take 2 = [.int y, .int x] := by
                    have := congrArg List.reverse hrev
                    rw [List.reverse_reverse] at this
                    exact this
                  have e2 := (List.take_append_drop 2 st).symm
                  rw [e1] at e2
                  exact e2
                have hmp : st.map (atv ad) = .int y :: .int x :: (st.drop 2).map (atv ad) := by
                  conv => lhs; rw [hst]
                  rfl
                rw [hmp]
                have hro : ((st.drop 2).map (atv ad)).map (fun v => v.category) = ((st.drop 2).map (atv ad)).map (fun v => v.category) := rfl
                have hlo : (((st.drop 2).map (atv ad)).map fun v => v.category).sum + 13 ≤ R.locals := by
                  rw [acs_map, hR]
                  show acs (st.drop 2) + 13 ≤ 120 * (d + 1)
                  omega
                have hfr : 1 ≤ R.frames := by rw [hR]; show 1 ≤ d + 1; omega
                have hR1 : 0 ≤ R.cells := Nat.zero_le _
                have hR2 : 0 ≤ R.slots := Nat.zero_le _
                have hB : c.maxLocals = B.size := hml.trans hl.2.1.symm
                rcases c3 with c3 | c3
                · subst c3
                  obtain ⟨w, hw, ew⟩ := aro_cat (ad := ad) (n := b / 16) (v := .int (if x < y then y else x)) (k := fun l => awp tb (aW MI tb d) Q nx t 0 false ls (l ++ st.drop 2) S) hq
                  refine va_mmax hx hb hB hown (hts _ ((hMT _ c1).2.1 rfl)) (hts _ aM_max_s) (hts _ aM_i) (hts _ aM_max_c) hfr hlo hR1 hR2 hd ?_
                  have := ih _ _ _ _ _ hw _ c6 B H locs hl hP hS
                  rw [List.map_append, ← ew] at this
                  exact this
                · subst c3
                  obtain ⟨w, hw, ew⟩ := aro_cat (ad := ad) (n := b / 16) (v := .int (if y < x then y else x)) (k := fun l => awp tb (aW MI tb d) Q nx t 0 false ls (l ++ st.drop 2) S) hq
                  refine va_mmin hx hb hB hown (hts _ ((hMT _ c1).2.2 rfl)) (hts _ aM_min_s) (hts _ aM_i) (hts _ aM_min_c) hfr hlo hR1 hR2 hd ?_
                  have := ih _ _ _ _ _ hw _ c6 B H locs hl hP hS
                  rw [List.map_append, ← ew] at this
                  exact this
              · exact hq.elim
        | _ => cases hp
end
