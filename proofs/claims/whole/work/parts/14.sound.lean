/-! the whole of it: a row of instructions, a method -/
theorem aM_max_s : Cond.static Lib.Math.max.name ∈ aWS := aW_t 613 (by decide +kernel) (by decide +kernel)
theorem aM_max_c : Cond.code Lib.Math.max.name Lib.Math.max.code 2 (some .int) ∈ aWS := aW_t 614 (by decide +kernel) (by decide +kernel)
theorem aM_min_s : Cond.static Lib.Math.min.name ∈ aWS := aW_t 737 (by decide +kernel) (by decide +kernel)
theorem aM_min_c : Cond.code Lib.Math.min.name Lib.Math.min.code 2 (some .int) ∈ aWS := aW_t 738 (by decide +kernel) (by decide +kernel)
theorem aM_i : Cond.initialized "java/lang/Math" ∈ aWS := aW_t 21 (by decide +kernel) (by decide +kernel)
section
variable {px : aE → aLs → List Value → aS → aT} {tb : Nat → List (Int32 × Nat)} {cl : Nat → List Value → aS → (Value → aS → Prop) → Prop} {Q : Value → aS → Prop} {nx : Nat → aLs → List Value → aS → Prop} {go : Nat → aLs → List Value → aS → Prop} {ls : aLs} {st : List Value} {S : aS} {pc : Nat} {r : Nat × Nat × Nat × Nat × Int32 × Int64}
theorem v_ifCond {cnd : ClassFile.Cond} {off : Int} (h : astp px tb cl Q nx (pc, .ifCond cnd off, r) go ls st S) : ∃ x s, st = .int x :: s ∧ abr cnd x 0 (ajp (pc, .ifCond cnd off, r) nx go ls s S) (go 0 ls s S) := by
  unfold astp at h; dsimp only at h; split at h
  · exact ⟨_, _, rfl, h⟩
  · exact h.elim
theorem v_icmp {cnd : ClassFile.Cond} {off : Int} (h : astp px tb cl Q nx (pc, .if_icmp cnd off, r) go ls st S) : ∃ x y s, st = .int y :: .int x :: s ∧ abr cnd x y (ajp (pc, .if_icmp cnd off, r) nx go ls s S) (go 0 ls s S) := by
  unfold astp at h; dsimp only at h; split at h
  · exact ⟨_, _, _, rfl, h⟩
  · exact h.elim
theorem v_goto {off : Int} (h : astp px tb cl Q nx (pc, .goto off, r) go ls st S) : ajp (pc, .goto off, r) nx go ls st S := h
theorem v_iret (h : astp px tb cl Q nx (pc, .ireturn, r) go ls st S) : ∃ x, st = [.int x] ∧ (r.2.2.1 = 0 → Q (.int x) S) ∧ (r.2.2.1 ≠ 0 → (x = 0 ∨ x = 1) ∧ Q (.int x) S) := by
  unfold astp at h; dsimp only at h; split at h
  · split at h
    · rename_i hz; exact ⟨_, rfl, fun _ => h, fun z => absurd hz z⟩
    · rename_i hz; exact ⟨_, rfl, fun z => absurd z hz, fun _ => h⟩
  · exact h.elim
theorem v_lret (h : astp px tb cl Q nx (pc, .lreturn, r) go ls st S) : ∃ x, st = [.long x] ∧ Q (.long x) S := by
  unfold astp at h; dsimp only at h; split at h
  · exact ⟨_, rfl, h⟩
  · exact h.elim
theorem v_aret (h : astp px tb cl Q nx (pc, .areturn, r) go ls st S) : ∃ x, st = [.ref x] ∧ Q (.ref x) S := by
  unfold astp at h; dsimp only at h; split at h
  · exact ⟨_, rfl, h⟩
  · exact h.elim
theorem v_vret (h : astp px tb cl Q nx (pc, .return_, r) go ls st S) : st = [] ∧ Q .null S := by
  unfold astp at h; dsimp only at h; split at h
  · exact ⟨rfl, h⟩
  · exact h.elim
theorem v_acl {e : aE} (h : acl cl e go ls st S) : acs (st.drop (e.2.2.2.2.2.1 % 16)) ≤ 8 ∧ e.2.2.2.2.2.1 % 16 ≤ st.length ∧ cl e.2.2.2.2.1 (st.take (e.2.2.2.2.2.1 % 16)).reverse S (fun v S' => arv (e.2.2.2.2.2.1 / 16) v fun l => go 0 ls (l ++ st.drop (e.2.2.2.2.2.1 % 16)) S') := by
  unfold acl at h
  split at h
  · rename_i hbl
    obtain ⟨b1, b2⟩ := (Bool.and_eq_true _ _).mp hbl
    exact ⟨Nat.le_of_ble_eq_true b1, Nat.le_of_ble_eq_true b2, h⟩
  · exact h.elim
theorem v_inv {i : Nat} (h : astp px tb cl Q nx (pc, .invokevirtual i, r) go ls st S) : cond (Nat.ble 5000 r.2.2.1) (apw px (pc, .invokevirtual i, r) go ls st S) (acl cl (pc, .invokevirtual i, r) go ls st S) := h
theorem v_ins {i : Nat} (h : astp px tb cl Q nx (pc, .invokestatic i, r) go ls st S) : cond (Nat.ble 5000 r.2.2.1) (apw px (pc, .invokestatic i, r) go ls st S) (acl cl (pc, .invokestatic i, r) go ls st S) := h
theorem v_acmp {cnd : ClassFile.ACond} {off : Int} (h : astp px tb cl Q nx (pc, .if_acmp cnd off, r) go ls st S) : ∃ x y s, st = .ref y :: .ref x :: s ∧ aG (gC x) (aG (gC y) (aba cnd x y (ajp (pc, .if_acmp cnd off, r) nx go ls s S) (go 0 ls s S))) := by
  unfold astp at h; dsimp only at h; split at h
  · exact ⟨_, _, _, rfl, h⟩
  · exact h.elim
theorem v_tsw {df lo hi : Int} {offs : Array Int} (h : astp px tb cl Q nx (pc, .tableswitch df lo hi offs, r) go ls st S) : ∃ x s, st = .int x :: s ∧ asw x r.2.2.2.1 (fun t => nx t ls s S) (tb r.2.2.1) := by
  unfold astp at h; dsimp only at h; split at h
  · exact ⟨_, _, rfl, h⟩
  · exact h.elim
theorem v_apw {e : aE} (h : apw px e go ls st S) : (Nat.ble 5000 e.2.2.2.2.1 = true → aTP (px e ls st S) (go 0)) ∧ (Nat.ble 5000 e.2.2.2.2.1 = false → aTP (apu e ls st S) (go 0)) := by
  have h : aTP (cond (Nat.ble 5000 e.2.2.2.2.1) (px e ls st S) (apu e ls st S)) (go 0) := h
  constructor
  · intro z; rw [z] at h; exact h
  · intro z; rw [z] at h; exact h
theorem aGC {x : Nat} {X : Prop} (h : aG (gC x) X) : 2000 ≤ x ∧ x ≤ 2099 ∧ X := by
  unfold gC at h
  cases hb : (Nat.ble 2000 x && Nat.ble x 2099) with
  | true =>
    rw [hb] at h
    obtain ⟨b1, b2⟩ := (Bool.and_eq_true _ _).mp hb
    exact ⟨Nat.le_of_ble_eq_true b1, Nat.le_of_ble_eq_true b2, h⟩
  | false => rw [hb] at h; exact ⟨h.1.1, h.1.2, h.2⟩
/-- a switch: none of its rows, or one of them -/
theorem asw_none {x : Int32} {d : Nat} {k : Nat → Prop} : ∀ (l : List (Int32 × Nat)), (∀ q ∈ l, x ≠ q.1) → asw x d k l → k d
  | [], _, h => h
  | (c, t) :: r, hn, h => asw_none r (fun q hq => hn q (List.mem_cons_of_mem _ hq)) (h.2 (hn _ List.mem_cons_self))
theorem asw_some {x : Int32} {d : Nat} {k : Nat → Prop} : ∀ (l : List (Int32 × Nat)) (i : Nat) (t : Nat), l[i]? = some (x, t) → (∀ (j : Nat) (q : Int32 × Nat), j < i → l[j]? = some q → x ≠ q.1) → asw x d k l → k t
  | [], i, t, h, _, _ => by cases h
  | (c, t') :: r, 0, t, h, _, z => by cases h; exact z.1 rfl
  | (c, t') :: r, i + 1, t, h, hn, z => asw_some r i t h (fun j q hj hq => hn (j + 1) q (Nat.succ_lt_succ hj) hq) (z.2 (hn 0 _ (Nat.zero_lt_succ _) rfl))
theorem ackS_get {code : List aE} {pc : Nat} {lo : Int} {offs : Array Int} : ∀ (l : List (Int32 × Nat)) (k : Nat), ackS code pc lo offs k l = true → ∀ (i : Nat) (q : Int32 × Nat), l[i]? = some q → q.1.toInt = lo + ((k + i : Nat) : Int) ∧ ∃ (o : Int) (g : Nat), offs[k + i]? = some o ∧ pcO (code.drop q.2) = some g ∧ (pc : Int) + o = (g : Int)
  | [], k, _, i, q, h => by cases h
  | (c, t) :: r, k, hk, i, q, h => by
    obtain ⟨h1, h2⟩ := (Bool.and_eq_true _ _).mp hk
    obtain ⟨e1, e2, e3⟩ := of_decide_eq_true h1
    cases i with
    | zero =>
      cases h
      refine ⟨e1, ?_⟩
      cases ho : offs[k]? with
      | none =>
        rw [ho] at e2
        cases hg : pcO (code.drop t) with
        | none => rw [hg] at e3; cases e3
        | some g => rw [hg] at e2; cases e2
      | some o =>
        cases hg : pcO (code.drop t) with
        | none => rw [hg] at e3; cases e3
        | some g =>
          rw [ho, hg] at e2
          exact ⟨o, g, rfl, rfl, Option.some.inj e2⟩
    | succ i =>
      have := ackS_get r (k + 1) h2 i q h
      rw [show k + 1 + i = k + (i + 1) from by omega] at this
      exact this
end
theorem narrow_z {x : Int32} (h : x = 0 ∨ x = 1) : narrow .boolean (.int x) = .int x := by
  rcases h with h | h <;> rw [h] <;> rfl
/-- instructions that do not go on to the next one -/
def actl (i : ClassFile.Instr) : Bool := match i with
  | .ifCond _ _ => true
  | .if_icmp _ _ => true
  | .if_acmp _ _ => true
  | .goto _ => true
  | .tableswitch _ _ _ _ => true
  | .ireturn => true
  | .lreturn => true
  | .areturn => true
  | .return_ => true
  | .invokevirtual _ => true
  | .invokespecial _ => true
  | .invokestatic _ => true
  | _ => false
theorem aisT_of {i : ClassFile.Instr} (h : actl i = false) : aisT i = false := by
  cases i <;> first | rfl | cases h
theorem v_pure {px : aE → aLs → List Value → aS → aT} {tb : Nat → List (Int32 × Nat)} {cl : Nat → List Value → aS → (Value → aS → Prop) → Prop} {Q : Value → aS → Prop} {nx : Nat → aLs → List Value → aS → Prop} {go : Nat → aLs → List Value → aS → Prop} {ls : aLs} {st : List Value} {S : aS} {n : aE} (hp : actl n.2.1 = false) (h : astp px tb cl Q nx n go ls st S) : apw px n go ls st S := by
  obtain ⟨pc, i, r⟩ := n
  unfold astp at h
  cases i <;> first | exact h | cases hp
theorem v_pureC {tb : Nat → List (Int32 × Nat)} {ckp : Nat → aE → Bool} {MI : Nat → aMI} {NM : Nat} {MT : List (Nat × Nat × Nat)} {on : Nat} {rk : Nat → Bool} {rt : Option FieldType} {code : List aE} {n : aE} {t : List aE} (hp : actl n.2.1 = false) (h : ackC tb ckp MI NM MT on rk rt code n t = true) : pcO t = some (n.1 + n.2.2.1) ∧ cond (Nat.ble 5000 n.2.2.2.2.1) (ckp on n) (ackX on rk n) = true := by
  have key : ackC tb ckp MI NM MT on rk rt code n t = (decide (pcO t = some (n.1 + n.2.2.1)) && cond (Nat.ble 5000 n.2.2.2.2.1) (ckp on n) (ackX on rk n)) := by
    obtain ⟨pc, i, r⟩ := n
    unfold ackC
    cases i <;> first | rfl | cases hp
  rw [key] at h
  obtain ⟨h1, h2⟩ := (Bool.and_eq_true _ _).mp h
  exact ⟨of_decide_eq_true h1, h2⟩
section
variable {p : Program} {l : Launch} {e : Env} {R : Room} {s : State} {m : MethodId} {args : Array Value} {below : List Frame} {meth : Method} {c : Code} {cc : ByteArray} {nL on : Nat} {ad : Nat → Nat} {cy : Nat → ClassId} {D : va_G} {ids : List Nat} {A : Nat → Prop} {rk : Nat → Bool} {Zc : State → Prop}
variable {MI : Nat → aMI} {px : aE → aLs → List Value → aS → aT} {tb : Nat → List (Int32 × Nat)} {NM : Nat} {MT : List (Nat × Nat × Nat)} {d : Nat}
variable {ckp : Nat → aE → Bool}
/-- the small machine's further steps are those of the true one -/
def aPx (px : aE → aLs → List Value → aS → aT) (ckp : Nat → aE → Bool) (p : Program) (l : Launch) (e : Env) (R : Room) (s : State) (m : MethodId) (args : Array Value) (below : List Frame) (meth : Method) (c : Code) (cc : ByteArray) (nL on : Nat) (ad : Nat → Nat) (cy : Nat → ClassId) (D : va_G) (ids : List Nat) (A : Nat → Prop) (Qs : State → Prop) : Prop :=
  ∀ (n : aE) (ls : aLs) (st : List Value) (S : aS) (Z : aLs → List Value → aS → Prop), decode cc n.1 = .ok (n.2.1, n.2.2.1) → n.2.2.1 = alen1 n.2.1 → Nat.ble 5000 n.2.2.2.2.1 = true → ckp on n = true → aTP (px n ls st S) Z →
    (∀ ls' st' S', Z ls' st' S' → aWg p l e R s m args below meth c nL ad cy D ids A Qs (n.1 + n.2.2.1) ls' st' S') → aWg p l e R s m args below meth c nL ad cy D ids A Qs n.1 ls st S
set_option maxHeartbeats 1000000 in
theorem aw_ok (X : aCx p s m args c cc nL on ad cy D ids A rk Zc) (hzo : aZok A Zc) (hR : R = aRm (d + 1)) (hMI : ∀ j, j < NM → aMok (MI j)) (hMT : ∀ q ∈ MT, aMTok MI q)
    (IH : ∀ j av S Q, j < NM → aW px MI tb d j av S Q → aMet l ad cy D ids A Zc MI d j av S Q) {rt : Option FieldType} (hr : meth.sig.returnType = rt) (hlocks : meth.locks = false) {Q : Value → aS → Prop} {code : List aE} {nx : Nat → aLs → List Value → aS → Prop}
    (hpx : aPx px ckp p l e R s m args below meth c cc nL on ad cy D ids A (MQ below (aQc ad cy D ids A Q) args s 0 0 A))
    (hnx : ∀ q ls st S, nx q ls st S → ∀ g, pcO (code.drop q) = some g → aWg p l e R s m args below meth c nL ad cy D ids A (MQ below (aQc ad cy D ids A Q) args s 0 0 A) g ls st S) :
    ∀ (t : List aE), ackL tb ckp MI NM MT cc on rk rt code t = true → ∀ (k : Nat) (f : Bool) (ls : aLs) (st : List Value) (S : aS), awp px tb (aW px MI tb d) Q nx t k f ls st S → ∀ g, pcO (t.drop k) = some g → aWg p l e R s m args below meth c nL ad cy D ids A (MQ below (aQc ad cy D ids A Q) args s 0 0 A) g ls st S := by
  have hx := X.1
  have hb := X.2.1
  have hml := X.2.2.1
  have hown := X.2.2.2.1
  have hts := X.2.2.2.2.1
  intro t
  induction t with
  | nil => intro _ k f ls st S h; exact h.elim
  | cons n t ih =>
    intro hck k f ls st S h g hg
    obtain ⟨hd, hck⟩ := (Bool.and_eq_true _ _).mp hck
    obtain ⟨hlen, hck⟩ := (Bool.and_eq_true _ _).mp hck
    obtain ⟨hcut, hck⟩ := (Bool.and_eq_true _ _).mp hck
    obtain ⟨hc, hckt⟩ := (Bool.and_eq_true _ _).mp hck
    replace hd := of_decide_eq_true hd
    replace hlen : aisT n.2.1 = false → n.2.2.1 = alen1 n.2.1 := by
      intro z
      rw [z, Bool.false_or] at hlen
      exact of_decide_eq_true hlen
    replace hcut := of_decide_eq_true hcut
    have ih := ih hckt
    cases k with
    | succ k => exact ih k f ls st S h g hg
    | zero =>
      have hg : n.1 = g := Option.some.inj hg
      subst hg
      replace h : cond (f || Nat.beq n.2.2.2.1 0) (astp px tb (aW px MI tb d) Q nx n (fun k => awp px tb (aW px MI tb d) Q nx t k false) ls st S) (nx (n.2.2.2.1 - 1) ls st S) := h
      cases hb0 : (f || Nat.beq n.2.2.2.1 0) with
      | false =>
        rw [hb0] at h
        have h0 : Nat.beq n.2.2.2.1 0 = false := by cases f <;> simp_all
        rcases hcut with z | z
        · rw [z] at h0; cases h0
        · exact hnx _ _ _ _ h _ z
      | true =>
        rw [hb0] at h
        replace h : astp px tb (aW px MI tb d) Q nx n (fun k => awp px tb (aW px MI tb d) Q nx t k false) ls st S := h
        have J : ∀ (off : Int), ackT code n t off = true → ∃ g : Nat, (n.1 : Int) + off = (g : Int) ∧ ∀ st' : List Value, ajp n nx (fun k => awp px tb (aW px MI tb d) Q nx t k false) ls st' S → aWg p l e R s m args below meth c nL ad cy D ids A (MQ below (aQc ad cy D ids A Q) args s 0 0 A) g ls st' S := by
          intro off hT
          obtain ⟨g, h1, h2⟩ := ackT_inv hT
          refine ⟨g, h2, fun st' z => ?_⟩
          unfold ajp at z
          split at z
          · rename_i hz
            rw [hz] at h1
            exact ih _ _ _ _ _ z _ h1
          · rename_i hz
            refine hnx _ _ _ _ z _ ?_
            split at h1
            · exact absurd ‹_› hz
            · exact h1
        cases hp : actl n.2.1 with
        | false =>
          obtain ⟨c1, c2⟩ := v_pureC hp hc
          cases h5 : Nat.ble 5000 n.2.2.2.2.1 with
          | true => rw [h5] at c2; exact hpx n ls st S (awp px tb (aW px MI tb d) Q nx t 0 false) hd (hlen (aisT_of hp)) h5 c2 ((v_apw (v_pure hp h)).1 h5) (fun ls' st' S' z => ih 0 false ls' st' S' z _ c1)
          | false => rw [h5] at c2; exact apw_ok (go := fun k => awp px tb (aW px MI tb d) Q nx t k false) X hd (hlen (aisT_of hp)) c2 ((v_apw (v_pure hp h)).2 h5) (fun ls' st' S' z => ih 0 false ls' st' S' z _ c1)
        | true =>
        obtain ⟨pc, i, len, cut, a, b, v, w⟩ := n
        dsimp only at hd hlen hcut J hp ⊢
        cases i with
        | ifCond cnd off =>
          obtain rfl : len = 3 := hlen rfl
          obtain ⟨c1, c2⟩ := (Bool.and_eq_true _ _).mp hc
          have c2 := of_decide_eq_true c2
          obtain ⟨g, hg1, hg2⟩ := J off c1
          have h' := v_ifCond h
          clear h
          obtain ⟨x, s9, rfl, h⟩ := h'
          · intro B H locs hl hP hS
            cases cnd with
            | eq => exact lv_if_eq hx hb hd hg1 (fun z => hg2 _ (h.1 z) B H locs hl hP hS) (fun z => ih _ _ _ _ _ (h.2 z) _ c2 B H locs hl hP hS)
            | ne => exact lv_if_ne hx hb hd hg1 (fun z => hg2 _ (h.1 z) B H locs hl hP hS) (fun z => ih _ _ _ _ _ (h.2 z) _ c2 B H locs hl hP hS)
            | lt => exact lv_if_lt hx hb hd hg1 (fun z => hg2 _ (h.1 z) B H locs hl hP hS) (fun z => ih _ _ _ _ _ (h.2 z) _ c2 B H locs hl hP hS)
            | ge => exact lv_if_ge hx hb hd hg1 (fun z => hg2 _ (h.1 z) B H locs hl hP hS) (fun z => ih _ _ _ _ _ (h.2 z) _ c2 B H locs hl hP hS)
            | gt => exact lv_if_gt hx hb hd hg1 (fun z => hg2 _ (h.1 z) B H locs hl hP hS) (fun z => ih _ _ _ _ _ (h.2 z) _ c2 B H locs hl hP hS)
            | le => exact lv_if_le hx hb hd hg1 (fun z => hg2 _ (h.1 z) B H locs hl hP hS) (fun z => ih _ _ _ _ _ (h.2 z) _ c2 B H locs hl hP hS)
        | if_icmp cnd off =>
          obtain rfl : len = 3 := hlen rfl
          obtain ⟨c1, c2⟩ := (Bool.and_eq_true _ _).mp hc
          have c2 := of_decide_eq_true c2
          obtain ⟨g, hg1, hg2⟩ := J off c1
          have h' := v_icmp h
          clear h
          obtain ⟨x, y, s9, rfl, h⟩ := h'
          · intro B H locs hl hP hS
            cases cnd with
            | eq => exact lv_icmp_eq hx hb hd hg1 (fun z => hg2 _ (h.1 z) B H locs hl hP hS) (fun z => ih _ _ _ _ _ (h.2 z) _ c2 B H locs hl hP hS)
            | ne => exact lv_icmp_ne hx hb hd hg1 (fun z => hg2 _ (h.1 z) B H locs hl hP hS) (fun z => ih _ _ _ _ _ (h.2 z) _ c2 B H locs hl hP hS)
            | lt => exact lv_icmp_lt hx hb hd hg1 (fun z => hg2 _ (h.1 z) B H locs hl hP hS) (fun z => ih _ _ _ _ _ (h.2 z) _ c2 B H locs hl hP hS)
            | ge => exact lv_icmp_ge hx hb hd hg1 (fun z => hg2 _ (h.1 z) B H locs hl hP hS) (fun z => ih _ _ _ _ _ (h.2 z) _ c2 B H locs hl hP hS)
            | gt => exact lv_icmp_gt hx hb hd hg1 (fun z => hg2 _ (h.1 z) B H locs hl hP hS) (fun z => ih _ _ _ _ _ (h.2 z) _ c2 B H locs hl hP hS)
            | le => exact lv_icmp_le hx hb hd hg1 (fun z => hg2 _ (h.1 z) B H locs hl hP hS) (fun z => ih _ _ _ _ _ (h.2 z) _ c2 B H locs hl hP hS)
        | if_acmp cnd off =>
          obtain rfl : len = 3 := hlen rfl
          obtain ⟨c1, c2⟩ := (Bool.and_eq_true _ _).mp hc
          have c2 := of_decide_eq_true c2
          obtain ⟨g, hg1, hg2⟩ := J off c1
          have h' := v_acmp h
          clear h
          obtain ⟨x, y, s9, rfl, h⟩ := h'
          obtain ⟨x1, x2, h⟩ := aGC h
          obtain ⟨y1, y2, h⟩ := aGC h
          have inj := X.2.2.2.2.2.2.2.2.2.2.2.2
          have hiff : some (ad x) = some (ad y) ↔ x = y := ⟨fun z => inj x y x1 x2 y1 y2 (Option.some.inj z), fun z => by rw [z]⟩
          intro B H locs hl hP hS
          cases cnd with
          | eq => exact lv_acmp_eq (rx := some (ad x)) (ry := some (ad y)) hx hb hd hg1 (fun z => hg2 _ (h.1 (hiff.mp z)) B H locs hl hP hS) (fun z => ih _ _ _ _ _ (h.2 (fun q => z (hiff.mpr q))) _ c2 B H locs hl hP hS)
          | ne => exact lv_acmp_ne (rx := some (ad x)) (ry := some (ad y)) hx hb hd hg1 (fun z => hg2 _ (h.1 (fun q => z (hiff.mpr q))) B H locs hl hP hS) (fun z => ih _ _ _ _ _ (h.2 (hiff.mp z)) _ c2 B H locs hl hP hS)
        | tableswitch df lo hi offs =>
          have h' := v_tsw h
          clear h
          obtain ⟨x, s9, rfl, h⟩ := h'
          obtain ⟨c1, c2⟩ := (Bool.and_eq_true _ _).mp hc
          obtain ⟨c3, c4, c5, c6⟩ := of_decide_eq_true c2
          dsimp only at c1 c3 c6 h
          have hgt := ackS_get _ 0 c1
          intro B H locs hl hP hS
          by_cases hin : x.toInt < lo ∨ hi < x.toInt
          · cases hg : pcO (code.drop b) with
            | none => rw [hg] at c6; cases c6
            | some g =>
              rw [hg] at c6
              refine lv_tableOut hx hb hd hin (Option.some.inj c6).symm ?_
              refine hnx _ _ _ _ (asw_none _ (fun q hq e => ?_) h) _ hg B H locs hl hP hS
              obtain ⟨i9, hi9⟩ := List.getElem?_of_mem hq
              obtain ⟨e1, -⟩ := hgt i9 q hi9
              have hlt := (List.getElem?_eq_some_iff.mp hi9).1
              rw [e] at hin
              rw [e1] at hin
              omega
          · have h1 : ¬ x.toInt < lo := fun z => hin (Or.inl z)
            have h2 : ¬ hi < x.toInt := fun z => hin (Or.inr z)
            have hlt : (x.toInt - lo).toNat < (tb a).length := by omega
            obtain ⟨q, hq⟩ : ∃ q, (tb a)[(x.toInt - lo).toNat]? = some q := ⟨_, List.getElem?_eq_getElem hlt⟩
            obtain ⟨e1, o, g, e2, e3, e4⟩ := hgt _ q hq
            rw [Nat.zero_add] at e1 e2
            have hxq : q.1 = x := by
              apply Int32.toInt_inj.mp
              rw [e1]
              omega
            refine lv_tableIn hx hb hd h1 h2 e2 e4 ?_
            refine hnx _ _ _ _ (asw_some _ _ q.2 (by rw [hq, ← hxq]) (fun j q' hj hq' e => ?_) h) _ e3 B H locs hl hP hS
            obtain ⟨e5, -⟩ := hgt j q' hq'
            rw [← e, ← hxq, e1] at e5
            omega
        | invokespecial x => cases hc
        | goto off =>
          obtain rfl : len = 3 := hlen rfl
          obtain ⟨g, hg1, hg2⟩ := J off hc
          intro B H locs hl hP hS
          exact lv_goto hx hb hd hg1 (hg2 _ (v_goto h) B H locs hl hP hS)
        | ireturn =>
          obtain rfl : len = 1 := hlen rfl
          have h' := v_iret h
          clear h
          obtain ⟨x, rfl, h⟩ := h'
          intro B H locs hl hP hS
          cases a with
          | zero => exact W.iret hx hb (hr.trans (of_decide_eq_true hc)) (fun t ht hW => ⟨⟨.int x, S, rfl, h.1 rfl, by rw [ht]; exact hP⟩, hS.F ht⟩) hS.2.2 hd hlocks
          | succ a => exact W.zret (ty := .boolean) hx hb (hr.trans (of_decide_eq_true hc)) (narrow_z (h.2 (Nat.succ_ne_zero _)).1) (fun t ht hW => ⟨⟨.int x, S, rfl, (h.2 (Nat.succ_ne_zero _)).2, by rw [ht]; exact hP⟩, hS.F ht⟩) hS.2.2 hd hlocks
        | lreturn =>
          obtain rfl : len = 1 := hlen rfl
          have h' := v_lret h
          clear h
          obtain ⟨x, rfl, h⟩ := h'
          intro B H locs hl hP hS
          exact W.lret hx hb (hr.trans (of_decide_eq_true hc)) (fun t ht hW => ⟨⟨.long x, S, rfl, h, by rw [ht]; exact hP⟩, hS.F ht⟩) hS.2.2 hd hlocks
        | areturn =>
          obtain rfl : len = 1 := hlen rfl
          have h' := v_aret h
          clear h
          obtain ⟨x, rfl, h⟩ := h'
          intro B H locs hl hP hS
          cases rt with
          | none => cases hc
          | some ty =>
            cases ty <;> first | exact W.aret hx hb hr (Or.inl ⟨_, rfl⟩) (Or.inr ⟨_, rfl⟩) (fun t ht hW => ⟨⟨.ref x, S, rfl, h, by rw [ht]; exact hP⟩, hS.F ht⟩) hS.2.2 hd hlocks | cases hc
        | return_ =>
          obtain rfl : len = 1 := hlen rfl
          have h' := v_vret h
          clear h
          obtain ⟨rfl, h⟩ := h'
          intro B H locs hl hP hS
          exact W.vret hx hb (hr.trans (of_decide_eq_true hc)) (fun t ht hW => ⟨⟨.null, S, rfl, h, by rw [ht]; exact hP⟩, hS.F ht⟩) hS.2.2 hd hlocks
        | invokevirtual i =>
          obtain rfl : len = 3 := hlen rfl
          have h' := v_inv h
          clear h
          dsimp only at h'
          cases h5 : Nat.ble 5000 a with
          | true =>
            rw [h5, cond_true] at h'
            have hc : cond (Nat.ble 5000 a) (decide (pcO t = some (pc + 3)) && ckp on (pc, .invokevirtual i, 3, cut, a, b, v, w)) _ = true := hc
            rw [h5] at hc
            obtain ⟨c1, c2⟩ := (Bool.and_eq_true _ _).mp hc
            exact hpx (pc, .invokevirtual i, 3, cut, a, b, v, w) ls st S (awp px tb (aW px MI tb d) Q nx t 0 false) hd rfl h5 c2 ((v_apw h').1 h5) (fun ls' st' S' z => ih 0 false ls' st' S' z _ (of_decide_eq_true c1))
          | false =>
          rw [h5, cond_false] at h'
          have hc : cond (Nat.ble 5000 a) _ (decide ((on, i, a) ∈ MT ∧ a < NM ∧ (MI a).2.2.2.2.2.1 ≠ 99 ∧ rk (MI a).2.2.2.2.2.1 = true ∧ b % 16 = (MI a).2.2.2.2.2.2.1 + 1 ∧ pcO t = some (pc + 3))) = true := hc
          rw [h5] at hc
          obtain ⟨c1, c2, c3, c4, c5, c6⟩ := of_decide_eq_true hc
          obtain ⟨b1, b2, h⟩ := v_acl h'
          dsimp only at b1 b2 h c1 c2 c3 c4 c5 c6
          · 
            have hM := IH _ _ _ _ c2 h
            cases d with
            | zero => exact h.elim
            | succ d' =>
              unfold aW at h
              have h9 := aif_out h
              unfold arc at h9
              split at h9
              · rename_i hz
                exact absurd (Nat.eq_of_beq_eq_true hz) c3
              · split at h9
                · rename_i b0 As hrev
                  obtain ⟨k1, -⟩ := aGK h9
                  have hst : st = As.reverse ++ .ref b0 :: st.drop (b % 16) := by
                    have e1 : st.take (b % 16) = As.reverse ++ [.ref b0] := by
                      have := congrArg List.reverse hrev
                      rw [List.reverse_reverse, List.reverse_cons] at this
                      exact this
                    have e2 := (List.take_append_drop (b % 16) st).symm
                    rw [e1, List.append_assoc] at e2
                    exact e2
                  have hal : As.length = (MI a).2.2.2.2.2.2.1 := by
                    have := congrArg List.length hrev
                    rw [List.length_reverse, List.length_take, Nat.min_eq_left b2, List.length_cons, c5] at this
                    omega
                  rw [hrev] at hM
                  intro B H locs hl hP hS
                  have hmp : st.map (atv ad) = (As.map (atv ad)).reverse ++ .ref (ad b0) :: (st.drop (b % 16)).map (atv ad) := by
                    conv => lhs; rw [hst]
                    rw [List.map_append, List.map_cons, List.map_reverse]
                    rfl
                  rw [hmp]
                  exact r_callV X hzo hR (hMI a c2) c3 (hMT _ c1) hal k1 c4 hM hd b1 hl hP hS (fun v S' H1 locs1 q1 q2 q3 => by
                    obtain ⟨w, hw, ew⟩ := aro_cat (ad := ad) q1
                    rw [ew, ← List.map_append]
                    exact ih _ _ _ _ _ hw _ c6 B H1 locs1 hl q2 q3)
                · exact h9.elim
        | invokestatic i =>
          obtain rfl : len = 3 := hlen rfl
          have h' := v_ins h
          clear h
          dsimp only at h'
          cases h5 : Nat.ble 5000 a with
          | true =>
            rw [h5, cond_true] at h'
            have hc : cond (Nat.ble 5000 a) (decide (pcO t = some (pc + 3)) && ckp on (pc, .invokestatic i, 3, cut, a, b, v, w)) _ = true := hc
            rw [h5] at hc
            obtain ⟨c1, c2⟩ := (Bool.and_eq_true _ _).mp hc
            exact hpx (pc, .invokestatic i, 3, cut, a, b, v, w) ls st S (awp px tb (aW px MI tb d) Q nx t 0 false) hd rfl h5 c2 ((v_apw h').1 h5) (fun ls' st' S' z => ih 0 false ls' st' S' z _ (of_decide_eq_true c1))
          | false =>
          rw [h5, cond_false] at h'
          have hc : cond (Nat.ble 5000 a) _ (decide ((on, i, a) ∈ MT ∧ a < NM ∧ (MI a).2.2.2.2.2.1 = 99 ∧ b % 16 = (MI a).2.2.2.2.2.2.1 ∧ pcO t = some (pc + 3))) = true := hc
          rw [h5] at hc
          obtain ⟨c1, c2, c3, c4, c6⟩ := of_decide_eq_true hc
          obtain ⟨b1, b2, h⟩ := v_acl h'
          dsimp only at b1 b2 h
          have hM := IH _ _ _ _ c2 h
          have hmp : st.map (atv ad) = (((st.take (b % 16)).reverse).map (atv ad)).reverse ++ (st.drop (b % 16)).map (atv ad) := by
            rw [List.map_reverse, List.reverse_reverse, ← List.map_append, List.take_append_drop]
          intro B H locs hl hP hS
          rw [hmp]
          exact r_callS X hzo hR (hMI a c2) c3 (hMT _ c1) (by rw [List.length_reverse, List.length_take, Nat.min_eq_left b2, c4]) hM hd b1 hl hP hS (fun v S' H1 locs1 q1 q2 q3 => by
            obtain ⟨w, hw, ew⟩ := aro_cat (ad := ad) q1
            rw [ew, ← List.map_append]
            exact ih _ _ _ _ _ hw _ c6 B H1 locs1 hl q2 q3)
        | _ => cases hp
end
