theorem aO_g : ∀ own i, Cond.methodLink own i ySo ∈ aWS → GoodIn aWS (va_wsU own i RX9 "java/lang/Enum" ySo yJx29ce0_ordinal_8abf5 (Cond.code yJx29ce0_ordinal_8abf5 cJx29ce0_ordinal_8abf5 1 (some .int) :: aWS)) := fun own i h => aGood aO_c fun w hw => by
  rcases List.mem_cons.mp hw with z | hw
  · rw [z]; exact h
  · rcases List.mem_cons.mp hw with z | hw
    · rw [z]; exact aW_t 512 (by decide +kernel) (by decide +kernel)
    · rcases List.mem_cons.mp hw with z | hw
      · rw [z]; exact aW_t 514 (by decide +kernel) (by decide +kernel)
      · rcases List.mem_cons.mp hw with z | hw
        · rw [z]; exact aW_t 515 (by decide +kernel) (by decide +kernel)
        · rcases List.mem_cons.mp hw with z | hw
          · rw [z]; exact aW_t 3 (by decide +kernel) (by decide +kernel)
          · cases hw
theorem pcp_inv {Z : aLs → List Value → aS → Prop} {st : List Value} {k : Nat → Int32 → Nat → Int32 → Int32 → List Value → aT} (h : aTP (pcp st k) Z) : ∃ x sp y dp n r, st = .int n :: .int dp :: .ref y :: .int sp :: .ref x :: r ∧ aTP (k x sp y dp n r) Z := by
  unfold pcp at h; split at h
  · exact ⟨_, _, _, _, _, _, rfl, h⟩
  · exact h.elim
theorem aTP_cond {b : Bool} {t : aT} {Z : aLs → List Value → aS → Prop} (h : aTP (cond b t none) Z) : b = true ∧ aTP t Z := by
  cases b with
  | true => exact ⟨rfl, h⟩
  | false => exact h.elim
section
variable {p : Program} {l : Launch} {e : Env} {s : State} {m : MethodId} {args : Array Value} {below : List Frame} {meth : Method} {c : Code} {cc : ByteArray} {nL on : Nat} {ad : Nat → Nat} {cy : Nat → ClassId} {D : va_G} {ids : List Nat} {A : Nat → Prop} {Qs : State → Prop} {d : Nat} {pc : Nat} {B : Array Slot} {H : Heap} {locs : List Loc} {rest : List Value} {ls : aLs}
theorem r_ord (X : aCx p s m args c cc nL on ad cy D ids A rkX (aZX ad A)) {i k : Nat} (hk : k < 33) (hl : (on, i, 5005, 0) ∈ lkX) (hs : acs rest ≤ 8) (hd : decode cc pc = .ok (.invokevirtual i, 3)) (hl9 : aHas ad B nL ls) (hS : va_S A s.heap H locs)
    (kk : W p l e (aRm (d + 1)) s m args below meth c H locs 0 0 Qs (F0 m (pc + 3) B (.int (Int32.ofNat k) :: rest.map (atv ad)))) : W p l e (aRm (d + 1)) s m args below meth c H locs 0 0 Qs (F0 m pc B (.ref (ad (2000 + k)) :: rest.map (atv ad))) := by
  obtain ⟨hexec, hb, hml, hown, hts, hnw, hK, hn, hA, hi, hreg, hz, had⟩ := X
  obtain ⟨cell, q1, q2, q3, -⟩ := (hz.1.1 k hk).2.1.kept hS.2.1
  exact r_runN (va_runU (As := []) (rest := rest.map (atv ad)) (Ts := aWS) ⟨hexec, hb, hml, hown, hts⟩ (c_ordinal l ad A hk) (va_cwU 0 hts (aO_g _ _ ((lkX_ok _ hl).2.2.2.2.2 rfl)) rfl rfl rfl rfl ⟨by decide, by decide, by decide +kernel⟩ ⟨by show 0 + 1 ≤ d + 1 + 5; omega, by show 8 + (1 + 11) + 120 * 0 ≤ 120 * (d + 1 + 5); omega⟩) ⟨aPn_blind, ⟨cell, q1, q2, q3⟩, fun U hU hW => ⟨rfl, aZX_ok.2 s U H locs hz hW hS hU⟩⟩ rfl rfl hl9.2.1 rfl (lv_room (by rw [acs_map]; exact hs)) hd ⟨Nat.le_refl _, Nat.le_refl _⟩) kk
theorem acr_le {st : List Value} {k : Nat} (h : acr st k = true) : acs (st.drop k) ≤ 8 := Nat.le_of_ble_eq_true h
theorem pxX_ok (X : aCx p s m args c cc nL on ad cy D ids A rkX (aZX ad A)) : aPx pxX ckpX p l e (aRm (d + 1)) s m args below meth c cc nL on ad cy D ids A Qs := by
  intro n ls st S Z hd hlen h5 hk h hgo
  obtain ⟨pc, i, len, cut, a, b, v, w⟩ := n
  dsimp only at hd hlen h5 hgo ⊢
  cases i with
  | invokestatic i =>
    have hk := of_decide_eq_true hk
    have hlen : len = 3 := hlen
    subst hlen
    have h : aTP (cond (Nat.beq a 5002) (cond (acr st 5) (pcp st fun x sp y dp n r => some (gK x 20, some (acpG x sp y dp n), ls, r, scp S x sp y dp n)) none) (cond (acr st 2) (pxm (pc, .invokestatic i, 3, cut, a, b, v, w) ls st S) none)) Z := h
    rcases hk with hk | ⟨hk1, hk2⟩
    · have hne : Nat.beq a 5002 = false := by
        rcases hk with ⟨h1, -⟩ | ⟨h1, -⟩ <;> (have h1 : a = _ := h1; subst h1; rfl)
      rw [hne, cond_false] at h
      obtain ⟨hc, h⟩ := aTP_cond h
      exact pxm_ok X hd rfl hk (Nat.le_trans (acr_le hc) (by decide)) h hgo
    · have hk1 : a = 5002 := hk1
      rw [show Nat.beq a 5002 = true from by rw [hk1]; rfl, cond_true] at h
      obtain ⟨hc, h⟩ := aTP_cond h
      obtain ⟨x, sp, y, dp, nn, r, rfl, h⟩ := pcp_inv h
      obtain ⟨hx, hg, h⟩ := aGK h
      intro B H locs hl hP hS
      exact r_copy X hk2 hx hg (Nat.le_trans (acr_le hc) (by decide)) hd hl hP hS fun H1 locs1 z1 z2 => hgo _ _ _ h B H1 locs1 hl z1 z2
  | invokevirtual i =>
    have hkk : (on, i, a, 0) ∈ lkX := of_decide_eq_true hk
    have hlen : len = 3 := hlen
    subst hlen
    have h : aTP (cond (Nat.beq a 5003) (cond (acr st 1) (pR st fun x r => agd (2200 ≤ x ∧ x ≤ 2299) ls (.int (Int32.ofNat (asl x)) :: r) S) none) (cond (Nat.beq a 5004) (cond (acr st 2) (pRI st fun x i r => agd ((2200 ≤ x ∧ x ≤ 2299) ∧ vp_in i (asl x)) ls (.int (asc x i.toNatClampNeg) :: r) S) none) (cond (Nat.beq a 5005) (cond (acr st 1) (pR st fun x r => some (gE x, none, ls, .int (Int32.ofNat (x - 2000)) :: r, S)) none) none))) Z := h
    cases h3 : Nat.beq a 5003 with
    | true =>
      rw [h3, cond_true] at h
      have h3 := Nat.eq_of_beq_eq_true h3
      rw [h3] at hkk
      obtain ⟨hc, h⟩ := aTP_cond h
      obtain ⟨x, r, rfl, h⟩ := pR_inv h
      intro B H locs hl hP hS
      exact r_len X h.1.1 h.1.2 hkk (acr_le hc) hd hl hS (hgo _ _ _ h.2 B H locs hl hP hS)
    | false =>
      rw [h3, cond_false] at h
      cases h4 : Nat.beq a 5004 with
      | true =>
        rw [h4, cond_true] at h
        have h4 := Nat.eq_of_beq_eq_true h4
        rw [h4] at hkk
        obtain ⟨hc, h⟩ := aTP_cond h
        obtain ⟨x, y, r, rfl, h⟩ := pRI_inv h
        intro B H locs hl hP hS
        exact r_chr X h.1.1.1 h.1.1.2 h.1.2 hkk (acr_le hc) hd hl hS (hgo _ _ _ h.2 B H locs hl hP hS)
      | false =>
        rw [h4, cond_false] at h
        cases h6 : Nat.beq a 5005 with
        | true =>
          rw [h6, cond_true] at h
          have h6 := Nat.eq_of_beq_eq_true h6
          rw [h6] at hkk
          obtain ⟨hc, h⟩ := aTP_cond h
          obtain ⟨x, r, rfl, h⟩ := pR_inv h
          obtain ⟨⟨k, hk9, rfl⟩, h⟩ := gE_inv h
          rw [show 2000 + k - 2000 = k from by omega] at h
          intro B H locs hl hP hS
          exact r_ord X hk9 hkk (acr_le hc) hd hl hS (hgo _ _ _ h B H locs hl hP hS)
        | false => rw [h6] at h; exact h.elim
  | getstatic i =>
    obtain ⟨hk1, hk2⟩ := of_decide_eq_true hk
    have hlen : len = 3 := hlen
    subst hlen
    intro B H locs hl hP hS
    exact r_static X hk2 hd hS (hgo _ _ _ h B H locs hl hP hS)
  | ldc i =>
    obtain ⟨hk1, hk2⟩ := of_decide_eq_true hk
    have hlen : len = 2 := hlen
    subst hlen
    obtain ⟨tx, htx⟩ := ldc_in _ hk2 rfl
    intro B H locs hl hP hS
    obtain ⟨hexec, hb, hml, hown, hts, hnw, hK, hn, hA, hi, hreg, hz, had⟩ := X
    exact va_ldcS hexec hb hown (hz.2 _ htx) hd (hgo _ _ _ h B H locs hl hP hS)
  | getfield i =>
    obtain ⟨hk1, hk2⟩ := of_decide_eq_true hk
    have hlen : len = 3 := hlen
    subst hlen
    have h : aTP (pR st fun x r => some (gE x, none, ls, .ref (x + 200) :: r, S)) Z := h
    obtain ⟨x, r, rfl, h⟩ := pR_inv h
    obtain ⟨⟨k, hk9, rfl⟩, h⟩ := gE_inv h
    intro B H locs hl hP hS
    have h := hgo _ _ _ h B H locs hl hP hS
    rw [show 2000 + k + 200 = 2200 + k from by omega] at h
    exact r_text X hk9 hk2 hd hS h
  | aaload =>
    have hlen : len = 1 := hlen
    subst hlen
    have h : aTP (pRI st fun x i r => cond (Nat.beq x 2100) (agd (vp_in i 33) ls (.ref (2000 + i.toNatClampNeg) :: r) S) none) Z := h
    obtain ⟨x, y, r, rfl, h⟩ := pRI_inv h
    obtain ⟨hc, h⟩ := aTP_cond h
    have hc := Nat.eq_of_beq_eq_true hc
    subst hc
    intro B H locs hl hP hS
    obtain ⟨hexec, hb, hml, hown, hts, hnw, hK, hn, hA, hi, hreg, hz, had⟩ := X
    exact vb_tq hexec hb hz.1.2.1.2 hS h.1 rfl hd (hgo _ _ _ h.2 B H locs hl hP hS)
  | arraylength =>
    have hlen : len = 1 := hlen
    subst hlen
    have h : aTP (pR st fun x r => cond (Nat.beq x 2100) (aok ls (.int 33 :: r) S) none) Z := h
    obtain ⟨x, r, rfl, h⟩ := pR_inv h
    obtain ⟨hc, h⟩ := aTP_cond h
    have hc := Nat.eq_of_beq_eq_true hc
    subst hc
    intro B H locs hl hP hS
    obtain ⟨hexec, hb, hml, hown, hts, hnw, hK, hn, hA, hi, hreg, hz, had⟩ := X
    exact va_tlen hexec hb hz.1.2.1.2 hS rfl hd (hgo _ _ _ h B H locs hl hP hS)
  | iaload =>
    have hlen : len = 1 := hlen
    subst hlen
    have h : aTP (pRI st fun x i r => cond (Nat.beq x 2101) (agd (vp_in i 33) ls (.int (asm i.toNatClampNeg) :: r) S) none) Z := h
    obtain ⟨x, y, r, rfl, h⟩ := pRI_inv h
    obtain ⟨hc, h⟩ := aTP_cond h
    have hc := Nat.eq_of_beq_eq_true hc
    subst hc
    intro B H locs hl hP hS
    obtain ⟨hexec, hb, hml, hown, hts, hnw, hK, hn, hA, hi, hreg, hz, had⟩ := X
    exact va_ti hexec hb hz.1.2.2.1.2 hS h.1 rfl hd (hgo _ _ _ h.2 B H locs hl hP hS)
  | _ => cases hk
end
