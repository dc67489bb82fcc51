/-! the class's further steps: all of them -/
theorem asl_ok : ∀ j, j < 100 → asl (2200 + j) ≤ 8 := by decide +kernel
theorem asl_lt {x : Nat} {i : Int32} (h1 : 2200 ≤ x) (h2 : x ≤ 2299) (hi : vp_in i (asl x)) : i < Int32.ofNat (asl x) := by
  have h := asl_ok (x - 2200) (by omega)
  rw [show 2200 + (x - 2200) = x from by omega] at h
  obtain ⟨j, hj, rfl⟩ := vp_in_of hi (by omega)
  exact nI_lt hj (by omega)
theorem aT_xc : Cond.code yJ0_length_8abf5 cJ0_length_8abf5 1 (some .int) ∈ aWS := aW_t 457 (by decide +kernel) (by decide +kernel)
theorem aT_xi : Cond.instanceMethod yJ0_length_8abf5 ∈ aWS := aW_t 455 (by decide +kernel) (by decide +kernel)
theorem aT_xe : Cond.selects RJ0 yJ0_length_8abf5 yJ0_length_8abf5 ∈ aWS := aW_t 456 (by decide +kernel) (by decide +kernel)
theorem aT_yc : Cond.code yJ0_charAt_5068e cJ0_charAt_5068e 2 (some .char) ∈ aWS := aW_t 467 (by decide +kernel) (by decide +kernel)
theorem aT_yi : Cond.instanceMethod yJ0_charAt_5068e ∈ aWS := aW_t 465 (by decide +kernel) (by decide +kernel)
theorem aT_ye : Cond.selects RJ0 yJ0_charAt_5068e yJ0_charAt_5068e ∈ aWS := aW_t 466 (by decide +kernel) (by decide +kernel)
section
variable {p : Program} {l : Launch} {e : Env} {s : State} {m : MethodId} {args : Array Value} {below : List Frame} {meth : Method} {c : Code} {cc : ByteArray} {nL on : Nat} {ad : Nat → Nat} {cy : Nat → ClassId} {D : va_G} {ids : List Nat} {A : Nat → Prop} {Qs : State → Prop} {d : Nat} {pc : Nat} {B : Array Slot} {H : Heap} {locs : List Loc} {rest : List Value} {ls : aLs}
theorem r_len (X : aCx p s m args c cc nL on ad cy D ids A rkX (aZX ad A)) {i x : Nat} (h1 : 2200 ≤ x) (h2 : x ≤ 2299) (hl : (on, i, 5003, 0) ∈ lkX) (hs : acs rest ≤ 8) (hd : decode cc pc = .ok (.invokevirtual i, 3)) (hl9 : aHas ad B nL ls) (hS : va_S A s.heap H locs)
    (kk : W p l e (aRm (d + 1)) s m args below meth c H locs 0 0 Qs (F0 m (pc + 3) B (.int (Int32.ofNat (asl x)) :: rest.map (atv ad)))) : W p l e (aRm (d + 1)) s m args below meth c H locs 0 0 Qs (F0 m pc B (.ref (ad x) :: rest.map (atv ad))) := by
  obtain ⟨hexec, hb, hml, hown, hts, hnw, hK, hn, hA, hi, hreg, hz, had⟩ := X
  obtain ⟨cell, q1, q2, q3, -⟩ := (hz.1.2.2.2.1 x h1 h2).1.kept hS.2.1
  exact r_runN (va_runV (As := []) (rest := rest.map (atv ad)) (Ts := aWS) ⟨hexec, hb, hml, hown, hts⟩ (c_length l ad A h1 h2) (cwV 0 hts (aGoodN aT_xc ((lkX_ok _ hl).2.2.2.1 rfl) aT_xi aT_xe aT_in) rfl rfl rfl ⟨rfl, by decide, by decide, by decide +kernel⟩ ⟨by show 1 + 1 ≤ d + 1 + 5; omega, by show 8 + (1 + 11) + 120 * 1 ≤ 120 * (d + 1 + 5); omega⟩) ⟨aPn_blind, ⟨cell, q1, q2, q3⟩, fun U hU hW => ⟨rfl, aZX_ok.2 s U H locs hz hW hS hU⟩⟩ rfl rfl hl9.2.1 rfl (lv_room (by rw [acs_map]; exact hs)) hd ⟨Nat.le_refl _, Nat.le_refl _⟩) kk
theorem r_chr (X : aCx p s m args c cc nL on ad cy D ids A rkX (aZX ad A)) {i x : Nat} {k : Int32} (h1 : 2200 ≤ x) (h2 : x ≤ 2299) (hk : vp_in k (asl x)) (hl : (on, i, 5004, 0) ∈ lkX) (hs : acs rest ≤ 8) (hd : decode cc pc = .ok (.invokevirtual i, 3)) (hl9 : aHas ad B nL ls) (hS : va_S A s.heap H locs)
    (kk : W p l e (aRm (d + 1)) s m args below meth c H locs 0 0 Qs (F0 m (pc + 3) B (.int (asc x k.toNatClampNeg) :: rest.map (atv ad)))) : W p l e (aRm (d + 1)) s m args below meth c H locs 0 0 Qs (F0 m pc B (.int k :: .ref (ad x) :: rest.map (atv ad))) := by
  obtain ⟨hexec, hb, hml, hown, hts, hnw, hK, hn, hA, hi, hreg, hz, had⟩ := X
  obtain ⟨cell, q1, q2, q3, -⟩ := (hz.1.2.2.2.1 x h1 h2).1.kept hS.2.1
  exact r_runN (va_runV (As := [.int k]) (rest := rest.map (atv ad)) (Ts := aWS) ⟨hexec, hb, hml, hown, hts⟩ (c_charAt l ad A h1 h2 hk (asl_lt h1 h2 hk)) (cwV 1 hts (aGoodN aT_yc ((lkX_ok _ hl).2.2.2.2.1 rfl) aT_yi aT_ye aT_in) rfl rfl rfl ⟨rfl, by decide, by decide, by decide +kernel⟩ ⟨by show 3 + 1 ≤ d + 1 + 5; omega, by show 8 + (2 + 11) + 120 * 3 ≤ 120 * (d + 1 + 5); omega⟩) ⟨aPn_blind, ⟨cell, q1, q2, q3⟩, fun U hU hW => ⟨rfl, aZX_ok.2 s U H locs hz hW hS hU⟩⟩ rfl rfl hl9.2.1 rfl (lv_room (by rw [acs_map]; exact hs)) hd ⟨Nat.le_refl _, Nat.le_refl _⟩) kk
end
