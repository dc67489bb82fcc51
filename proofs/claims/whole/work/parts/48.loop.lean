/-! the law's loop, to its end -/
theorem l_sub7 {L k : Nat} (hL : L ≤ 3584) (hk : 7 * k ≤ 3584) : nI L - 7 < nI (7 * k) ↔ L < 7 * k + 7 := by
  have h1 : (nI L - 7).toInt = (L : Int) - 7 := by
    rw [Int32.toInt_sub, nI_toInt (by omega), show (7 : Int32).toInt = 7 from rfl]
    exact Int.bmod_eq_of_le (by omega) (by omega)
  rw [Int32.lt_iff_toInt_lt, h1, nI_toInt (by omega)]
  omega
theorem l_in {L k : Nat} (hL : L ≤ 3584) (hk : 7 * k + 7 ≤ L) : ∀ c : Nat, c < 7 → vp_in (nI (7 * k) + nI c) L := by
  intro c hc
  rw [nI_add]
  exact nI_in (by omega) (by omega)
section
variable {p : Program} {l : Launch} {e : Env} {s : State} {m : MethodId} {below : List Frame} {meth : Method} {c : Code} {b L : Nat} {xs : Nat → Int32} {ad : Nat → Nat} {cy : Nat → ClassId} {D : va_G} {q : Nat} {Rel : aS → aS → Prop} {mcR msR : Nat}
theorem law_loop (hL : L ≤ 3584) (hr : meth.sig.returnType = ret) (hlocks : meth.locks = false) (Z : lCx p s m #[Value.ref b] c b L xs ad cy D q) (OK : LawOK Rel)
    (hR : ∀ (cells slots : Nat) (i : Int32) (SX SM : aS) (o : Int64), Rel SX SM → (∀ k : Int32, k = 1 ∨ k = 2 ∨ k = 3 ∨ k = 4 ∨ k = 5 ∨ k = 6 → vp_in (i + k) L) → cells + mcR ≤ 601024 → slots + msR ≤ 7293034 → (∀ SM1 o1, Rel SX SM1 → lG p l e s m #[Value.ref b] below meth c b ad cy D q (lw_Z below #[Value.ref b] s) (cells + mcR) (slots + msR) 1066 i SX SM1 o1) → lG p l e s m #[Value.ref b] below meth c b ad cy D q (lw_Z below #[Value.ref b] s) cells slots 847 i SX SM o) :
    ∀ (n k cells slots : Nat) (SX SM : aS) (o : Int64), L ≤ 7 * k + 7 * n + 6 → 7 * k ≤ L → cells + n * mcR ≤ 601024 → slots + n * msR ≤ 7293034 → Rel SX SM → lG p l e s m #[Value.ref b] below meth c b ad cy D q (lw_Z below #[Value.ref b] s) cells slots 23 (nI (7 * k)) SX SM o := by
  obtain ⟨hx, hb, hml, hown, hts⟩ := Z.1
  have hX := Z.2.2.2.2.2.2.2.1
  have hbl := Z.2.2.2.2.2.2.2.2
  have hbA : ¬ lA s b := Nat.not_le.mpr hbl
  intro n
  induction n with
  | zero =>
    intro k cells slots SX SM o h1 h2 h3 h4 hrel B H locs hl hLW hS
    refine lv_iload hx hb dL_23 (lv_at hl 4 rfl) ?_
    refine lv_aload_n hx hb dL_25 rfl (lv_at hl 0 rfl) ?_
    refine va_slen hx hb hX hbl hbA hS dL_26 ?_
    refine lv_bipush (v := 7) hx hb dL_27 rfl ?_
    refine lv_isub hx hb dL_29 ?_
    refine lv_icmp_gt (tgt := 1072) hx hb dL_30 rfl (fun _ => ?_) (fun z => absurd ((l_sub7 hL (by omega)).mpr (by omega)) z)
    refine lv_iconst (v := 1) hx hb dL_1072 rfl ?_
    refine va_forget (fun q hq => hS.2.2 q hq) ?_
    refine W.widen (k := 601024) (n := 7293034) (by omega) (by omega) ?_
    exact lw_ret hx hb hr hlocks dL_1073
  | succ n ih =>
    intro k cells slots SX SM o h1 h2 h3 h4 hrel B H locs hl hLW hS
    refine lv_iload hx hb dL_23 (lv_at hl 4 rfl) ?_
    refine lv_aload_n hx hb dL_25 rfl (lv_at hl 0 rfl) ?_
    refine va_slen hx hb hX hbl hbA hS dL_26 ?_
    refine lv_bipush (v := 7) hx hb dL_27 rfl ?_
    refine lv_isub hx hb dL_29 ?_
    have hc : cells + n * mcR + mcR ≤ 601024 := by
      rw [Nat.succ_mul] at h3
      omega
    have hs : slots + n * msR + msR ≤ 7293034 := by
      rw [Nat.succ_mul] at h4
      omega
    refine lv_icmp_gt (tgt := 1072) hx hb dL_30 rfl (fun _ => ?_) (fun z => ?_)
    · refine lv_iconst (v := 1) hx hb dL_1072 rfl ?_
      refine va_forget (fun q hq => hS.2.2 q hq) ?_
      refine W.widen (k := 601024) (n := 7293034) (by omega) (by omega) ?_
      exact lw_ret hx hb hr hlocks dL_1073
    · have hk : 7 * k + 7 ≤ L := by
        rcases Nat.lt_or_ge L (7 * k + 7) with y | y
        · exact absurd ((l_sub7 hL (by omega)).mpr y) z
        · exact y
      have hin := l_in hL hk
      have hv : ∀ j : Int32, j = 1 ∨ j = 2 ∨ j = 3 ∨ j = 4 ∨ j = 5 ∨ j = 6 → vp_in (nI (7 * k) + j) L := by
        rintro j (rfl | rfl | rfl | rfl | rfl | rfl)
        · exact hin 1 (by decide)
        · exact hin 2 (by decide)
        · exact hin 3 (by decide)
        · exact hin 4 (by decide)
        · exact hin 5 (by decide)
        · exact hin 6 (by decide)
      have h0 : vp_in (nI (7 * k)) L := nI_in (by omega) (by omega)
      have nxt : ∀ (cells1 slots1 : Nat) (SX1 SM1 : aS) (o1 : Int64), Rel SX1 SM1 → cells1 + n * mcR ≤ 601024 → slots1 + n * msR ≤ 7293034 → lG p l e s m #[Value.ref b] below meth c b ad cy D q (lw_Z below #[Value.ref b] s) cells1 slots1 1066 (nI (7 * k)) SX1 SM1 o1 := by
        intro cells1 slots1 SX1 SM1 o1 hrel1 hc1 hs1 B1 H1 locs1 hl1 hLW1 hS1
        refine lv_iinc hx hb dL_1066 hl1 (show ([(0, Value.ref b), (1, .ref (ad 0)), (2, .ref (ad 1000)), (3, .ref q), (4, .int (nI (7 * k)))] : List (Nat × Value))[4]? = some (4, .int (nI (7 * k))) from rfl) (v := nI (7 * k) + 7) rfl (by decide) rfl (fun B2 hl2 => ?_)
        refine lv_goto (tgt := 23) hx hb dL_1069 rfl ?_
        have hl3 : lv_has B2 7 [(0, .ref b), (1, .ref (ad 0)), (2, .ref (ad 1000)), (3, .ref q), (4, .int (nI (7 * (k + 1))))] := by
          have e1 : nI (7 * k) + 7 = nI (7 * (k + 1)) := by
            rw [show (7 : Int32) = nI 7 from rfl, nI_add]
            rfl
          rw [← e1]
          exact lv_sub hl2 [1, 2, 3, 4, 0] rfl
        exact ih (k + 1) cells1 slots1 SX1 SM1 o1 (by omega) (by omega) hc1 hs1 hrel1 B2 H1 locs1 hl3 hLW1 hS1
      refine lv_aload_n hx hb dL_33 rfl (lv_at hl 0 rfl) ?_
      refine lv_iload hx hb dL_34 (lv_at hl 4 rfl) ?_
      refine va_sld hx hb hX hbl hbA hS h0 dL_36 ?_
      refine lv_bipush (v := 31) hx hb dL_37 rfl ?_
      refine lv_iand hx hb dL_39 ?_
      obtain ⟨j, hj, hj2⟩ := pk_andE (xs (nI (7 * k)).toNatClampNeg) (m := 31) 5 (by decide)
      exact law_at Z OK hrel hv (by omega) (by omega) (hR cells slots _ SX SM o hrel hv (by omega) (by omega) (fun SM1 o1 hrel1 => nxt _ _ SX SM1 o1 hrel1 (by omega) (by omega))) (fun SX1 SM1 hrel1 => nxt cells slots SX1 SM1 o hrel1 (by omega) (by omega)) hj hj2 hl hLW hS
end
