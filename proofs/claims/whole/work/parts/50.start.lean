/-! the law from its entry on -/
theorem art_ok : ∀ i, i < 152 → ((artL i).all fun n => Nat.blt n 1000) = true := by decide +kernel
theorem ara_ok : ∀ i, i < 152 → ((araL i).all fun n => Nat.blt n 1000) = true := by decide +kernel
theorem getD_lt {l : List Nat} (h : (l.all fun n => Nat.blt n 1000) = true) (k : Nat) : l.getD k 0 < 1000 := by
  rw [List.getD_eq_getElem?_getD]
  cases hk : l[k]? with
  | none => exact (by decide)
  | some v => exact Nat.le_of_ble_eq_true (List.all_eq_true.mp h v (List.mem_of_getElem? hk))
theorem idX_lt {i : Nat} (h : i ∈ idX) : i < 152 := by
  obtain ⟨k, hk, rfl⟩ := List.mem_map.mp h
  have := List.mem_range.mp hk
  omega
theorem idM_ge {i : Nat} (h : i ∈ idM) : 1000 ≤ i ∧ i < 1041 := by
  obtain ⟨k, hk, rfl⟩ := List.mem_map.mp h
  have := List.mem_range.mp hk
  omega
theorem aws_ag {ad ad' : Nat → Nat} {cy : Nat → ClassId} {S : aS} (h : bAg 1000 ad ad') (hg : ∀ i k, gr S i k < 1000 ∨ 2000 ≤ gr S i k) : aws ad' cy idX S = aws ad cy idX S := by
  unfold aws
  refine List.map_congr_left fun i hi => ?_
  have hi' := idX_lt hi
  have e1 : ad' i = ad i := h i (Or.inl (by omega))
  have e2 : afv ad' S i = afv ad S i := by
    funext q
    obtain ⟨t, k⟩ := q
    match t with
    | 0 => rfl
    | 1 => rfl
    | 2 => rfl
    | 3 =>
      show Value.ref (ad' (art i k)) = .ref (ad (art i k))
      rw [h (art i k) (Or.inl (getD_lt (art_ok i hi') k))]
    | n + 4 =>
      show Value.ref (ad' (gr S i k)) = .ref (ad (gr S i k))
      rw [h _ (hg i k)]
  have e3 : arw ad' S i = arw ad S i := by
    have e4 : (fun k => some (ad' (ara i k))) = fun k => some (ad (ara i k)) := by
      funext k
      rw [h (ara i k) (Or.inl (getD_lt (ara_ok i hi') k))]
    unfold arw
    rw [e4]
  rw [e1]
  unfold ace
  rw [e2, e3]
theorem lkNX : Cond.classLink (aCN 12) 8 RX12 ∈ aWS := aW_t 27 (by decide +kernel) (by decide +kernel)
theorem lkNM : Cond.classLink (aCN 12) 16 RX13 ∈ aWS := aW_t 1246 (by decide +kernel) (by decide +kernel)
theorem lkIX : Cond.methodLink (aCN 12) 15 yX12_init ∈ aWS := aW_t 29 (by decide +kernel) (by decide +kernel)
theorem lkIM : Cond.methodLink (aCN 12) 18 yX13_init ∈ aWS := aW_t 1248 (by decide +kernel) (by decide +kernel)
theorem lkCX : Cond.code yX12_init cX12_init 2 none ∈ aWS := aW_t 31 (by decide +kernel) (by decide +kernel)
theorem lkCM : Cond.code yX13_init cX13_init 1 none ∈ aWS := aW_t 1250 (by decide +kernel) (by decide +kernel)
theorem lkJX : Cond.initialized yX12_init.cls ∈ aWS := aW_t 1 (by decide +kernel) (by decide +kernel)
theorem lkJM : Cond.initialized yX13_init.cls ∈ aWS := aW_t 15 (by decide +kernel) (by decide +kernel)
theorem lkMX : Cond.instanceMethod yX12_init ∈ aWS := aW_t 30 (by decide +kernel) (by decide +kernel)
theorem lkMM : Cond.instanceMethod yX13_init ∈ aWS := aW_t 1249 (by decide +kernel) (by decide +kernel)
theorem bAg.co {lim : Nat} {ad ad' : Nat → Nat} (h : bAg lim ad ad') (hco : ∀ x y, 2000 ≤ x → x ≤ 2099 → 2000 ≤ y → y ≤ 2099 → ad x = ad y → x = y) : ∀ x y, 2000 ≤ x → x ≤ 2099 → 2000 ≤ y → y ≤ 2099 → ad' x = ad' y → x = y := by
  intro x y g1 g2 g3 g4 g5
  rw [h x (Or.inr g1), h y (Or.inr g3)] at g5
  exact hco x y g1 g2 g3 g4 g5
set_option maxHeartbeats 1000000 in
theorem law_start {p : Program} {e : Env} {s : State} {m : MethodId} {below : List Frame} {meth : Method} {c : Code} (l : Launch) {b L : Nat} {xs : Nat → Int32} (hL : L ≤ 3584) (C0 : lw_At p s m meth c b L xs) {Rel : aS → aS → Prop} {mcR msR : Nat} (OK : LawOK Rel) (hmc : 194 + 512 * mcR ≤ 601024) (hms : 11226 + 512 * msR ≤ 7293034)
    (h0 : aWX dd 37 [.ref 40, .ref 6] S0X (fun v SX => v = .null ∧ (∀ i k, gr SX i k < 1000 ∨ 2000 ≤ gr SX i k) ∧ aWM dd 39 [.ref 1000] (sa S0M 1002 2 3) (fun v SM => v = .null ∧ Rel SX SM)))
    (hR : ∀ (ad : Nat → Nat) (cy : Nat → ClassId) (D : va_G) (q : Nat), lCx p s m #[Value.ref b] c b L xs ad cy D q → ∀ (cells slots : Nat) (i : Int32) (SX SM : aS) (o : Int64), Rel SX SM → (∀ k : Int32, k = 1 ∨ k = 2 ∨ k = 3 ∨ k = 4 ∨ k = 5 ∨ k = 6 → vp_in (i + k) L) → cells + mcR ≤ 601024 → slots + msR ≤ 7293034 → (∀ SM1 o1, Rel SX SM1 → lG p l e s m #[Value.ref b] below meth c b ad cy D q (lw_Z below #[Value.ref b] s) (cells + mcR) (slots + msR) 1066 i SX SM1 o1) → lG p l e s m #[Value.ref b] below meth c b ad cy D q (lw_Z below #[Value.ref b] s) cells slots 847 i SX SM o) :
    W p l e room_1 s m #[Value.ref b] below meth c s.heap [] 0 0 (lw_Z below #[Value.ref b] s) (entryFrame m ([Value.ref b] : List Value).toArray 7) := by
  obtain ⟨hx, hb, hr, hml, hown, hts, hX, hbl, hlocks, hgv⟩ := id C0
  have ht : ∀ w ∈ tables_1, w.before #[Value.ref b] s = true := fun w hw => hts w (List.mem_append_right _ hw)
  have htw : ∀ w ∈ aWS, w.before #[Value.ref b] s = true := fun w hw => hts w (List.mem_filter.mp hw).1
  have hfl : ∀ w ∈ fl, w.before #[Value.ref b] s = true := flat_of_before _ hgv
  obtain ⟨D, cy, hK⟩ := entK htw ht
  have hN := entN ht
  obtain ⟨hAO1, hAO2⟩ := entA ht
  have XF : CallFix p m c code 7 s #[Value.ref b] aWS (aCN 12) := ⟨hx, hb, hml, hown, htw⟩
  have hco0 := entI (args := #[Value.ref b]) hfl
  have hl := lv_entry ([.ref b]) (n := 7) (Nat.le_of_ble_eq_true rfl)
  rw [lg_entry_eq]
  generalize (lg_sl ([.ref b]) ++ List.replicate (7 - (lg_sl ([.ref b])).length) Slot.unset).toArray = B0 at hl ⊢
  have hl : lv_has B0 7 [(0, .ref b)] := hl
  refine l_make (ci := 10) (o := 0) (r := (RX12, TX12, 12)) (ad := adE #[Value.ref b] s) (ids := idX) (QQ := fun SX => (∀ i k, gr SX i k < 1000 ∨ 2000 ≤ gr SX i k) ∧ aWM dd 39 [.ref 1000] (sa S0M 1002 2 3) (fun v SM => v = .null ∧ Rel SX SM)) XF hN hK hAO1 hAO2 (by decide) rfl lkNX lkIX lkCX lkJX lkMX rfl (by decide +kernel) (by decide) (fun A ad hco => cX_init l hco h0) hco0 (fun A hA => entZ hfl ht hA) hl.1 (fun _ _ => rfl) (Nat.le_refl _) dL_0 dL_3 dL_4 (by decide) (by decide) (fun ad1 SX H1 locs1 hag1 hQ1 hlo1 hin1 hP1 hun1 hge1 hlocs1 => ?_)
  obtain ⟨hgr, hWM⟩ := hQ1
  refine lv_astore_n (lv' := [(1, .ref (ad1 0)), (0, .ref b)]) hx hb dL_7 rfl hl (by decide) rfl (fun B1 hl1 => ?_)
  refine va_forget (fun z hz => hlocs1 z hz) ?_
  have hco1 := hag1.co hco0
  refine l_make (ci := 11) (o := 1000) (r := (RX13, TX13, 63)) (ad := ad1) (ids := idM) (QQ := fun SM => Rel SX SM) XF hN hK hAO1 hAO2 (by decide) rfl lkNM lkIM lkCM lkJM lkMM rfl (by decide +kernel) (by decide) (fun A ad hco => cM_init l hco hWM) hco1 (fun A hA => aZX_ag hag1 (entZ hfl ht hA)) hl1.1 (fun z hz => hun1 z hz) hge1 dL_8 dL_11 dL_12 (by decide) (by decide) (fun ad2 SM H2 locs2 hag2 hrel hlo2 hin2 hP2 hun2 hge2 hlocs2 => ?_)
  have e0 : ad2 0 = ad1 0 := hag2 0 (Or.inl (by decide))
  rw [← e0] at hl1
  refine lv_astore_n (lv' := [(2, .ref (ad2 1000)), (1, .ref (ad2 0)), (0, .ref b)]) hx hb dL_15 rfl hl1 (by decide) rfl (fun B2 hl2 => ?_)
  refine va_forget (fun z hz => Nat.le_trans hge1 (hlocs2 z hz)) ?_
  refine lv_iconst (v := 1) hx hb dL_16 rfl ?_
  have hP0 : va_P D vwCl [] H2 := fun k q h => by simp at h
  have hD0 : va_D (fun z => H2.size ≤ z) [] := ⟨fun i j p q h => by simp at h, fun k q h => by simp at h⟩
  refine va_newa (atype := .long) (ty := .long) (D := D) (A := fun z => H2.size ≤ z) (H0 := H2) (ws := []) (a0 := (1, .inr (.inl fun _ => 0))) hx hb (htw _ aJ_in) rfl hK hP0 hD0 va_S.rf (fun _ h => h) (fun cA => rfl) (by decide) rfl (by decide) (by decide) (by decide) dL_17 (fun q cA H3 z0 z1 z2 z3 => ?_)
  have hcA := bCy (show 1 ≤ 5 by decide) hK z0
  subst hcA
  refine lv_astore_n (lv' := [(3, .ref q), (2, .ref (ad2 1000)), (1, .ref (ad2 0)), (0, .ref b)]) hx hb dL_19 rfl hl2 (by decide) rfl (fun B3 hl3 => ?_)
  refine lv_iconst (v := 0) hx hb dL_20 rfl ?_
  refine lv_istore (lv' := [(4, .int 0), (3, .ref q), (2, .ref (ad2 1000)), (1, .ref (ad2 0)), (0, .ref b)]) hx hb dL_21 hl3 (by decide) rfl (fun B4 hl4 => ?_)
  have hl5 : lv_has B4 7 [(0, .ref b), (1, .ref (ad2 0)), (2, .ref (ad2 1000)), (3, .ref q), (4, .int 0)] := lv_sub hl4 [4, 3, 2, 1, 0] rfl
  have hqlo : H2.size ≤ q := z2.2 0 _ rfl
  have hX12 : ∀ i ∈ idX, ad2 i = ad1 i := fun i hi => hag2 i (Or.inl (by have := idX_lt hi; omega))
  have hX1lt : ∀ i ∈ idX, ad1 i < H1.size := by
    intro i hi
    obtain ⟨k, h1, h2⟩ := aws_at (ad := ad1) (cy := cy) (S := SX) hi
    exact (hP1 k _ h2).lt
  have hM2lt : ∀ i ∈ idM, ad2 i < H2.size := by
    intro i hi
    obtain ⟨k, h1, h2⟩ := aws_at (ad := ad2) (cy := cy) (S := SM) hi
    exact (hP2 k _ h2).lt
  have hun3 : ∀ z : Nat, z < H2.size → H3[z]? = H2[z]? := fun z hz => z3.2.1 z hz (Nat.not_le.mpr hz)
  have hloX : ∀ i ∈ idX, s.heap.size ≤ ad2 i := fun i hi => by rw [hX12 i hi]; exact hlo1 i hi
  have hZ : lCx p s m #[Value.ref b] c b L xs ad2 cy D q := by
    refine ⟨XF, hN, hK, aZX_ag (lim := 0) (hag1.trans (hag2.le (Nat.zero_le _))) (entZ hfl ht ?_), ⟨?_, hin2, ?_, ?_, ?_⟩, ⟨hloX, ?_, ?_⟩, hag2.co hco1, hX, hbl⟩
    · rintro a ha ⟨i, hi, rfl⟩
      exact absurd ha (Nat.not_lt.mpr (hloX i hi))
    · intro i j hi hj h
      rw [hX12 i hi, hX12 j hj] at h
      exact hin1 i j hi hj h
    · intro i j hi hj h
      rw [hX12 i hi] at h
      have h1 := hX1lt i hi
      have h2 := hlo2 j hj
      omega
    · intro i hi h
      rw [hX12 i hi] at h
      have h1 := hX1lt i hi
      omega
    · intro i hi h
      have h1 := hM2lt i hi
      omega
    · intro i hi
      exact Nat.le_trans hge1 (hlo2 i hi)
    · exact Nat.le_trans hge1 (Nat.le_trans hge2 hqlo)
  have hLW : lW ad2 cy D q SX SM 0 H3 := by
    refine ⟨?_, va_P_kept hP2 (fun k x hx => hun3 x.1 (hP2 k x hx).lt), z1⟩
    rw [aws_ag hag2 hgr]
    exact va_P_kept (va_P_kept hP1 (fun k x hx => hun2 x.1 (hP1 k x hx).lt)) (fun k x hx => hun3 x.1 (Nat.lt_of_lt_of_le (hP1 k x hx).lt hge2))
  have hS3 : va_S (lA s) s.heap H3 [] := by
    refine ⟨Nat.le_trans hge1 (Nat.le_trans hge2 z3.1), fun z h1 _ => ?_, fun _ h => by cases h⟩
    rw [hun3 z (Nat.lt_of_lt_of_le h1 (Nat.le_trans hge1 hge2)), hun2 z (Nat.lt_of_lt_of_le h1 hge1)]
    exact hun1 z h1
  exact law_loop (mcR := mcR) (msR := msR) hL hr hlocks hZ OK (hR ad2 cy D q hZ) 512 0 194 11226 SX SM 0 (by omega) (Nat.zero_le _) hmc hms hrel B4 H3 [] hl5 hLW hS3
