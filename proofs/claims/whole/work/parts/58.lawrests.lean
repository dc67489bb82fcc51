/-! the law: rests -/
/-- rests on the side of the reference: what it answers, whether it says that it would throw -/
def ok_rests (Rel : aS → aS → Prop) : Prop := ∀ (a b n w : Int32) (SX SM : aS), Rel SX SM → aWM dd 98 [.ref 1000, .int a, .int b, .int n, .int w] SM (fun v SM1 => ∃ rv, v = .int rv ∧ aWM dd 0 [.ref 1000] SM1 (fun v2 SM2 => ((restP a b n w = none ∧ v2 = .int 1) ∨ (restP a b n w = some rv ∧ v2 = .int 0)) ∧ Rel SX SM2))
theorem lg_self (x : Int64) : lg_cmp x x = 0 := by
  unfold lg_cmp
  rw [if_neg Int64.lt_irrefl, if_pos rfl]
theorem lk_133 : Cond.methodLink (aCN 12) 133 (miM 98).1 ∈ aWS := aW_t 1859 (by decide +kernel) (by decide +kernel)
theorem lk_134 : Cond.methodLink (aCN 12) 134 (miM 0).1 ∈ aWS := aW_t 1447 (by decide +kernel) (by decide +kernel)
theorem lk_j0 : Cond.initialized yL_rests.cls ∈ aWS := aW_t 0 (by decide +kernel) (by decide +kernel)
theorem gd_lr : GoodIn aWS (va_wsS RL 128 yL_rests (Cond.codeWith yL_rests cL_rests 7 (some .int) [(0, 14, 17, 13)] :: aWS)) := aWS_goodIn (fun _ h => h) fun w hw => by
  rcases List.mem_cons.mp hw with z | hw
  · rw [z]; exact aR_h
  · rcases List.mem_cons.mp hw with z | hw
    · rw [z]; exact aR_t
    · rcases List.mem_cons.mp hw with z | hw
      · rw [z]; exact lk_j0
      · rcases List.mem_cons.mp hw with z | hw
        · rw [z]; exact aR_w
        · exact hw
theorem law_25 {p : Program} {l : Launch} {e : Env} {s : State} {m : MethodId} {args : Array Value} {below : List Frame} {meth : Method} {c : Code} {b L : Nat} {xs : Nat → Int32} {ad : Nat → Nat} {cy : Nat → ClassId} {D : va_G} {q : Nat} {Qs : State → Prop} {cells slots : Nat} {SX SM : aS} {o : Int64} {Rel : aS → aS → Prop} (hfl : l.flags = flags0) (Z : lCx p s m args c b L xs ad cy D q) (hkq : kR (fun z => z = q) s) (OKR : ok_rests Rel) (hrel : Rel SX SM) {i : Int32} (hv : ∀ k : Int32, k = 1 ∨ k = 2 ∨ k = 3 ∨ k = 4 ∨ k = 5 ∨ k = 6 → vp_in (i + k) L) (hce : cells + 1 ≤ 601024) (hsl : slots + 6 ≤ 7293034) (next : ∀ SM1 o1, Rel SX SM1 → lG p l e s m args below meth c b ad cy D q Qs (cells + 1) (slots + 6) 1066 i SX SM1 o1) : lG p l e s m args below meth c b ad cy D q Qs cells slots 847 i SX SM o := by
  obtain ⟨hx, hb, hml, hown, hts⟩ := Z.1
  have hK := Z.2.2.1
  have hX := Z.2.2.2.2.2.2.2.1
  have hbl := Z.2.2.2.2.2.2.2.2
  have hbA : ¬ lA s b := Nat.not_le.mpr hbl
  have hx0q : ad 0 ≠ q := Z.2.2.2.2.1.2.2.2.1 0 (by decide +kernel)
  have hqlo : s.heap.size ≤ q := Z.2.2.2.2.2.1.2.2
  intro B H locs hl hL hS
  have hL0 := hL
  obtain ⟨w1, w2, w3⟩ := hL
  obtain ⟨q0, g1, g2⟩ := aws_at (ad := ad) (cy := cy) (S := SX) (show 0 ∈ idX by decide +kernel)
  rw [ace_obj (c := 10) rfl rfl] at g2
  obtain ⟨cellX, x1, x2, x3⟩ := va_recv hK w1 (show vwCl[10]? = some (RX12, TX12, 12) from rfl) g2
  refine lv_aload_n hx hb dL_847 rfl (lv_at hl 1 rfl) ?_
  refine lv_aload_n hx hb dL_848 rfl (lv_at hl 0 rfl) ?_
  refine lv_iload hx hb dL_849 (lv_at hl 4 rfl) ?_
  refine lv_iconst (v := 1) hx hb dL_851 rfl ?_
  refine lv_iadd hx hb dL_852 ?_
  refine va_sld hx hb hX hbl hbA hS (hv 1 (by decide)) dL_853 ?_
  refine lv_aload_n hx hb dL_854 rfl (lv_at hl 0 rfl) ?_
  refine lv_iload hx hb dL_855 (lv_at hl 4 rfl) ?_
  refine lv_iconst (v := 2) hx hb dL_857 rfl ?_
  refine lv_iadd hx hb dL_858 ?_
  refine va_sld hx hb hX hbl hbA hS (hv 2 (by decide)) dL_859 ?_
  refine lv_aload_n hx hb dL_860 rfl (lv_at hl 0 rfl) ?_
  refine lv_iload hx hb dL_861 (lv_at hl 4 rfl) ?_
  refine lv_iconst (v := 3) hx hb dL_863 rfl ?_
  refine lv_iadd hx hb dL_864 ?_
  refine va_sld hx hb hX hbl hbA hS (hv 3 (by decide)) dL_865 ?_
  refine lv_aload_n hx hb dL_866 rfl (lv_at hl 0 rfl) ?_
  refine lv_iload hx hb dL_867 (lv_at hl 4 rfl) ?_
  refine lv_iconst (v := 4) hx hb dL_869 rfl ?_
  refine lv_iadd hx hb dL_870 ?_
  refine va_sld hx hb hX hbl hbA hS (hv 4 (by decide)) dL_871 ?_
  refine lv_aload_n hx hb dL_872 rfl (lv_at hl 3 rfl) ?_
  refine vx_calli (S := Int64) (post := fun k o1 => rEnd (xs (i + 1).toNatClampNeg) (xs (i + 2).toNatClampNeg) (xs (i + 3).toNatClampNeg) (xs (i + 4).toNatClampNeg) k o o1) (B := fun o1 t => va_P D vwCl [(q, .inl (cy 1, 1, .inr (.inl fun _ => o1)))] t.heap) (SX := Unit) (px := fun _ => False) (BX := fun _ _ _ => True) (A0 := lA s) (H0 := s.heap) (A1 := fun z => z = q) (AX := fun _ => False) (free := fun z => z = q) (vx_runSX (hh := [(0, 14, 17, 13)]) (As := [.ref (ad 0), .int (xs (i + 1).toNatClampNeg), .int (xs (i + 2).toNatClampNeg), .int (xs (i + 3).toNatClampNeg), .int (xs (i + 4).toNatClampNeg), .ref q]) (rest := []) (Ts := aWS) Z.1 (c_lrests l hfl (cy := cy) (D := D) (x := ad 0) (q := q) (o := o)) (vx_cwSW 6 hts gd_lr rfl rfl rfl ⟨by decide, by decide, by decide +kernel⟩ ⟨Nat.le_of_ble_eq_true rfl, Nat.le_of_ble_eq_true rfl⟩) ⟨lrP_blind, fun U hU hW => ⟨rfl, kR_warm (H := H) (locs := []) hW ⟨hS.1, fun z h1 _ => hS.2.1 z h1 (Nat.not_le.mpr h1), fun _ h => by cases h⟩ hU hkq, ⟨cellX, by rw [hU]; exact x1, x2, by rw [hW.alike.findClass]; exact x3⟩, by rw [hU]; exact w3, va_K.moved hW.alike hK, hx0q⟩⟩ rfl rfl hl.1 rfl (Nat.zero_le _) dL_873 ⟨hce, hsl⟩) hS (fun z _ h => by rw [h]; exact hqlo) (fun z h => by rw [h]; exact hqlo) (fun _ _ h => h.elim) (fun E ce q9 u t H1 locs1 e1 e2 hpx hBX e3 e4 hS1 hce hcv hcl => hpx.elim) (fun k o1 t H1 locs1 e1 e2 hpost hB1 e3 e4 hS1 => ?_)
  have hL1 : lW ad cy D q SX SM o1 H1 := by
    refine ⟨va_P_kept w1 (fun k x hx => ?_), va_P_kept w2 (fun k x hx => ?_), by rw [← e1]; exact hB1⟩
    · obtain ⟨j, hj, ej⟩ := aws_addr hx
      exact e4 x.1 (w1 k x hx).lt (by rw [ej]; exact Z.2.2.2.2.1.2.2.2.1 j hj)
    · obtain ⟨j, hj, ej⟩ := aws_addr hx
      exact e4 x.1 (w2 k x hx).lt (by rw [ej]; exact Z.2.2.2.2.1.2.2.2.2 j hj)
  refine lv_istore (lv' := [(5, .int k), (0, .ref b), (1, .ref (ad 0)), (2, .ref (ad 1000)), (3, .ref q), (4, .int i)]) hx hb dL_876 hl (by decide) rfl (fun B1 hl1 => ?_)
  refine lv_aload_n hx hb dL_878 rfl (lv_at hl1 3 rfl) ?_
  refine lv_aload_n hx hb dL_879 rfl (lv_at hl1 1 rfl) ?_
  refine lv_iload hx hb dL_880 (lv_at hl1 5 rfl) ?_
  refine lv_iconst (v := 1) hx hb dL_882 rfl ?_
  refine lv_iadd hx hb dL_883 ?_
  refine va_sld hx hb hX hbl hbA hS1 (hv 1 (by decide)) dL_884 ?_
  refine lv_aload_n hx hb dL_885 rfl (lv_at hl1 1 rfl) ?_
  refine lv_iload hx hb dL_886 (lv_at hl1 5 rfl) ?_
  refine lv_iconst (v := 2) hx hb dL_888 rfl ?_
  refine lv_iadd hx hb dL_889 ?_
  refine va_sld hx hb hX hbl hbA hS1 (hv 2 (by decide)) dL_890 ?_
  refine lv_aload_n hx hb dL_891 rfl (lv_at hl1 1 rfl) ?_
  refine lv_iload hx hb dL_892 (lv_at hl1 5 rfl) ?_
  refine lv_iconst (v := 3) hx hb dL_894 rfl ?_
  refine lv_iadd hx hb dL_895 ?_
  refine va_sld hx hb hX hbl hbA hS1 (hv 3 (by decide)) dL_896 ?_
  refine lv_aload_n hx hb dL_897 rfl (lv_at hl1 1 rfl) ?_
  refine lv_iload hx hb dL_898 (lv_at hl1 5 rfl) ?_
  refine lv_iconst (v := 4) hx hb dL_900 rfl ?_
  refine lv_iadd hx hb dL_901 ?_
  refine va_sld hx hb hX hbl hbA hS1 (hv 4 (by decide)) dL_902 ?_
  refine lM (j := 98) (i := 133) (As := [.int (xs (i + 1).toNatClampNeg), .int (xs (i + 2).toNatClampNeg), .int (xs (i + 3).toNatClampNeg), .int (xs (i + 4).toNatClampNeg)]) (rest := []) Z (by decide) rfl lk_133 rfl (OKR _ _ _ _ SX SM hrel) dL_903 (Nat.zero_le _) hce hsl hl1.1 hL1 hS1 (fun v SM1 H2 locs2 hq2 hL2 hS2 => ?_)
  obtain ⟨rv, rfl, hq2⟩ := hq2
  show W p l e room_1 s m args below meth c H2 locs2 (cells + 1) (slots + 6) Qs (F0 m 906 B1 [.int rv])
  refine lv_istore (lv' := [(6, .int rv), (5, .int k), (0, .ref b), (1, .ref (ad 0)), (2, .ref (ad 1000)), (3, .ref q), (4, .int i)]) hx hb dL_906 hl1 (by decide) rfl (fun B2 hl2 => ?_)
  refine lv_aload_n hx hb dL_908 rfl (lv_at hl2 4 rfl) ?_
  refine lM (j := 0) (i := 134) (As := []) (rest := []) Z (by decide) rfl lk_134 rfl hq2 dL_909 (Nat.zero_le _) hce hsl hl2.1 hL2 hS2 (fun v SM2 H3 locs3 hq3 hL3 hS3 => ?_)
  obtain ⟨hq3, hrel3⟩ := hq3
  have hl4 : lv_has B2 7 [(0, .ref b), (1, .ref (ad 0)), (2, .ref (ad 1000)), (3, .ref q), (4, .int i)] := lv_sub hl2 [2, 3, 4, 5, 6] rfl
  have fin : W p l e room_1 s m args below meth c H3 locs3 (cells + 1) (slots + 6) Qs (F0 m 936 B2 []) := by
    refine lv_goto (tgt := 1066) hx hb dL_936 rfl ?_
    exact next SM2 o1 hrel3 B2 H3 locs3 hl4 hL3 hS3
  rcases hq3 with ⟨hn, rfl⟩ | ⟨hs, rfl⟩
  · rcases hpost with ⟨-, hk, ho⟩ | ⟨r, hr, -⟩
    · subst hk
      show W p l e room_1 s m args below meth c H3 locs3 (cells + 1) (slots + 6) Qs (F0 m 912 B2 [.int 1])
      refine lv_iload hx hb dL_912 (lv_at hl2 1 rfl) ?_
      refine lv_icmp_eq (tgt := 919) hx hb dL_914 rfl (fun _ => ?_) (fun z => absurd rfl z)
      refine lv_iload hx hb dL_919 (lv_at hl2 1 rfl) ?_
      exact lv_if_ne (tgt := 936) hx hb dL_921 rfl (fun _ => fin) (fun z => absurd z (by decide))
    · rw [hn] at hr; cases hr
  · rcases hpost with ⟨hn, -⟩ | ⟨r, hr, hk, ho⟩
    · rw [hn] at hs; cases hs
    · subst hk
      rw [hr] at hs
      cases hs
      show W p l e room_1 s m args below meth c H3 locs3 (cells + 1) (slots + 6) Qs (F0 m 912 B2 [.int 0])
      refine lv_iload hx hb dL_912 (lv_at hl2 1 rfl) ?_
      refine lv_icmp_eq (tgt := 919) hx hb dL_914 rfl (fun _ => ?_) (fun z => absurd rfl z)
      refine lv_iload hx hb dL_919 (lv_at hl2 1 rfl) ?_
      refine lv_if_ne (tgt := 936) hx hb dL_921 rfl (fun z => absurd rfl z) (fun _ => ?_)
      refine lv_aload_n hx hb dL_924 rfl (lv_at hl2 5 rfl) ?_
      refine lv_iconst (v := 0) hx hb dL_925 rfl ?_
      refine va_lald (D := D) hx hb hK hL3.2.2 0 1 rfl rfl (by show ¬ ((0 : Int32) < 0 ∨ 1 ≤ (0 : Int32).toNatClampNeg); decide) dL_926 ?_
      refine lv_iload hx hb dL_927 (lv_at hl2 0 rfl) ?_
      refine lv_i2l hx hb dL_929 rfl ?_
      subst ho
      refine W.lcmp hx hb dL_930 ?_
      refine lv_if_eq (tgt := 936) hx hb dL_931 rfl (fun _ => fin) (fun z => absurd (lg_self _) z)
