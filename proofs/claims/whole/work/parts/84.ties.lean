/-! ties: count, read; bits -/
theorem nI_orN (a b : Nat) : nI a ||| nI b = nI (a ||| b) := by
  apply Int32.toBitVec_inj.mp
  show BitVec.ofNat 32 a ||| BitVec.ofNat 32 b = BitVec.ofNat 32 (a ||| b)
  exact BitVec.ofNat_or.symm
theorem nI_andN (a b : Nat) : nI a &&& nI b = nI (a &&& b) := by
  apply Int32.toBitVec_inj.mp
  show BitVec.ofNat 32 a &&& BitVec.ofNat 32 b = BitVec.ofNat 32 (a &&& b)
  exact BitVec.ofNat_and.symm
theorem smod12 : ∀ w, w < 31 → ((nI w &&& 31).toBitVec.smod 32).toNat = w ∧ (1 : Int32) <<< (nI w &&& 31) = nI (2 ^ w) := by decide +kernel
theorem bitAt {b w : Nat} (hb : b < 2 ^ 31) (hw : w < 31) : (nI b >>> (nI w &&& 31)) &&& 1 = if b.testBit w = true then 1 else 0 := by
  rw [pk_shrN hb _ w (smod12 w hw).1, pk_andN (by have := Nat.div_le_self b (2 ^ w); omega) 1 (by decide), Nat.testBit_eq_decide_div_mod_eq]
  have h := Nat.mod_two_eq_zero_or_one (b / 2 ^ w)
  rcases h with h | h
  · rw [show b / 2 ^ w % 2 ^ 1 = 0 from h]
    rfl
  · rw [show b / 2 ^ w % 2 ^ 1 = 1 from h]
    rfl
def lkA (x : Int32) : List (Int32 × Nat) → Option Nat
  | [] => none
  | (c, t) :: r => if x = c then some t else lkA x r
theorem asw_hit {x : Int32} {d t : Nat} {k : Nat → Prop} : ∀ l, lkA x l = some t → k t → asw x d k l
  | [], h, _ => by cases h
  | (c, t') :: r, h, hk => by
    unfold lkA at h
    by_cases e : x = c
    · rw [if_pos e] at h
      cases h
      exact ⟨fun _ => hk, fun q => absurd e q⟩
    · rw [if_neg e] at h
      exact ⟨fun q => absurd q e, fun _ => asw_hit r h hk⟩
theorem asw_mis {x : Int32} {d : Nat} {k : Nat → Prop} : ∀ l, lkA x l = none → k d → asw x d k l
  | [], _, hk => hk
  | (c, t') :: r, h, hk => by
    unfold lkA at h
    by_cases e : x = c
    · rw [if_pos e] at h
      cases h
    · rw [if_neg e] at h
      exact ⟨fun q => absurd q e, fun _ => asw_mis r h hk⟩
theorem lkA_none {x : Int32} : ∀ l : List (Int32 × Nat), (∀ p, p ∈ l → ¬ x = p.1) → lkA x l = none
  | [], _ => rfl
  | (c, t) :: r, h => by
    unfold lkA
    rw [if_neg (h (c, t) (List.mem_cons_self))]
    exact lkA_none r (fun p hp => h p (List.mem_cons_of_mem _ hp))
theorem lkA_out {x : Int32} {n : Nat} {l : List (Int32 × Nat)} (hn : n < 2 ^ 31) (hl : ∀ p, p ∈ l → ∃ j, j < n ∧ p.1 = nI j) (hx : x < 0 ∨ nI n ≤ x) : lkA x l = none := lkA_none l (fun p hp q => by
  obtain ⟨j, hj, e⟩ := hl p hp
  rw [q, e] at hx
  exact hx.elim (nI_pos (by omega)) (nI_ge hj hn))
def cntV (g : zG) (j : Nat) : Int32 := match j with
  | 0 => nI (rWr g.1)
  | 1 => nI (rWd g.1)
  | 2 => nI (rFo g.1)
  | 3 => nI (zSe g.2.1.1)
  | 4 => nI (zWr g.2.1.1)
  | 5 => pWho g.1 (nI (zSe g.2.1.1)) (nI (zWr g.2.1.1))
  | 6 => nI (zSp g.2.1.1)
  | 7 => zGo g.2.1.1
  | 8 => pSum (fun w => nI (zLe g.2.1.1 w)) (rWd g.1)
  | 9 => nI (rPa g.1)
  | 10 => nI g.2.1.2.1.length
  | 11 => nI g.2.1.2.2.length
  | 12 => nI g.2.2.1.length
  | 13 => nI g.2.2.2.2.length
  | _ => -1
theorem hsX.len {r : zR} {hs : List zS} {S : aS} (h : hsX r hs S) : gi S 47 2 = nI hs.length := by
  obtain ⟨fi, g0, g1, g2, g3, g4⟩ := h
  exact g2
theorem tie_count : ok_count Rel := by
  intro x
  rcases pk_ix x (n := 14) (by decide) with c | c | ⟨j, hj, rfl⟩
  · refine tie_q (fun g t ok hT => ⟨-1, fun S Q h hx => ?_, fun S Q h hx => ?_⟩)
    · exact mX_FoldedRealm_count (d := 99) (asw_mis _ (lkA_out (n := 14) (by decide) (by decide) (Or.inl c)) (bX_FoldedRealm_count_63 (hx S frY.rf)))
    · refine mM_count (d := 99) (wM_within (d := 98) ?_)
      rw [if_neg (fun q => absurd c (Int32.not_lt.mpr q.1))]
      exact ⟨fun q => absurd rfl q, fun _ => hx _ frM_0 (fun _ _ => rfl)⟩
  · refine tie_q (fun g t ok hT => ⟨-1, fun S Q h hx => ?_, fun S Q h hx => ?_⟩)
    · exact mX_FoldedRealm_count (d := 99) (asw_mis _ (lkA_out (n := 14) (by decide) (by decide) (Or.inr c)) (bX_FoldedRealm_count_63 (hx S frY.rf)))
    · refine mM_count (d := 99) (wM_within (d := 98) ?_)
      rw [if_neg (fun q => absurd (Int32.le_trans c q.2) (by decide))]
      exact ⟨fun q => absurd rfl q, fun _ => hx _ frM_0 (fun _ _ => rfl)⟩
  · refine tie_q (fun g t ok hT => ⟨cntV g j, fun S Q h hx => ?_, fun S Q h hx => ?_⟩)
    · have hx := hx S frY.rf
      have e2 := h.1.2.1
      have hk := hT.re.1
      refine mX_FoldedRealm_count (d := 99) ?_
      obtain ⟨h1, h2, h3, h4, h5⟩ := h.2
      obtain ⟨s1, s2, s3, s4, -⟩ := h2.1
      match j, hj with
      | 0, _ => exact asw_hit (t := 6) _ (by decide) (bX_FoldedRealm_count_6 (by rw [e2, h1.1.1]; exact gK_ok hk hx))
      | 1, _ => exact asw_hit (t := 10) _ (by decide) (bX_FoldedRealm_count_10 (by rw [e2, h1.1.2.1]; exact gK_ok hk hx))
      | 2, _ => exact asw_hit (t := 14) _ (by decide) (bX_FoldedRealm_count_14 (by rw [e2, h1.1.2.2.1]; exact gK_ok hk hx))
      | 3, _ => exact asw_hit (t := 18) _ (by decide) (bX_FoldedRealm_count_18 (gK_ok rfl (by rw [s1]; exact hx)))
      | 4, _ => exact asw_hit (t := 21) _ (by decide) (bX_FoldedRealm_count_21 (gK_ok rfl (by rw [s2]; exact hx)))
      | 5, _ => exact asw_hit (t := 24) _ (by decide) (bX_FoldedRealm_count_24 (gK_ok rfl (gK_ok rfl (by rw [s1, s2, e2]; exact wX_writerAt (d := 98) ok.1 hT.re h1.1 hx))))
      | 6, _ => exact asw_hit (t := 32) _ (by decide) (bX_FoldedRealm_count_32 (gK_ok rfl (by rw [s4]; exact hx)))
      | 7, _ => exact asw_hit (t := 35) _ (by decide) (bX_FoldedRealm_count_35 (gK_ok rfl (by rw [s3]; exact hx)))
      | 8, _ => exact asw_hit (t := 38) _ (by decide) (bX_FoldedRealm_count_38 (by rw [e2]; exact wX_leftTogether (d := 97) ok.1 ok.2.2.1.1 stG_41.1 h2.1 hT.re h1.1 hx))
      | 9, _ => exact asw_hit (t := 43) _ (by decide) (bX_FoldedRealm_count_43 (by rw [e2, h1.1.2.2.2.1]; exact gK_ok hk hx))
      | 10, _ => exact asw_hit (t := 47) _ (by decide) (bX_FoldedRealm_count_47 (by rw [h2.2.1.1]; exact hx))
      | 11, _ => exact asw_hit (t := 51) _ (by decide) (bX_FoldedRealm_count_51 (by rw [h2.2.2.1]; exact hx))
      | 12, _ => exact asw_hit (t := 55) _ (by decide) (bX_FoldedRealm_count_55 (by rw [h3.len]; exact hx))
      | 13, _ => exact asw_hit (t := 59) _ (by decide) (bX_FoldedRealm_count_59 (by rw [h5.1]; exact hx))
      | n + 14, q => exact absurd q (by omega)
    · have hx := hx _ frM_0 (fun _ _ => rfl)
      refine mM_count (d := 99) (wM_within (d := 98) ?_)
      have h' := MM_0 ok h
      generalize si S 1000 0 0 = S1 at *
      obtain ⟨h1, ⟨⟨s1, s2, s3, s4, s5⟩, h3, h4⟩, h5, h6, h7⟩ := h'
      rw [if_pos ⟨nI_pos' (by omega), nI_le (a := j) (b := 13) (by omega) (by decide)⟩]
      refine ⟨fun _ => ?_, fun q => absurd q (by decide)⟩
      match j, hj with
      | 0, _ => exact ⟨fun q => absurd q (by decide), fun _ => ⟨vin (by decide), by rw [show (nI 0).toNatClampNeg = 0 by decide, h1.1.1]; exact hx⟩⟩
      | 1, _ => exact ⟨fun q => absurd q (by decide), fun _ => ⟨vin (by decide), by rw [show (nI 1).toNatClampNeg = 1 by decide, h1.1.2.1]; exact hx⟩⟩
      | 2, _ => exact ⟨fun q => absurd q (by decide), fun _ => ⟨vin (by decide), by rw [show (nI 2).toNatClampNeg = 2 by decide, h1.1.2.2.1]; exact hx⟩⟩
      | 3, _ => exact ⟨fun _ => ⟨fun q => absurd q (by decide), fun _ => ⟨fun q => absurd rfl q, fun _ => ⟨vin (by decide), by rw [c0, show ga S1 1032 0 = _ from s1]; exact hx⟩⟩⟩, fun q => absurd (by decide) q⟩
      | 4, _ => exact ⟨fun _ => ⟨fun q => absurd q (by decide), fun _ => ⟨fun _ => ⟨fun q => absurd rfl q, fun _ => ⟨vin (by decide), by rw [c1, show ga S1 1032 1 = _ from s2]; exact hx⟩⟩, fun q => absurd q (by decide)⟩⟩, fun q => absurd (by decide) q⟩
      | 5, _ => exact ⟨fun _ => ⟨fun q => absurd q (by decide), fun _ => ⟨fun _ => ⟨fun _ => ⟨vin (by decide), vin (by decide), by rw [c0, c1, show ga S1 1032 0 = _ from s1, show ga S1 1032 1 = _ from s2]; exact wM_writerOf (d := 98) ok.1 h1.1 hx⟩, fun q => absurd q (by decide)⟩, fun q => absurd q (by decide)⟩⟩, fun q => absurd (by decide) q⟩
      | 6, _ => exact ⟨fun _ => ⟨fun _ => ⟨fun q => absurd q (by decide), fun _ => ⟨fun q => absurd rfl q, fun _ => ⟨vin (by decide), by rw [c3, show ga S1 1032 3 = _ from s4]; exact hx⟩⟩⟩, fun q => absurd (by decide) q⟩, fun q => absurd (by decide) q⟩
      | 7, _ => exact ⟨fun _ => ⟨fun _ => ⟨fun q => absurd q (by decide), fun _ => ⟨fun _ => ⟨fun q => absurd rfl q, fun _ => ⟨vin (by decide), by rw [c2, show ga S1 1032 2 = _ from s3]; exact hx⟩⟩, fun q => absurd q (by decide)⟩⟩, fun q => absurd (by decide) q⟩, fun q => absurd (by decide) q⟩
      | 8, _ => exact ⟨fun _ => ⟨fun _ => ⟨fun q => absurd q (by decide), fun _ => ⟨fun _ => ⟨fun _ => wM_allLeft (d := 98) ok.1 ok.2.2.1.1 h1.1 ⟨s1, s2, s3, s4, s5⟩ hx, fun q => absurd q (by decide)⟩, fun q => absurd q (by decide)⟩⟩, fun q => absurd (by decide) q⟩, fun q => absurd (by decide) q⟩
      | 9, _ => exact ⟨fun _ => ⟨fun _ => ⟨fun _ => ⟨fun q => absurd q (by decide), fun _ => ⟨fun q => absurd rfl q, fun _ => ⟨vin (by decide), by rw [c3, h1.1.2.2.2.1]; exact hx⟩⟩⟩, fun q => absurd (by decide) q⟩, fun q => absurd (by decide) q⟩, fun q => absurd (by decide) q⟩
      | 10, _ => exact ⟨fun _ => ⟨fun _ => ⟨fun _ => ⟨fun q => absurd q (by decide), fun _ => ⟨fun _ => ⟨fun q => absurd rfl q, fun _ => ⟨vin (by decide), by rw [c0, h3.1]; exact hx⟩⟩, fun q => absurd q (by decide)⟩⟩, fun q => absurd (by decide) q⟩, fun q => absurd (by decide) q⟩, fun q => absurd (by decide) q⟩
      | 11, _ => exact ⟨fun _ => ⟨fun _ => ⟨fun _ => ⟨fun q => absurd q (by decide), fun _ => ⟨fun _ => ⟨fun _ => ⟨vin (by decide), by rw [c0, h4.1]; exact hx⟩, fun q => absurd q (by decide)⟩, fun q => absurd q (by decide)⟩⟩, fun q => absurd (by decide) q⟩, fun q => absurd (by decide) q⟩, fun q => absurd (by decide) q⟩
      | 12, _ => exact ⟨fun _ => ⟨fun _ => ⟨fun _ => ⟨fun _ => ⟨fun q => absurd rfl q, fun _ => by rw [h5.1]; exact hx⟩, fun q => absurd (by decide) q⟩, fun q => absurd (by decide) q⟩, fun q => absurd (by decide) q⟩, fun q => absurd (by decide) q⟩
      | 13, _ => exact ⟨fun _ => ⟨fun _ => ⟨fun _ => ⟨fun _ => ⟨fun _ => by rw [h7.1]; exact hx, fun q => absurd q (by decide)⟩, fun q => absurd (by decide) q⟩, fun q => absurd (by decide) q⟩, fun q => absurd (by decide) q⟩, fun q => absurd (by decide) q⟩
      | n + 14, q => exact absurd q (by omega)
/-- a word read -/
def pRead (g : zG) (x : Int32) : Option Nat := ((idx (rWd g.1) x).filter fun w => decide (rFd g.1 w < rFo g.1)).filter fun _ => decide (g.2.1.2.2.length < 8)
def readG (g : zG) (w : Nat) : zG := (g.1, (g.2.1.1, g.2.1.2.1, g.2.1.2.2 ++ [w]), g.2.2)
theorem rdB_add {rd : List Nat} {b w : Nat} (h : rdB rd b) (hw : w < 12) : rdB (rd ++ [w]) (b ||| 2 ^ w) := by
  refine ⟨Nat.or_lt_two_pow (n := 12) h.1 (Nat.pow_lt_pow_right (by decide) hw), fun v => ?_⟩
  rw [Nat.testBit_or, h.2 v, Nat.testBit_two_pow]
  by_cases c : v ∈ rd
  · simp [c]
  · by_cases e : w = v
    · subst e; simp
    · have e2 : ¬ v = w := fun q => e q.symm
      simp [c, e, e2]
theorem tie_read : ok_read Rel := by
  rintro x SX SM ⟨g, t, ok, hX, hM⟩
  have hwd := ok.1.2.1
  have hfo := ok.1.2.2.1.2
  obtain ⟨okr, okn, ⟨okz, okl, okd⟩, okt⟩ := id ok
  have hM0 := MM_0 ok hM
  -- the reference, where nothing is read
  have mno : pRead g x = none → aWM dd 89 (.ref 1000 :: [.int x]) SM (fun v SM1 => v = .int 0 ∧ Rel SX SM1) := by
    intro hn
    have fin : Rel SX (si SM 1000 0 0) := ⟨g, t, ok, hX, hM0⟩
    refine mM_read (d := 99) (wM_isTold (d := 98) okr hM0.1.1 ?_)
    unfold pRead at hn
    rcases idx_cases (rWd g.1) (by omega) x with ⟨e, -⟩ | ⟨w, hw, rfl, e⟩
    · rw [e]
      exact ⟨fun _ => ⟨Or.inl rfl, rfl, fin⟩, fun q => absurd rfl q⟩
    · rw [e] at hn ⊢
      have hf3 := (okr.2.2.2.2.2.1 w hw).1
      refine ⟨fun q => absurd q bI_some, fun _ => ⟨nI_in (by omega) (by decide), vin (by decide), ?_⟩⟩
      rw [c2, nI_clamp (by omega), hM0.1.1.2.2.1, hM0.1.1.2.2.2.2.2.1 w hw, nI_leI (by omega) (by omega), c0, hM0.2.1.2.2.1]
      refine ⟨fun _ => ⟨Or.inl rfl, rfl, fin⟩, fun c => ⟨vin (by decide), fun c8 => ?_, fun _ => ⟨Or.inl rfl, rfl, fin⟩⟩⟩
      exfalso
      have h8 : g.2.1.2.2.length < 8 := by
        have := okd.1
        rcases Nat.lt_or_ge g.2.1.2.2.length 8 with q | q
        · exact q
        · exact absurd (by rw [show g.2.1.2.2.length = 8 by omega]; rfl) c8
      rw [Option.filter_some, decide_eq_true (show rFd g.1 w < rFo g.1 by omega), if_pos rfl, Option.filter_some, decide_eq_true h8, if_pos rfl] at hn
      cases hn
  refine mX_FoldedRealm_read (d := 99) ?_
  rw [hX.1.2.1]
  refine wX_isWritten (d := 97) okr hX.1.1.re hX.2.1.1 ?_
  unfold pRead at mno
  cases hq : (idx (rWd g.1) x).filter (fun w => decide (rFd g.1 w < rFo g.1)) with
  | none =>
    rw [hq] at mno
    exact ⟨fun _ => ⟨Or.inl rfl, 0, rfl, mno rfl⟩, fun q => absurd rfl q⟩
  | some w =>
    rw [hq] at mno
    obtain ⟨hw, hfw, rfl⟩ : w < rWd g.1 ∧ rFd g.1 w < rFo g.1 ∧ x = nI w := by
      rcases idx_cases (rWd g.1) (by omega) x with ⟨e, -⟩ | ⟨v, hv, rfl, e⟩
      · rw [e] at hq; cases hq
      · rw [e, Option.filter_some] at hq
        by_cases c : rFd g.1 v < rFo g.1
        · rw [decide_eq_true c, if_pos rfl] at hq
          cases hq
          exact ⟨hv, c, rfl⟩
        · rw [decide_eq_false c, if_neg (by decide)] at hq
          cases hq
    refine ⟨fun q => absurd q bI_some, fun _ => ?_⟩
    have e4 : gi SX 40 4 = nI g.2.1.2.2.length := hX.2.2.1.2.2.1
    rw [e4, show (8 : Int32) = nI 8 from rfl, nI_ltI (by have := okd.1; omega) (by decide)]
    refine ⟨fun c => ⟨Or.inr rfl, 1, rfl, ?_⟩, fun c => ⟨Or.inl rfl, 0, rfl, mno (by rw [Option.filter_some, decide_eq_false c, if_neg (by decide)])⟩⟩
    obtain ⟨b, hb, e3⟩ := hX.2.2.1.2.2.2
    have hf3 := (okr.2.2.2.2.2.1 w hw).1
    refine mM_read (d := 99) (wM_isTold (d := 98) okr hM0.1.1 ?_)
    rw [idx_some (by omega) hw]
    refine ⟨fun q => absurd q bI_some, fun _ => ⟨nI_in (by omega) (by decide), vin (by decide), ?_⟩⟩
    have e30 : ga (si SM 1000 0 0) 1030 0 = nI g.2.1.2.2.length := hM0.2.1.2.2.1
    rw [c2, nI_clamp (show w < 2 ^ 31 by omega), hM0.1.1.2.2.1, hM0.1.1.2.2.2.2.2.1 w hw, nI_leI (by omega) (by omega), c0, e30, nI_clamp (show g.2.1.2.2.length < 2 ^ 31 by omega), ga_sa, if_neg (fun q => absurd q.1 (by decide)), e30, nI_1]
    refine ⟨fun q => absurd q (by omega), fun _ => ⟨vin (by decide), fun _ => ⟨vin (by decide), nI_in (by omega) (by decide), vin (by decide), vin (by decide), Or.inr rfl, rfl, readG g w, t, ⟨okr, okn, ⟨okz, okl, ?_⟩, okt⟩, ?_, ?_⟩, fun q => ?_⟩⟩
    · refine ⟨by show (g.2.1.2.2 ++ [w]).length ≤ 8; rw [List.length_append]; show _ + 1 ≤ 8; omega, fun v hv => ?_⟩
      rcases List.mem_append.mp hv with q | q
      · exact okd.2 v q
      · rw [List.mem_singleton.mp q]; exact ⟨hw, hfw⟩
    · obtain ⟨⟨hT, q2, q3⟩, k1, k2, k3, k4, k5⟩ := hX
      have hf : frY (fun i => i = 40) SX (si (si SX 40 3 (gi SX 40 3 ||| 1 <<< (nI w &&& 31))) 40 4 (gi (si SX 40 3 (gi SX 40 3 ||| 1 <<< (nI w &&& 31))) 40 4 + 1)) := (frY_si (C := fun i => i = 40) rfl).tr (frY_si (C := fun i => i = 40) rfl)
      refine ⟨⟨hT, q2, q3⟩, k1.kept hT hf (fun i hi => ?_), ⟨k2.1.keptY hf (fun i hi => ?_), ⟨?_, k2.2.1.2⟩, ?_, b ||| 2 ^ w, rdB_add hb (by omega), ?_⟩, k3.keptY hf (fun i hi => ?_), k4.kept hf (fun i a b => ?_), k5.kept hf (by decide) (by decide)⟩
      · unfold rcX at hi
        rcases hT with rfl | rfl <;> omega
      · have := stC_41.mp hi
        omega
      · rw [gi_si, if_neg (by decide), gi_si, if_neg (by decide)]
        exact k2.2.1.1
      · rw [gi_si, if_pos ⟨rfl, rfl⟩, gi_si, if_neg (by decide), e4, nI_1]
        show _ = nI (g.2.1.2.2 ++ [w]).length
        rw [List.length_append]
        rfl
      · rw [gi_si, if_neg (by decide), gi_si, if_pos ⟨rfl, rfl⟩, e3, (smod12 w (by omega)).2, nI_orN]
      · unfold hC at hi
        omega
      · omega
    · obtain ⟨k1, ⟨k2, k3, k4⟩, k5, k6, k7⟩ := hM0
      have hf : frM (fun i => i = 1030 ∨ i = 1031) nF (si SM 1000 0 0) (sa (sa (si SM 1000 0 0) 1031 g.2.1.2.2.length (nI w)) 1030 0 (nI (g.2.1.2.2.length + 1))) := (frM_sa (Or.inr rfl)).tr (frM_sa (Or.inl rfl))
      generalize si SM 1000 0 0 = S1 at *
      have l8 : g.2.1.2.2.length < 8 := c
      have ek : ∀ i, i ≠ 1030 → i ≠ 1031 → ∀ k, ga (sa (sa S1 1031 g.2.1.2.2.length (nI w)) 1030 0 (nI (g.2.1.2.2.length + 1))) i k = ga S1 i k := fun i h1 h2 k => hf.1 i k (by omega)
      refine ⟨k1.kept hf (fun i hi => by omega), ⟨k2, ⟨(ek 1027 (by decide) (by decide) _).trans k3.1, fun k l hk => ⟨(ek 1028 (by decide) (by decide) _).trans (k3.2 k l hk).1, fun q => (ek 1029 (by decide) (by decide) _).trans ((k3.2 k l hk).2 q)⟩⟩, ?_, fun k v hk => ?_⟩, k5.kept hf (by omega) (fun q => q), fun j hj => ?_, ⟨k7.1, fun k c hk => (ek 1001 (by decide) (by decide) _).trans (k7.2 k c hk)⟩⟩
      · rw [ga_sa, if_pos ⟨rfl, rfl⟩]
        show _ = nI (g.2.1.2.2 ++ [w]).length
        rw [List.length_append]
        rfl
      · have hk : (g.2.1.2.2 ++ [w])[k]? = some v := hk
        rw [ga_sa, if_neg (by omega), ga_sa]
        rcases Nat.lt_trichotomy k g.2.1.2.2.length with q | q | q
        · rw [List.getElem?_append_left q] at hk
          rw [if_neg (by omega)]
          exact k4.2 k v hk
        · rw [List.getElem?_append_right (by omega), q, Nat.sub_self] at hk
          cases hk
          rw [if_pos ⟨rfl, by omega⟩]
        · rw [List.getElem?_eq_none (by rw [List.length_append]; show g.2.1.2.2.length + 1 ≤ k; omega)] at hk
          cases hk
      · have hm := k6 j hj
        show mk1M g.1 _ j (g.2.2.2.1 j)
        cases e : g.2.2.2.1 j with
        | none =>
          rw [e] at hm
          exact (ek 1036 (by decide) (by decide) _).trans hm
        | some p =>
          rw [e] at hm
          obtain ⟨b1, b2, b3, b4⟩ := hm
          refine ⟨(ek 1036 (by decide) (by decide) _).trans b1, ?_, ⟨(ek 1027 (by decide) (by decide) _).trans b3.1, fun k l hk => ⟨(ek 1028 (by decide) (by decide) _).trans (b3.2 k l hk).1, fun q => (ek 1029 (by decide) (by decide) _).trans ((b3.2 k l hk).2 q)⟩⟩, ?_, fun k v hk => ?_⟩
          · rw [show ga (sa (sa S1 1031 g.2.1.2.2.length (nI w)) 1030 0 (nI (g.2.1.2.2.length + 1))) 1034 = ga S1 1034 from funext (ek 1034 (by decide) (by decide))]
            exact b2
          · rw [ga_sa, if_neg (by omega), ga_sa, if_neg (by omega)]
            exact b4.1
          · rw [ga_sa, if_neg (by omega), ga_sa, if_neg (by omega)]
            exact b4.2 k v hk
    · exfalso
      rw [show (8 : Int32) = nI 8 from rfl, nI_eq (by omega) (by decide)] at q
      omega
