/-! the machine of the constructors: a run is the true machine's -/
theorem bRoom {z d L : Nat} (h : z ≤ 100) (h2 : 120 * (d + 1 + 2) ≤ L) : 8 + (z + 11) + 120 * (d + 2) ≤ L := by omega
section
variable {l : Launch} {cy : Nat → ClassId} {D : va_G} {A : Nat → Prop} {o kb e0 : Nat} {nl cl : List aQ} {BM : Nat → bMI}
theorem bst_call {p : Program} {e : Env} {R : Room} {s : State} {m : MethodId} {args : Array Value} {below : List Frame} {meth : Method} {c : Code} {cc : ByteArray} {nL on : Nat} {ad : Nat → Nat} {Qs : State → Prop} (X : bCx p s m args meth c cc nL on cy D A e0) {q : aQ} (hq : bCok BM q) (h1 : q.1 = on) {i pc x : Nat} (h2 : q.2.1 = i) (hne : q.2.2.2 ≠ 1) (hB : bMok q.2.2.1 (BM q.2.2.1)) {d : Nat} (hfr : d + 1 + 2 ≤ R.frames) (hlo : 120 * (d + 1 + 2) ≤ R.locals)
    {ls : aLs} {As r : List Value} {cs cs' : List bC} {nc ns : Nat} (hd : decode cc pc = .ok (.invokespecial i, 3)) (hn : As.length = (BM q.2.2.1).2.2.2.1) (hr8 : acs r ≤ 8) (hls : bLs (o + cs.length) ls = true) (hr : r.all (bLim (o + cs.length)) = true) (hnc : nc + (BM q.2.2.1).2.2.2.2.1 ≤ R.cells) (hns : ns + (BM q.2.2.1).2.2.2.2.2.1 ≤ R.slots)
    (hM : Met l (BM q.2.2.1).1 (Cond.code (BM q.2.2.1).1 (BM q.2.2.1).2.1 (BM q.2.2.1).2.2.1 none :: aWS) (bRm d (BM q.2.2.1).2.2.2.2.1 (BM q.2.2.1).2.2.2.2.2.1) (bPc o cy D A e0 ad (.ref x :: As) cs) (bQc o cy D A ad cs.length cs') (BM q.2.2.1).2.2.2.2.1 (BM q.2.2.1).2.2.2.2.2.1 A)
    (hgo : ∀ ad', bAg (o + cs.length) ad ad' → bG p l e R s m args below meth c nL cy D A Qs o (pc + 3) (ls, r, cs', nc + (BM q.2.2.1).2.2.2.2.1, ns + (BM q.2.2.1).2.2.2.2.2.1) ad') : bG p l e R s m args below meth c nL cy D A Qs o pc (ls, As.reverse ++ .ref x :: r, cs, nc, ns) ad := by
  obtain ⟨hx, hb, hml, hown, hts, hK, hA, hAO1, hAO2, hZ, hin, hNW⟩ := X
  obtain ⟨m1, m2, m3, m4, m5, m6, m7, m8, m9⟩ := hB
  intro B H locs hl hP hD hS
  dsimp only at hl hP hD ⊢
  have hpre : PreS s H (bPc o cy D A e0 ad (.ref x :: As) cs) (.ref (ad x) :: As.map (atv ad)) := ⟨bPc_blind, fun U hU hW => ⟨rfl, by rw [hU]; exact hP, hD, va_K.moved hW.alike hK, by rw [hU]; exact fun q hq => hA q (Nat.le_trans hS.1 hq), va_AO.moved hW.alike hAO1, va_AO.moved hW.alike hAO2, by rw [hU]; exact (va_Z.moved hW.alike hZ).kept hS.2.1, aNW_warm hW hNW⟩⟩
  have hst : (As.reverse ++ Value.ref x :: r).map (atv ad) = (As.map (atv ad)).reverse ++ .ref (ad x) :: r.map (atv ad) := by
    rw [List.map_append, List.map_reverse]
    rfl
  rw [hst]
  have hrm : (bRm d (BM q.2.2.1).2.2.2.2.1 (BM q.2.2.1).2.2.2.2.2.1).frames + 1 ≤ R.frames ∧ 8 + ((BM q.2.2.1).2.2.1 + 11) + (bRm d (BM q.2.2.1).2.2.2.2.1 (BM q.2.2.1).2.2.2.2.2.1).locals ≤ R.locals := by
    constructor
    · show d + 2 + 1 ≤ R.frames
      omega
    · show 8 + ((BM q.2.2.1).2.2.1 + 11) + 120 * (d + 2) ≤ R.locals
      exact bRoom m5 hlo
  have hG : GoodIn aWS (Cond.code (BM q.2.2.1).1 (BM q.2.2.1).2.1 (BM q.2.2.1).2.2.1 none :: aWS) := aGood (ws := []) m6 (fun _ h => by cases h)
  have fin : ∀ (hr : va_Run p l e R s m args below meth c H locs nc ns (BM q.2.2.1).2.2.2.2.1 (BM q.2.2.1).2.2.2.2.2.1 (F0 m pc B ((As.map (atv ad)).reverse ++ .ref (ad x) :: r.map (atv ad))) (r.map (atv ad)) (bQc o cy D A ad cs.length cs' (Value.ref (ad x) :: As.map (atv ad)).toArray) A), W p l e R s m args below meth c H locs nc ns Qs (F0 m pc B ((As.map (atv ad)).reverse ++ .ref (ad x) :: r.map (atv ad))) := by
    intro hrun
    refine va_callv hrun hS (fun _ _ h => h) (fun _ h => h) (fun ad' t H1 locs1 e1 e2 hag hB1 e3 e4 hS1 => ?_)
    have hgo' := hgo ad' hag B H1 locs1 (aHas_ag hag hls hl) (by rw [← e1]; exact hB1.1) hB1.2 hS1
    dsimp only at hgo'
    rw [bMap_ag hag hr] at hgo'
    exact hgo'
  have hlk := hq.2 hne
  rw [h1, h2] at hlk
  rcases hlk with hlk | hlk
  · exact fin (va_runI (As := As.map (atv ad)) (rest := r.map (atv ad)) (Ts := aWS) ⟨hx, hb, hml, hown, hts⟩ hM (cwI (BM q.2.2.1).2.2.2.1 hts hG rfl rfl rfl (hts _ m8) (hts _ hlk) (hts _ m7) m2 m4 hrm) hpre rfl (by rw [List.length_map]; exact hn) hl.2.1 rfl (lv_room (by rw [acs_map]; exact hr8)) hd ⟨hnc, hns⟩)
  · exact fin (va_runIN (As := As.map (atv ad)) (rest := r.map (atv ad)) (Ts := aWS) ⟨hx, hb, hml, hown, hts⟩ hM ⟨va_cnB (BM q.2.2.1).2.2.2.1 hts hG rfl rfl rfl (hNW _ hlk) (hts _ m8) m4 hrm, m2, hts _ m7⟩ hpre rfl (by rw [List.length_map]; exact hn) hl.2.1 rfl (lv_room (by rw [acs_map]; exact hr8)) hd ⟨hnc, hns⟩)
theorem bst_ok (hkb : kb = 20 ∨ kb = 30) (hnl : ∀ q ∈ nl, bNok q) (hI : ∀ ci, bIok ci) (hcl : ∀ q ∈ cl, bCok BM q) (hB : ∀ q ∈ cl, q.2.2.2 ≠ 1 → bMok q.2.2.1 (BM q.2.2.1)) : ∀ (f d j pc : Nat) (S S' : bS), bst o kb nl cl BM f d j pc S = some S' → bRun l cy D A o e0 BM d j pc S S' := by
  intro f
  induction f with
  | zero => intro d j pc S S' h; cases h
  | succ f ih =>
    intro d j pc S S' h p e R s m args below meth c Qs ad X hfr hlo hce hsl had hgo
    unfold bst at h
    cases hst : Nat.beq pc (BM j).2.2.2.2.2.2 with
    | true =>
      rw [hst] at h
      cases h
      rw [Nat.eq_of_beq_eq_true hst]
      exact hgo ad bAg.rf
    | false =>
      rw [hst, cond_false] at h
      split at h
      · rename_i i len hd
        split at h
        · rename_i q hq
          obtain ⟨q1, q2, q3⟩ := find_link hq
          cases h1 : Nat.beq q.2.2.2 1 with
          | true =>
            rw [h1, cond_true] at h
            split at h
            · rename_i ls x r cs nc ns
              obtain ⟨g1, h9⟩ := cond_some2 h
              clear h
              obtain ⟨g1, g2⟩ := (Bool.and_eq_true _ _).mp g1
              have g1 := Nat.eq_of_beq_eq_true g1
              have g2 := Nat.le_of_ble_eq_true g2
              subst g1
              have X0 := X
              obtain ⟨hx, hb, hml, hown, hts, hK, hA, hAO1, hAO2, hZ, hin, hNW⟩ := X
              have hlk := (hcl _ q1).1 (Nat.eq_of_beq_eq_true h1)
              rw [q2, q3] at hlk
              intro B H locs hl hP hD hS
              have hnext := ih d j (pc + 3) _ _ h9 p e R s m args below meth c Qs ad X0 hfr hlo hce hsl had hgo B H locs hl hP hD hS
              refine W.objInit hx hb hown (hts _ hlk) (hts _ bO_i) (hts _ bO_c) rfl (by rw [hml]; exact hl.2.1) rfl hd (by omega) ?_ hnext
              show 2 * 0 + (List.map (fun v => v.category) (r.map (atv ad))).sum + 12 ≤ R.locals
              rw [acs_map]
              omega
            · cases h
          | false =>
            rw [h1, cond_false] at h
            have hne : q.2.2.2 ≠ 1 := by
              intro z
              rw [z] at h1
              cases h1
            split at h
            · cases h
            · rename_i z0 d0
              split at h
              rename_i ls st cs nc ns
              split at h
              · rename_i x r hdr
                split at h
                · rename_i ls' cs' nc' ns' hrun
                  obtain ⟨g, h9⟩ := cond_some2 h
                  clear h
                  simp only [Bool.and_eq_true] at g
                  obtain ⟨g1, g2, g3, g4, g5, g6, g7, g8, g9, g10, g11, g12⟩ := g
                  have g1 := Nat.eq_of_beq_eq_true g1
                  subst g1
                  have g2 := Nat.le_of_ble_eq_true g2
                  have g3 := Nat.le_of_ble_eq_true g3
                  have g4 := Nat.le_of_ble_eq_true g4
                  have g7 := Nat.le_of_ble_eq_true g7
                  have g9 := Nat.le_of_ble_eq_true g9
                  have g10 := Nat.le_of_ble_eq_true g10
                  have g11 := Nat.le_of_ble_eq_true g11
                  have g12 := Nat.le_of_ble_eq_true g12
                  have hsplit : st = (st.take (BM q.2.2.1).2.2.2.1).reverse.reverse ++ .ref x :: r := by
                    rw [List.reverse_reverse, ← hdr, List.take_append_drop]
                  have hlen : (st.take (BM q.2.2.1).2.2.2.1).reverse.length = (BM q.2.2.1).2.2.2.1 := by
                    rw [List.length_reverse, List.length_take]
                    omega
                  have hr1 := ih d0 q.2.2.1 0 _ _ hrun
                  have hM := bMet_of (ad := ad) (hB q q1 hne) g9 had g2 g3 hr1
                  have hgoal := bst_call (ls := ls) (nc := nc) (ns := ns) (Qs := Qs) (e := e) (below := below) X (hcl q q1) q2 q3 hne (hB q q1 hne) hfr hlo hd hlen g4 g5 g6 (Nat.le_trans g10 hce) (Nat.le_trans g11 hsl) hM (fun ad' hag => ih (d0 + 1) j (pc + 3) _ _ h9 p e R s m args below meth c Qs ad' X hfr hlo hce hsl ((hag 2000 (Or.inr (Nat.le_refl _))).trans had) (fun ad2 hag2 => hgo ad2 (hag.trans (hag2.le (Nat.add_le_add_left g12 o)))))
                  rw [← hsplit] at hgoal
                  exact hgoal
                · cases h
              · cases h
        · cases h
      · rename_i ins len hni hd
        split at h
        · rename_i pc' S1 h1
          exact b1_ok X hkb hnl hI hce hsl had hd h1 (fun hlen ad' hag => ih d j pc' S1 S' h p e R s m args below meth c Qs ad' X hfr hlo hce hsl ((hag 2000 (Or.inr (Nat.le_refl _))).trans had) (fun ad2 hag2 => hgo ad2 (hag.trans (hag2.le (Nat.add_le_add_left hlen o)))))
        · cases h
      · cases h
end
