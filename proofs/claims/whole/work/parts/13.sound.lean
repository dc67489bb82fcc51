/-! jumps, returns, calls -/
theorem aif_out {b : Bool} {X : Prop} (h : aif b X) : X := by
  cases b <;> first | exact h | exact h.elim
theorem aif_tr {b : Bool} {X : Prop} (h : aif b X) : b = true := by
  cases b <;> first | rfl | exact h.elim
theorem arc_out {k : Nat} {av : List Value} {X : Prop} (h : arc k av X) : X := by
  unfold arc at h
  split at h
  · exact h
  · split at h
    · exact (aGK h).2
    · exact h.elim
theorem aro_cat {ad : Nat → Nat} {n : Nat} {v : Value} {k : List Value → Prop} (h : arv n v k) : ∃ w : List Value, k w ∧ (aro ad v).toList = w.map (atv ad) := by
  match n with
  | 0 => cases v <;> first | exact ⟨[], h, rfl⟩ | exact h.elim
  | 1 => cases v <;> first | exact ⟨_, h, rfl⟩ | exact h.elim
  | 2 => cases v <;> first | exact ⟨_, h, rfl⟩ | exact h.elim
  | n + 3 => cases v <;> first | exact ⟨_, h, rfl⟩ | exact h.elim
theorem acs_map {ad : Nat → Nat} (st : List Value) : ((st.map (atv ad)).map fun v => v.category).sum = acs st := by
  unfold acs
  rw [List.map_map]
  congr 1
  exact List.map_congr_left fun v _ => atv_cat ad v
theorem ackT_inv {code : List aE} {n : aE} {t : List aE} {off : Int} (h : ackT code n t off = true) : ∃ g : Nat, (match n.2.2.2.2.2.1 with | 0 => pcO (t.drop n.2.2.2.2.1) | _ => pcO (code.drop n.2.2.2.2.1)) = some g ∧ (n.1 : Int) + off = (g : Int) := by
  unfold ackT at h
  split at h
  · rename_i g e; exact ⟨g, e, of_decide_eq_true h⟩
  · cases h
section
variable {p : Program} {l : Launch} {e : Env} {R : Room} {s : State} {m : MethodId} {args : Array Value} {below : List Frame} {meth : Method} {c : Code} {cc : ByteArray} {nL on : Nat} {ad : Nat → Nat} {cy : Nat → ClassId} {D : va_G} {ids : List Nat} {A : Nat → Prop} {rk : Nat → Bool} {Zc : State → Prop} {Qs : State → Prop} {pc : Nat} {B : Array Slot} {H : Heap} {locs : List Loc}
/-- behind a call -/
theorem r_run {Q : Value → aS → Prop} {a' : Array Value} {st0 rest : List Value} (hr : va_Run p l e R s m args below meth c H locs 0 0 0 0 (F0 m pc B st0) rest (aQc ad cy D ids A Q a') A) (hS : va_S A s.heap H locs)
    (kk : ∀ (v : Value) (S' : aS) (H1 : Heap) (locs1 : List Loc), Q v S' → va_P D vwCl (aws ad cy ids S') H1 → va_S A s.heap H1 locs1 → W p l e R s m args below meth c H1 locs1 0 0 Qs (F0 m (pc + 3) B ((aro ad v).toList ++ rest))) : W p l e R s m args below meth c H locs 0 0 Qs (F0 m pc B st0) := by
  intro T hT X
  obtain ⟨v, st₀, t, T', L, h0, X', hL, e1, e2, ⟨⟨v1, S1, hv, hq, hp⟩, hz, hk⟩, stp⟩ := hr T hT X
  cases hv
  rw [h0] at hz hk
  obtain ⟨t2, a1, b1⟩ := kk v1 S1 T'.heap (locs ++ L) hq (by rw [e1]; exact hp)
    ⟨Nat.le_trans hS.1 (by rw [e1]; exact hz), fun q h1 h2 => by rw [e1, hk q (Nat.lt_of_lt_of_le h1 hS.1) h2]; exact hS.2.1 q h1 h2, fun q hq => by
      rcases List.mem_append.mp hq with h | h
      · exact hS.2.2 q h
      · exact hL q h⟩ T' rfl X'
  exact ⟨t2, stp t2 a1, b1⟩
variable {MI : Nat → aMI} {px : aE → aLs → List Value → aS → aT} {tb : Nat → List (Int32 × Nat)} {NM : Nat} {MT : List (Nat × Nat × Nat)} {d : Nat}
/-- the contract of a method of the small machine at a call -/
def aMet (l : Launch) (ad : Nat → Nat) (cy : Nat → ClassId) (D : va_G) (ids : List Nat) (A : Nat → Prop) (Zc : State → Prop) (MI : Nat → aMI) (d j : Nat) (av : List Value) (S : aS) (Q : Value → aS → Prop) : Prop :=
  Met l (MI j).1 (Cond.code (MI j).1 (MI j).2.1 (MI j).2.2.1 (MI j).2.2.2.1 :: aWS) (aRm d) (aPc ad cy D ids Zc av S) (aQc ad cy D ids A Q) 0 0 A
theorem aGood {y : MethodName} {b : ByteArray} {n : Nat} {r : Option FieldType} (h : Cond.code y b n r ∈ aWS) {ws : List Cond} (hw : ∀ w ∈ ws, w ∈ aWS) : GoodIn aWS (ws ++ (Cond.code y b n r :: aWS)) := aWS_goodIn (fun _ h => h) fun w hw' => by
  rcases List.mem_append.mp hw' with z | z
  · exact hw w z
  · rcases List.mem_cons.mp z with z | z
    · rw [z]; exact h
    · exact z
theorem r_callV (X : aCx p s m args c cc nL on ad cy D ids A rk Zc) (hzo : aZok A Zc) (hR : R = aRm (d + 1)) {j i : Nat} {rest : List Value} {S : aS} {Q : Value → aS → Prop} {b0 : Nat} {As : List Value} {ls9 : aLs} (hj : aMok (MI j)) (hk : (MI j).2.2.2.2.2.1 ≠ 99) (hl : Cond.methodLink (aCN on) i (MI j).1 ∈ aWS) (hn : As.length = (MI j).2.2.2.2.2.2.1) (hb0 : akd b0 = (MI j).2.2.2.2.2.1) (hreg : rk (MI j).2.2.2.2.2.1 = true)
    (hM : aMet l ad cy D ids A Zc MI d j (.ref b0 :: As) S Q) (hd : decode cc pc = .ok (.invokevirtual i, 3)) (hcs : acs rest ≤ 8) (hl9 : aHas ad B nL ls9) (hP : va_P D vwCl (aws ad cy ids S) H) (hS : va_S A s.heap H locs)
    (kk : ∀ (v : Value) (S' : aS) (H1 : Heap) (locs1 : List Loc), Q v S' → va_P D vwCl (aws ad cy ids S') H1 → va_S A s.heap H1 locs1 → W p l e R s m args below meth c H1 locs1 0 0 Qs (F0 m (pc + 3) B ((aro ad v).toList ++ rest.map (atv ad)))) :
    W p l e R s m args below meth c H locs 0 0 Qs (F0 m pc B ((As.map (atv ad)).reverse ++ .ref (ad b0) :: rest.map (atv ad))) := by
  have X' := X
  obtain ⟨hexec, hb, hml, hown, hts, hnw, hK, hnd, hA, hi, hreg', hZ⟩ := X
  obtain ⟨h1, h2, h3, h4, h5, h6, h7, h8, h9⟩ := hj
  rcases h9 with h9 | ⟨-, ⟨r, hr1, hr2⟩, h10, h11⟩
  · exact absurd h9.1 hk
  obtain ⟨q0, g1, g2⟩ := aws_at (ad := ad) (cy := cy) (S := S) (hreg' b0 _ hb0 hreg)
  have hlt : (MI j).2.2.2.2.2.1 < 12 := (List.getElem?_eq_some_iff.mp hr1).1
  rw [ace_obj hb0 (Nat.ble_eq_true_of_le (by omega))] at g2
  have hrv := va_recv hK hP hr1 g2
  rw [hr2] at hrv
  subst hR
  refine r_run (va_runV (As := As.map (atv ad)) (rest := rest.map (atv ad)) (Ts := aWS) ⟨hexec, hb, hml, hown, hts⟩ hM (cwV (MI j).2.2.2.2.2.2.1 hts (aGood h7 (fun w hw => ?_)) rfl rfl rfl ⟨rfl, h3, h4, h5⟩ ⟨by show d + 5 + 1 ≤ d + 1 + 5; omega, ?_⟩) ⟨aPc_blind hzo, hrv, fun U hU hW => ⟨rfl, by rw [hU]; exact hP, va_K.moved hW.alike hK, aNW_warm hW hnw, hzo.2 s U H locs hZ.1 hW hS hU⟩⟩ rfl (by rw [List.length_map]; exact hn) hl9.2.1 rfl (lv_room (by rw [acs_map]; exact hcs)) hd ⟨Nat.le_refl _, Nat.le_refl _⟩) hS kk
  · rcases List.mem_cons.mp hw with z | hw
    · rw [z]; exact hl
    · rcases List.mem_cons.mp hw with z | hw
      · rw [z]; exact h10
      · rcases List.mem_cons.mp hw with z | hw
        · rw [z]; exact h11
        · rcases List.mem_cons.mp hw with z | hw
          · rw [z]; exact h8
          · cases hw
  · show 8 + ((MI j).2.2.1 + 11) + 120 * (d + 5) ≤ 120 * (d + 1 + 5)
    omega
theorem r_callS (X : aCx p s m args c cc nL on ad cy D ids A rk Zc) (hzo : aZok A Zc) (hR : R = aRm (d + 1)) {j i : Nat} {rest : List Value} {S : aS} {Q : Value → aS → Prop} {As : List Value} {ls9 : aLs} (hj : aMok (MI j)) (hk : (MI j).2.2.2.2.2.1 = 99) (hl : Cond.methodLink (aCN on) i (MI j).1 ∈ aWS) (hn : As.length = (MI j).2.2.2.2.2.2.1)
    (hM : aMet l ad cy D ids A Zc MI d j As S Q) (hd : decode cc pc = .ok (.invokestatic i, 3)) (hcs : acs rest ≤ 8) (hl9 : aHas ad B nL ls9) (hP : va_P D vwCl (aws ad cy ids S) H) (hS : va_S A s.heap H locs)
    (kk : ∀ (v : Value) (S' : aS) (H1 : Heap) (locs1 : List Loc), Q v S' → va_P D vwCl (aws ad cy ids S') H1 → va_S A s.heap H1 locs1 → W p l e R s m args below meth c H1 locs1 0 0 Qs (F0 m (pc + 3) B ((aro ad v).toList ++ rest.map (atv ad)))) :
    W p l e R s m args below meth c H locs 0 0 Qs (F0 m pc B ((As.map (atv ad)).reverse ++ rest.map (atv ad))) := by
  obtain ⟨hexec, hb, hml, hown, hts, hnw, hK, hnd, hA, hi, hreg', hZ⟩ := X
  obtain ⟨h1, h2, h3, h4, h5, h6, h7, h8, h9⟩ := hj
  rcases h9 with ⟨-, h9⟩ | h9
  · subst hR
    refine r_run (va_runS (As := As.map (atv ad)) (rest := rest.map (atv ad)) (Ts := aWS) ⟨hexec, hb, hml, hown, hts⟩ hM ⟨callB_of (MI j).2.2.2.2.2.2.1 hts (aGood (ws := []) h7 (fun _ h => by cases h)) rfl rfl rfl (hts _ h8) (hts _ hl) ⟨h3, h4, h5⟩ ⟨by show d + 5 + 1 ≤ d + 1 + 5; omega, ?_⟩, hts _ h9⟩ ⟨aPc_blind hzo, fun U hU hW => ⟨rfl, by rw [hU]; exact hP, va_K.moved hW.alike hK, aNW_warm hW hnw, hzo.2 s U H locs hZ.1 hW hS hU⟩⟩ rfl (by rw [List.length_map]; exact hn) hl9.2.1 rfl (lv_room (by rw [acs_map]; exact hcs)) hd ⟨Nat.le_refl _, Nat.le_refl _⟩) hS kk
    show 8 + ((MI j).2.2.1 + 11) + 120 * (d + 5) ≤ 120 * (d + 1 + 5)
    omega
  · exact absurd hk h9.1
end
