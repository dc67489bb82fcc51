/-! calls out of a method that has cells of its own beside -/
theorem aRoom {z d L : Nat} (h : z ≤ 100) (h2 : 120 * (d + 6) ≤ L) : 8 + (z + 11) + 120 * (d + 5) ≤ L := by
  have h3 : 120 * (d + 6) = 120 * (d + 5) + 120 := Nat.mul_succ 120 (d + 5)
  rw [h3] at h2
  refine Nat.le_trans ?_ h2
  rw [Nat.add_comm]
  exact Nat.add_le_add_left (Nat.le_trans (Nat.add_le_add_left (Nat.add_le_add_right h 11) 8) (by decide)) _
section
variable {p : Program} {l : Launch} {e : Env} {R : Room} {s : State} {m : MethodId} {args : Array Value} {below : List Frame} {meth : Method} {c : Code} {cc : ByteArray} {nL : Nat} {own : String} {ad : Nat → Nat} {cy : Nat → ClassId} {D : va_G} {ids : List Nat} {A A0 : Nat → Prop} {Zc : State → Prop} {Qs : State → Prop} {pc cells slots : Nat} {B : Array Slot} {H : Heap} {locs : List Loc}
theorem rc_run {Q : Value → aS → Prop} {a' : Array Value} {st0 rest : List Value} (hr : va_Run p l e R s m args below meth c H locs cells slots 0 0 (F0 m pc B st0) rest (aQc ad cy D ids A Q a') A) (hS : va_S A0 s.heap H locs) (hA : ∀ q, A q → A0 q)
    (kk : ∀ (v : Value) (S' : aS) (H1 : Heap) (locs1 : List Loc), Q v S' → va_P D vwCl (aws ad cy ids S') H1 → (∀ q : Nat, q < H.size → ¬ A q → H1[q]? = H[q]?) → H.size ≤ H1.size → va_S A0 s.heap H1 locs1 → W p l e R s m args below meth c H1 locs1 cells slots Qs (F0 m (pc + 3) B ((aro ad v).toList ++ rest))) : W p l e R s m args below meth c H locs cells slots Qs (F0 m pc B st0) := by
  intro T hT X
  obtain ⟨v, st₀, t, T', L, h0, X', hL, e1, e2, ⟨⟨v1, S1, hv, hq, hp⟩, hz, hk⟩, stp⟩ := hr T hT X
  cases hv
  rw [h0] at hz hk
  obtain ⟨t2, a1, b1⟩ := kk v1 S1 T'.heap (locs ++ L) hq (by rw [e1]; exact hp) (fun q h1 h2 => by rw [e1]; exact hk q h1 h2) (by rw [e1]; exact hz)
    ⟨Nat.le_trans hS.1 (by rw [e1]; exact hz), fun q h1 h2 => by rw [e1, hk q (Nat.lt_of_lt_of_le h1 hS.1) (fun z => h2 (hA q z))]; exact hS.2.1 q h1 h2, fun q hq => by
      rcases List.mem_append.mp hq with h | h
      · exact hS.2.2 q h
      · exact hA _ (hL q h)⟩ T' rfl X'
  exact ⟨t2, stp t2 a1, b1⟩
variable {MI : Nat → aMI} {d : Nat}
theorem rc_callV (X : CallFix p m c cc nL s args aWS own) (hnw : ∀ w ∈ aNW, va_Nw w s) (hK : va_K D vwCl (atys cy) s) (hzo : aZok A Zc) (hZ : ∀ U : State, U.heap = H → s.WarmedH U.vm → Zc U) {j i : Nat} {rest : List Value} {S : aS} {Q : Value → aS → Prop} {b0 : Nat} {As : List Value} (hj : aMok (MI j)) (hk : (MI j).2.2.2.2.2.1 ≠ 99) (hl : Cond.methodLink own i (MI j).1 ∈ aWS) (hn : As.length = (MI j).2.2.2.2.2.2.1) (hb0 : akd b0 = (MI j).2.2.2.2.2.1) (hreg : b0 ∈ ids)
    (hfr : d + 6 ≤ R.frames) (hlo : 120 * (d + 6) ≤ R.locals) (hce : cells ≤ R.cells) (hsl : slots ≤ R.slots) (hM : aMet l ad cy D ids A Zc MI d j (.ref b0 :: As) S Q) (hd : decode cc pc = .ok (.invokevirtual i, 3)) (hcs : acs rest ≤ 8) (hsz : B.size = nL) (hP : va_P D vwCl (aws ad cy ids S) H) (hS : va_S A0 s.heap H locs) (hA : ∀ q, A q → A0 q)
    (kk : ∀ (v : Value) (S' : aS) (H1 : Heap) (locs1 : List Loc), Q v S' → va_P D vwCl (aws ad cy ids S') H1 → (∀ q : Nat, q < H.size → ¬ A q → H1[q]? = H[q]?) → H.size ≤ H1.size → va_S A0 s.heap H1 locs1 → W p l e R s m args below meth c H1 locs1 cells slots Qs (F0 m (pc + 3) B ((aro ad v).toList ++ rest.map (atv ad)))) :
    W p l e R s m args below meth c H locs cells slots Qs (F0 m pc B ((As.map (atv ad)).reverse ++ .ref (ad b0) :: rest.map (atv ad))) := by
  have hts := X.2.2.2.2
  obtain ⟨h1, h2, h3, h4, h5, h6, h7, h8, h9⟩ := hj
  rcases h9 with h9 | ⟨-, ⟨r, hr1, hr2⟩, h10, h11⟩
  · exact absurd h9.1 hk
  obtain ⟨q0, g1, g2⟩ := aws_at (ad := ad) (cy := cy) (S := S) hreg
  have hlt : (MI j).2.2.2.2.2.1 < 12 := (List.getElem?_eq_some_iff.mp hr1).1
  rw [ace_obj hb0 (Nat.ble_eq_true_of_le (by omega))] at g2
  have hrv := va_recv hK hP hr1 g2
  rw [hr2] at hrv
  refine rc_run (va_runV (As := As.map (atv ad)) (rest := rest.map (atv ad)) (Ts := aWS) X hM (cwV (MI j).2.2.2.2.2.2.1 hts (aGood h7 (fun w hw => ?_)) rfl rfl rfl ⟨rfl, h3, h4, h5⟩ ⟨hfr, aRoom h6 hlo⟩) ⟨aPc_blind hzo, hrv, fun U hU hW => ⟨rfl, by rw [hU]; exact hP, va_K.moved hW.alike hK, aNW_warm hW hnw, hZ U hU hW⟩⟩ rfl (by rw [List.length_map]; exact hn) hsz rfl (lv_room (by rw [acs_map]; exact hcs)) hd ⟨hce, hsl⟩) hS hA kk
  rcases List.mem_cons.mp hw with z | hw
  · rw [z]; exact hl
  · rcases List.mem_cons.mp hw with z | hw
    · rw [z]; exact h10
    · rcases List.mem_cons.mp hw with z | hw
      · rw [z]; exact h11
      · rcases List.mem_cons.mp hw with z | hw
        · rw [z]; exact h8
        · cases hw
end
/-! the constants stay where they are -/
theorem aZX_ag {lim : Nat} {ad ad' : Nat → Nat} {A : Nat → Prop} {U : State} (h : bAg lim ad ad') (hz : aZX ad A U) : aZX ad' A U := by
  have g : ∀ n, 2000 ≤ n → ad n = ad' n := fun n hn => (h n (Or.inr hn)).symm
  obtain ⟨⟨h1, h2, h3, h4, h5, h6⟩, h7⟩ := hz
  refine ⟨⟨fun i hi => ?_, ?_, ?_, fun i g1 g2 => ?_, h5, h6⟩, fun q hq => ?_⟩
  · rw [← g (2000 + i) (by omega), ← g (2200 + i) (by omega)]
    exact h1 i hi
  · rw [← g 2100 (by decide)]
    refine ⟨h2.1, ?_⟩
    rw [show (fun j => Value.ref (ad' (2000 + j))) = fun j => Value.ref (ad (2000 + j)) from by funext j; rw [g (2000 + j) (by omega)]]
    exact h2.2
  · rw [← g 2101 (by decide)]
    exact h3
  · rw [← g i (by omega), ← g (i + 200) (by omega)]
    exact h4 i g1 g2
  · have : 2000 ≤ q.2.2.1 := by
      have key : ∀ q ∈ ldcL, 2000 ≤ q.2.2.1 := by decide +kernel
      exact key q hq
    rw [← g _ this]
    exact h7 q hq
