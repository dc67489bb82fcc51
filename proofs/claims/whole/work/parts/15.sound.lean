/-! a method of the small machine is one of the true machine -/
theorem apr_none (ad : Nat → Nat) : ∀ (k b : Nat), apr ad b (List.replicate k none) = []
  | 0, _ => rfl
  | k + 1, b => apr_none ad k (b + 1)
theorem apr_args (ad : Nat → Nat) (k : Nat) : ∀ (av : List Value) (b : Nat), apr ad b (alE av ++ List.replicate k none) = lv_args b (av.map (atv ad)) := by
  intro av
  induction av with
  | nil => intro b; exact apr_none ad k b
  | cons v t ih =>
    intro b
    show apr ad b (cond (acat2 v) (some v :: none :: alE t) (some v :: alE t) ++ _) = (b, atv ad v) :: lv_args (if (atv ad v).category = 2 then b + 2 else b + 1) (t.map (atv ad))
    rw [atv_cat]
    cases hc : acat2 v with
    | true =>
      rw [acat2_cat] at hc
      rw [if_pos (eq_of_beq hc)]
      show (b, atv ad v) :: apr ad (b + 2) (alE t ++ _) = _
      rw [ih]
    | false =>
      rw [acat2_cat] at hc
      rw [if_neg (fun z => by rw [z] at hc; cases hc)]
      show (b, atv ad v) :: apr ad (b + 1) (alE t ++ _) = _
      rw [ih]
theorem alE_len (ad : Nat → Nat) : ∀ (av : List Value), (lg_sl (av.map (atv ad))).length = (alE av).length := by
  intro av
  induction av with
  | nil => rfl
  | cons v t ih =>
    show ((if (atv ad v).category = 2 then [Slot.val (atv ad v), .second] else [.val (atv ad v)]) ++ lg_sl (t.map (atv ad))).length = (cond (acat2 v) (some v :: none :: alE t) (some v :: alE t)).length
    rw [atv_cat, List.length_append, ih]
    cases hc : acat2 v with
    | true =>
      rw [acat2_cat] at hc
      rw [if_pos (eq_of_beq hc)]
      simp
      omega
    | false =>
      rw [acat2_cat] at hc
      rw [if_neg (fun z => by rw [z] at hc; cases hc)]
      simp
      omega
theorem amk_get : ∀ (ls : aLs) (m i : Nat) (v : Value), (amk m ls)[i]? = some (some v) → ls[i]? = some (some v) := by
  intro ls
  induction ls with
  | nil => intro m i v h; exact h
  | cons x t ih =>
    intro m i v h
    cases i with
    | zero =>
      have h : some (cond (Nat.beq (m % 2) 1) x none) = some (some v) := h
      cases hb : Nat.beq (m % 2) 1 with
      | true => rw [hb] at h; exact h
      | false => rw [hb] at h; cases h
    | succ i => exact ih _ i v h
theorem amk_len : ∀ (ls : aLs) (m : Nat), (amk m ls).length = ls.length := by
  intro ls
  induction ls with
  | nil => intro m; rfl
  | cons x t ih => intro m; show (amk (m / 2) t).length + 1 = t.length + 1; rw [ih]
theorem aHas.mk {ad : Nat → Nat} {A : Array Slot} {nL : Nat} {ls : aLs} (m : Nat) (h : aHas ad A nL ls) : aHas ad A nL (amk m ls) := by
  refine ⟨by rw [amk_len]; exact h.1, h.2.1, h.2.2.1, fun q hq => h.2.2.2 q ?_⟩
  obtain ⟨i, v, h1, h2⟩ := (apr_mem _ _ _).mp hq
  exact (apr_mem _ _ _).mpr ⟨i, v, amk_get _ _ _ _ h1, h2⟩
theorem ackL_drop {tb : Nat → List (Int32 × Nat)} {ckp : Nat → aE → Bool} {MI : Nat → aMI} {NM : Nat} {MT : List (Nat × Nat × Nat)} {cc : ByteArray} {on : Nat} {rk : Nat → Bool} {rt : Option FieldType} {code : List aE} : ∀ (t : List aE) (q : Nat), ackL tb ckp MI NM MT cc on rk rt code t = true → ackL tb ckp MI NM MT cc on rk rt code (t.drop q) = true := by
  intro t
  induction t with
  | nil => intro q h; rw [List.drop_nil]; exact h
  | cons n t ih =>
    intro q h
    cases q with
    | zero => exact h
    | succ q =>
      obtain ⟨-, h⟩ := (Bool.and_eq_true _ _).mp h
      obtain ⟨-, h⟩ := (Bool.and_eq_true _ _).mp h
      obtain ⟨-, h⟩ := (Bool.and_eq_true _ _).mp h
      obtain ⟨-, h⟩ := (Bool.and_eq_true _ _).mp h
      exact ih q h
theorem metF {l : Launch} {y : MethodName} {ws ws' : List Cond} {rm : Room} {Pc : Array Value → State → Prop} {Qc : Array Value → State → Outcome → State → Prop} {mc ms : Nat} {free : Addr → Prop} {cc : ByteArray} {maxL : Nat} {ret : Option FieldType}
    (hy : plainFor y = true) (hw : ws = Cond.code y cc maxL ret :: ws')
    (body : ∀ p e s m args below meth c s₁, BodyLoose p l y (headSpec ws rm) cc maxL ret e s m args below meth c s₁ → c.maxLocals = maxL → Pc args s →
      W p l e (headSpec ws rm).room s m args below meth c s.heap [] 0 0 (MQ below Qc args s mc ms free) (entryFrame m args maxL)) : Met l y ws rm Pc Qc mc ms free := by
  refine MetFree.of_bodySF (code := cc) (maxLocals := maxL) (ret := ret) hy ?_ ?_
  · intro args s m h hn
    obtain ⟨meth, c, h1, h2, h3, h4, h5, h6, -, -⟩ := Cond.code_spec hn (atoms_spec (ws := ws) h _ (by rw [hw]; exact List.mem_cons_self))
    exact ⟨meth, c, h1, h2, h3, h4, h5, h6⟩
  · intro p e s m args below meth c s₁ B hml hP _
    have hh0 : s₁.heap = s.heap := by rw [B.state]; rfl
    obtain ⟨t, a1, o, b1, b2, b3⟩ := body p e s m args below meth c s₁ B hml hP s₁ hh0 (Stand.of_body B)
    exact ⟨t, o, a1, b1, b2, ⟨b3.1, b3.2⟩⟩
theorem a_met {l : Launch} {ad : Nat → Nat} {cy : Nat → ClassId} {D : va_G} {ids : List Nat} {A : Nat → Prop} {rk : Nat → Bool} {Zc : State → Prop} {MI : Nat → aMI} {px : aE → aLs → List Value → aS → aT} {tb : Nat → List (Int32 × Nat)} {ckp : Nat → aE → Bool} {NM : Nat} {MT : List (Nat × Nat × Nat)}
    (hzo : aZok A Zc) (hMI : ∀ j, j < NM → aMok (MI j)) (hMT : ∀ q ∈ MT, aMTok MI q) (hck : ∀ j, j < NM → ackL tb ckp MI NM MT (MI j).2.1 (MI j).2.2.2.2.1 rk (MI j).2.2.2.1 (MI j).2.2.2.2.2.2.2.2 (MI j).2.2.2.2.2.2.2.2 = true ∧ pcO (MI j).2.2.2.2.2.2.2.2 = some 0)
    (hn : ids.Nodup) (hA : ∀ i ∈ ids, A (ad i)) (hi : ∀ i j, i ∈ ids → j ∈ ids → ad i = ad j → i = j) (hreg : ∀ i k, akd i = k → rk k = true → i ∈ ids) (had : ∀ x y, 2000 ≤ x → x ≤ 2099 → 2000 ≤ y → y ≤ 2099 → ad x = ad y → x = y)
    (hpx : ∀ (p : Program) (e : Env) (s : State) (m : MethodId) (args : Array Value) (below : List Frame) (meth : Method) (c : Code) (cc : ByteArray) (nL on d : Nat) (Qs : State → Prop), aCx p s m args c cc nL on ad cy D ids A rk Zc → aPx px ckp p l e (aRm (d + 1)) s m args below meth c cc nL on ad cy D ids A Qs) :
    ∀ (d j : Nat) (av : List Value) (S : aS) (Q : Value → aS → Prop), j < NM → aW px MI tb d j av S Q → aMet l ad cy D ids A Zc MI d j av S Q := by
  intro d
  induction d with
  | zero => intro j av S Q _ h; exact h.elim
  | succ d ih =>
    intro j av S Q hj h
    unfold aW at h
    have hfit := Nat.le_of_ble_eq_true (aif_tr h)
    have h1 := arc_out (aif_out h)
    obtain ⟨m1, m2, m3, m4, m5, m6, m7, m8, m9⟩ := hMI j hj
    unfold aMet
    refine metF (cc := (MI j).2.1) (maxL := (MI j).2.2.1) (ret := (MI j).2.2.2.1) m1 rfl ?_
    intro p e s m args below meth c s₁ B hml hv
    obtain ⟨hargs, hP, hK, hN, hZ⟩ := hv
    subst hargs
    have hts := atoms_spec B.pre
    have X : aCx p s m (av.map (atv ad)).toArray c (MI j).2.1 (MI j).2.2.1 (MI j).2.2.2.2.1 ad cy D ids A rk Zc :=
      ⟨B.exec, B.bytes, hml, by rw [← m2]; exact findClass_of_methodNamed B.named, fun w hw => hts w (List.mem_cons_of_mem _ hw), hN, hK, hn, hA, hi, hreg, hZ, had⟩
    rw [lg_entry_eq]
    have hl := lv_entry (av.map (atv ad)) (n := (MI j).2.2.1) (by rw [alE_len]; exact hfit)
    have hl' : aHas ad ((lg_sl (av.map (atv ad)) ++ List.replicate ((MI j).2.2.1 - (lg_sl (av.map (atv ad))).length) Slot.unset).toArray) (MI j).2.2.1 (alc av (MI j).2.2.1) := by
      refine ⟨?_, ?_⟩
      · unfold alc
        rw [List.length_append, List.length_replicate]
        omega
      · unfold alc
        rw [apr_args]
        exact hl
    refine h1 (fun q ls st S => ∀ g, pcO ((MI j).2.2.2.2.2.2.2.2.drop q) = some g → aWg p l e (aRm (d + 1)) s m (av.map (atv ad)).toArray below meth c (MI j).2.2.1 ad cy D ids A (MQ below (aQc ad cy D ids A Q) (av.map (atv ad)).toArray s 0 0 A) g ls st S) ?_ 0 (hck j hj).2 _ s.heap [] hl' hP va_S.rf
    intro q ls st S hw g hg
    exact aw_ok X hzo rfl hMI hMT ih B.returns B.notSynchronized (hpx _ _ _ _ _ _ _ _ _ _ _ _ _ X) (fun q ls st S z g hg B H locs hl => z g hg B H locs (aHas.mk _ hl)) _ (ackL_drop _ q (hck j hj).1) 0 true ls st S hw g hg
