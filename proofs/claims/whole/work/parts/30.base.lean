/-! reading what was written -/
theorem gi_si (S : aS) (i k : Nat) (v : Int32) (j m : Nat) : gi (si S i k v) j m = if j = i ∧ m = k then v else gi S j m := by
  unfold gi si
  simp only [va_up, upd, vp_updL]
  by_cases h1 : j = i
  · subst h1
    by_cases h2 : m = k <;> simp [va_up, upd, vp_updL, h2]
  · simp [va_up, upd, vp_updL, h1]
theorem gi_sl (S : aS) (i k : Nat) (v : Int64) (j m : Nat) : gi (sl S i k v) j m = gi S j m := rfl
theorem gi_sr (S : aS) (i k : Nat) (v : Nat) (j m : Nat) : gi (sr S i k v) j m = gi S j m := rfl
theorem gi_sa (S : aS) (i k : Nat) (v : Int32) (j m : Nat) : gi (sa S i k v) j m = gi S j m := rfl
theorem gi_sb (S : aS) (i k : Nat) (v : Int64) (j m : Nat) : gi (sb S i k v) j m = gi S j m := rfl
theorem gl_si (S : aS) (i k : Nat) (v : Int32) (j m : Nat) : gl (si S i k v) j m = gl S j m := rfl
theorem gl_sl (S : aS) (i k : Nat) (v : Int64) (j m : Nat) : gl (sl S i k v) j m = if j = i ∧ m = k then v else gl S j m := by
  unfold gl sl
  simp only [va_up, upd, vp_updL]
  by_cases h1 : j = i
  · subst h1
    by_cases h2 : m = k <;> simp [va_up, upd, vp_updL, h2]
  · simp [va_up, upd, vp_updL, h1]
theorem gl_sr (S : aS) (i k : Nat) (v : Nat) (j m : Nat) : gl (sr S i k v) j m = gl S j m := rfl
theorem gl_sa (S : aS) (i k : Nat) (v : Int32) (j m : Nat) : gl (sa S i k v) j m = gl S j m := rfl
theorem gl_sb (S : aS) (i k : Nat) (v : Int64) (j m : Nat) : gl (sb S i k v) j m = gl S j m := rfl
theorem gr_si (S : aS) (i k : Nat) (v : Int32) (j m : Nat) : gr (si S i k v) j m = gr S j m := rfl
theorem gr_sl (S : aS) (i k : Nat) (v : Int64) (j m : Nat) : gr (sl S i k v) j m = gr S j m := rfl
theorem gr_sr (S : aS) (i k : Nat) (v : Nat) (j m : Nat) : gr (sr S i k v) j m = if j = i ∧ m = k then v else gr S j m := by
  unfold gr sr
  simp only [va_up, upd, vp_updL]
  by_cases h1 : j = i
  · subst h1
    by_cases h2 : m = k <;> simp [va_up, upd, vp_updL, h2]
  · simp [va_up, upd, vp_updL, h1]
theorem gr_sa (S : aS) (i k : Nat) (v : Int32) (j m : Nat) : gr (sa S i k v) j m = gr S j m := rfl
theorem gr_sb (S : aS) (i k : Nat) (v : Int64) (j m : Nat) : gr (sb S i k v) j m = gr S j m := rfl
theorem ga_si (S : aS) (i k : Nat) (v : Int32) (j m : Nat) : ga (si S i k v) j m = ga S j m := rfl
theorem ga_sl (S : aS) (i k : Nat) (v : Int64) (j m : Nat) : ga (sl S i k v) j m = ga S j m := rfl
theorem ga_sr (S : aS) (i k : Nat) (v : Nat) (j m : Nat) : ga (sr S i k v) j m = ga S j m := rfl
theorem ga_sa (S : aS) (i k : Nat) (v : Int32) (j m : Nat) : ga (sa S i k v) j m = if j = i ∧ m = k then v else ga S j m := by
  unfold ga sa
  simp only [va_up, upd, vp_updL]
  by_cases h1 : j = i
  · subst h1
    by_cases h2 : m = k <;> simp [va_up, upd, vp_updL, h2]
  · simp [va_up, upd, vp_updL, h1]
theorem ga_sb (S : aS) (i k : Nat) (v : Int64) (j m : Nat) : ga (sb S i k v) j m = ga S j m := rfl
theorem gb_si (S : aS) (i k : Nat) (v : Int32) (j m : Nat) : gb (si S i k v) j m = gb S j m := rfl
theorem gb_sl (S : aS) (i k : Nat) (v : Int64) (j m : Nat) : gb (sl S i k v) j m = gb S j m := rfl
theorem gb_sr (S : aS) (i k : Nat) (v : Nat) (j m : Nat) : gb (sr S i k v) j m = gb S j m := rfl
theorem gb_sa (S : aS) (i k : Nat) (v : Int32) (j m : Nat) : gb (sa S i k v) j m = gb S j m := rfl
theorem gb_sb (S : aS) (i k : Nat) (v : Int64) (j m : Nat) : gb (sb S i k v) j m = if j = i ∧ m = k then v else gb S j m := by
  unfold gb sb
  simp only [va_up, upd, vp_updL]
  by_cases h1 : j = i
  · subst h1
    by_cases h2 : m = k <;> simp [va_up, upd, vp_updL, h2]
  · simp [va_up, upd, vp_updL, h1]
