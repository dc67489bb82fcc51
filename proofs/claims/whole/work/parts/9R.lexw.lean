/-! what a token is, on both sides -/
theorem lg_cmp0 {x y : Int64} : lg_cmp x y = 0 ↔ x = y := by
  unfold lg_cmp
  by_cases a : x > y
  · rw [if_pos a]
    refine ⟨fun h => absurd h (by decide), fun h => ?_⟩
    rw [h] at a
    exact absurd a Int64.lt_irrefl
  · rw [if_neg a]
    by_cases b : x = y
    · rw [if_pos b]
      exact ⟨fun _ => b, fun _ => rfl⟩
    · rw [if_neg b]
      exact ⟨fun h => absurd h (by decide), fun h => absurd h b⟩
theorem lN_inj {a b : Nat} (ha : a < 2 ^ 63) (hb : b < 2 ^ 63) : lN a = lN b ↔ a = b := by
  constructor
  · intro h
    have h1 : lN a ≤ lN b := by rw [h]; exact Int64.le_refl _
    have h2 : lN b ≤ lN a := by rw [h]; exact Int64.le_refl _
    rw [pk_lLE ha hb] at h1
    rw [pk_lLE hb ha] at h2
    omega
  · intro h
    rw [h]
def nmO (l : List Nat) : Prop := ∀ c, c ∈ l → 1 ≤ c ∧ c ≤ 26
theorem enc_inj {b : Nat} (hb : 26 < b) : ∀ n l l', l.length ≤ n → nmO l → nmO l' → enc b l = enc b l' → l = l' := by
  intro n
  induction n with
  | zero =>
    intro l l' hn h1 h2 e
    have : l = [] := List.length_eq_zero_iff.mp (by omega)
    subst this
    rcases List.eq_nil_or_concat l' with rfl | ⟨m, c, rfl⟩
    · rfl
    · rw [List.concat_eq_append, enc_snoc] at e
      have := h2 c (by simp)
      have : enc b [] = 0 := rfl
      omega
  | succ n ih =>
    intro l l' hn h1 h2 e
    rcases List.eq_nil_or_concat l with rfl | ⟨m, c, rfl⟩
    · rcases List.eq_nil_or_concat l' with rfl | ⟨m', c', rfl⟩
      · rfl
      · rw [List.concat_eq_append, enc_snoc] at e
        have := h2 c' (by simp)
        have : enc b [] = 0 := rfl
        omega
    · rcases List.eq_nil_or_concat l' with rfl | ⟨m', c', rfl⟩
      · rw [List.concat_eq_append, enc_snoc] at e
        have := h1 c (by simp)
        have : enc b [] = 0 := rfl
        omega
      · simp only [List.concat_eq_append] at *
        rw [enc_snoc, enc_snoc] at e
        have a1 := h1 c (by simp)
        have a2 := h2 c' (by simp)
        have e1 : c = c' := by
          have : (enc b m * b + c) % b = (enc b m' * b + c') % b := by rw [e]
          rw [Nat.mul_comm, Nat.mul_add_mod, Nat.mul_comm, Nat.mul_add_mod, Nat.mod_eq_of_lt (by omega), Nat.mod_eq_of_lt (by omega)] at this
          exact this
        subst e1
        have e2 : enc b m = enc b m' := Nat.eq_of_mul_eq_mul_right (show 0 < b by omega) (by omega)
        rw [List.length_append] at hn
        rw [ih m m' (by simp at hn; omega) (fun x hx => h1 x (by simp [hx])) (fun x hx => h2 x (by simp [hx])) e2]
theorem enc_lt {b : Nat} (hb : 26 < b) : ∀ n l, l.length = n → nmO l → enc b l < b ^ n := by
  intro n
  induction n with
  | zero =>
    intro l hn h
    have : l = [] := List.length_eq_zero_iff.mp hn
    subst this
    exact Nat.one_pos
  | succ n ih =>
    intro l hn h
    rcases List.eq_nil_or_concat l with rfl | ⟨m, c, rfl⟩
    · cases hn
    · simp only [List.concat_eq_append] at *
      have a1 := h c (by simp)
      have := ih m (by simp at hn; omega) (fun x hx => h x (by simp [hx]))
      rw [enc_snoc, Nat.pow_succ]
      have h2 : (enc b m + 1) * b ≤ b ^ n * b := Nat.mul_le_mul_right b this
      rw [Nat.add_mul, Nat.one_mul] at h2
      omega
def nmS (l : List Nat) : Prop := l.length ≤ 8 ∧ nmO l
theorem nmS.lt {b : Nat} {l : List Nat} (hb : 26 < b) (hb2 : b ≤ 32) (h : nmS l) : enc b l < 2 ^ 63 := by
  have h1 := enc_lt hb l.length l rfl h.2
  have h2 : b ^ l.length ≤ 32 ^ 8 := Nat.le_trans (Nat.pow_le_pow_left hb2 _) (Nat.pow_le_pow_right (by decide) h.1)
  have : (32 : Nat) ^ 8 = 1099511627776 := by decide
  omega
theorem nmS.eq {b : Nat} {l l' : List Nat} (hb : 26 < b) (hb2 : b ≤ 32) (h : nmS l) (h' : nmS l') : lN (enc b l) = lN (enc b l') ↔ l = l' := by
  rw [lN_inj (h.lt hb hb2) (h'.lt hb hb2)]
  exact ⟨enc_inj hb l.length l l' (Nat.le_refl _) h.2 h'.2, fun e => by rw [e]⟩
/-- a text of letters: its letters, its number to base 27 -/
def wlS (s : Nat) : List Nat := (ast s).map fun c => c.toNatClampNeg - 96
def isWd (s : Nat) : Bool := (wlS s).all (fun c => decide (1 ≤ c ∧ c ≤ 26)) && decide (ast s = (wlS s).map fun x => nI (x + 96)) && decide ((wlS s).length ≤ 8) && decide (0 < (wlS s).length)
theorem isWd_k : ∀ k, k < 25 → 4 ≤ k → isWd (2200 + k) = true := by decide +kernel
theorem isWd_f : ∀ k, k < 8 → isWd (2240 + k) = true := by decide +kernel
theorem isWd_s {s : Nat} (h : isWd s = true) : nmS (wlS s) ∧ ast s = (wlS s).map (fun x => nI (x + 96)) ∧ 0 < (wlS s).length := by
  unfold isWd at h
  rw [Bool.and_eq_true, Bool.and_eq_true, Bool.and_eq_true, List.all_eq_true] at h
  obtain ⟨⟨⟨h1, h2⟩, h3⟩, h4⟩ := h
  exact ⟨⟨of_decide_eq_true h3, fun c hc => of_decide_eq_true (h1 c hc)⟩, of_decide_eq_true h2, of_decide_eq_true h4⟩
section
variable {tp : List Nat} {q : Nat}
theorem enT_let (h : q < tp.length) (hl : isLt (sgT tp q) = true) : enT tp q = rnT isLt tp q := by
  unfold enT
  rw [if_pos h, if_pos hl]
theorem nm_let (h : q < tp.length) (hl : isLt (sgT tp q) = true) : nmO (nmT tp q) ∧ wdT tp q = (nmT tp q).map (fun x => nI (x + 96)) := by
  have all : ∀ i, i < nT tp q → 97 ≤ sgT tp (q + i) ∧ sgT tp (q + i) ≤ 122 := fun i hi => by
    unfold nT at hi
    rw [enT_let h hl] at hi
    exact of_decide_eq_true (rn_all (P := isLt) (Nat.le_of_lt h) (q + i) (by omega) (by omega))
  constructor
  · intro c hc
    unfold nmT nmP at hc
    obtain ⟨i, hi, rfl⟩ := List.mem_map.mp hc
    have := all i (List.mem_range.mp hi)
    omega
  · unfold wdT nmT nmP
    rw [List.map_map]
    refine List.map_congr_left (fun i hi => ?_)
    have := all i (List.mem_range.mp hi)
    show nI _ = nI (sgT tp (q + i) - 96 + 96)
    rw [Nat.sub_add_cancel (by omega)]
theorem nm_len : (nmT tp q).length = nT tp q := by
  unfold nmT nmP
  rw [List.length_map, List.length_range]
theorem toT_1 : toT tp q = 1 ↔ q < tp.length ∧ isLt (sgT tp q) = true ∧ nT tp q ≤ 8 := by
  unfold toT
  by_cases h : q < tp.length
  · rw [if_pos h]
    by_cases a : isLt (sgT tp q) = true
    · rw [if_pos a]
      by_cases b : nT tp q ≤ 8
      · rw [if_pos b]; exact ⟨fun _ => ⟨h, a, b⟩, fun _ => rfl⟩
      · rw [if_neg b]; exact ⟨fun e => absurd e (by decide), fun e => absurd e.2.2 b⟩
    · rw [if_neg a]
      refine ⟨fun e => ?_, fun e => absurd e.2.1 a⟩
      split at e
      · split at e <;> cases e
      · split at e <;> cases e
  · rw [if_neg h]
    exact ⟨fun e => absurd e (by decide), fun e => absurd e.1 h⟩
theorem toT_nm (h : toT tp q = 1) : nmS (nmT tp q) := by
  obtain ⟨h1, h2, h3⟩ := toT_1.mp h
  exact ⟨by rw [nm_len]; exact h3, (nm_let h1 h2).1⟩
/-- a text of letters is the token: by its number -/
theorem toT_word {s : Nat} (hs : isWd s = true) (h : toT tp q = 1) : lN (enc 27 (nmT tp q)) = lN (enc 27 (wlS s)) ↔ ast s = wdT tp q := by
  obtain ⟨w1, w2, w3⟩ := isWd_s hs
  obtain ⟨h1, h2, h3⟩ := toT_1.mp h
  rw [(toT_nm h).eq (by decide) (by decide) w1, w2, (nm_let h1 h2).2]
  constructor
  · intro e
    rw [e]
  · intro e
    refine List.ext_getElem? (fun i => ?_)
    have := congrArg (fun l : List Int32 => l[i]?) e
    simp only [List.getElem?_map] at this
    cases e1 : (nmT tp q)[i]? with
    | none =>
      rw [e1] at this
      cases e2 : (wlS s)[i]? with
      | none => rfl
      | some y => rw [e2] at this; cases this
    | some x =>
      rw [e1] at this
      cases e2 : (wlS s)[i]? with
      | none => rw [e2] at this; cases this
      | some y =>
        rw [e2] at this
        have h3 : nI (y + 96) = nI (x + 96) := Option.some.inj this
        have b1 := (nm_let h1 h2).1 x (List.mem_of_getElem? e1)
        have b2 := w1.2 y (List.mem_of_getElem? e2)
        rw [nI_eq (by omega) (by omega)] at h3
        rw [show x = y by omega]
/-- a text of letters that is the token makes it one of letters, not too long -/
theorem word_toT {s : Nat} (ht : okT tp) (hs : isWd s = true) (hl : q ≤ tp.length) (h : ast s = wdT tp q) : toT tp q = 1 := by
  obtain ⟨w1, w2, w3⟩ := isWd_s hs
  have hn : nT tp q = (wlS s).length := by
    rw [← wdT_len, ← h, w2, List.length_map]
  have hq : q < tp.length := by
    have : ¬ q = tp.length := fun e => by
      have := (nT_0 hl).mpr e
      omega
    omega
  refine toT_1.mpr ⟨hq, ?_, by have := w1.1; omega⟩
  have e0 : (wdT tp q)[0]? = some (nI (sgT tp q)) := by
    unfold wdT
    rw [List.getElem?_map, List.getElem?_range (by omega)]
    rfl
  rw [← h, w2, List.getElem?_map, List.getElem?_eq_getElem w3] at e0
  have e1 : nI ((wlS s)[0] + 96) = nI (sgT tp q) := Option.some.inj e0
  have b2 := w1.2 _ (List.getElem_mem w3)
  have := @sg_le tp q ht
  rw [nI_eq (by omega) (by omega)] at e1
  exact decide_eq_true (by omega)
theorem ast_dig : ∀ k, k < 33 → 4 ≤ k → ∀ c, c < 58 → 48 ≤ c → (ast (2200 + k))[0]? ≠ some (nI c) := by decide +kernel
theorem ast_ne : ∀ k, k < 33 → 4 ≤ k → 0 < (ast (2200 + k)).length := by decide +kernel
theorem wdT_0 (h : 0 < nT tp q) : (wdT tp q)[0]? = some (nI (sgT tp q)) := by
  unfold wdT
  rw [List.getElem?_map, List.getElem?_range h]
  rfl
theorem srT_k {k : Nat} (hl : q ≤ tp.length) (h4 : 4 ≤ k) (h33 : k < 33) : srT tp q = k ↔ ast (2200 + k) = wdT tp q := by
  constructor
  · intro e
    rcases srT_cases hl with ⟨-, e2⟩ | ⟨a, b, e2⟩ | ⟨-, -, k2, -, -, h2, e2⟩ | ⟨-, -, -, e2⟩
    · omega
    · split at e2 <;> omega
    · rw [e2] at e
      rw [← e]
      exact h2
    · rcases @srE_le tp q with x | ⟨x, -⟩ <;> omega
  · intro e
    have hn : 0 < nT tp q := by
      rw [← wdT_len, ← e]
      exact ast_ne k h33 h4
    rcases srT_cases hl with ⟨a, -⟩ | ⟨a, b, e2⟩ | ⟨-, -, k2, h4', h33', h2, e2⟩ | ⟨-, -, b, e2⟩
    · have := (nT_0 hl).mpr a
      omega
    · have b := of_decide_eq_true b
      have := ast_dig k h33 h4 (sgT tp q) (by omega) (by omega)
      rw [e, wdT_0 hn] at this
      exact absurd rfl this
    · rw [e2]
      exact ast_inj k h33 k2 h33' h4 (h2.trans e.symm)
    · exact absurd e (b k h33)
theorem srT_n2 (hl : q ≤ tp.length) : srT tp q = 2 ↔ toT tp q = 2 := by
  constructor
  · intro e
    obtain ⟨a, b, c⟩ := srT_2 hl e
    unfold toT
    rw [if_pos a, if_neg (by rw [dg_lt b]; decide), if_pos b, if_pos c]
  · intro e
    unfold toT at e
    split at e
    · rename_i a
      split at e
      · split at e <;> cases e
      · split at e
        · rename_i b
          split at e
          · rename_i c
            rcases srT_cases hl with ⟨a', -⟩ | ⟨-, -, e2⟩ | ⟨-, b', -⟩ | ⟨-, b', -⟩
            · omega
            · rw [if_pos c] at e2
              exact e2
            · rw [b] at b'; cases b'
            · rw [b] at b'; cases b'
          · cases e
        · split at e <;> cases e
    · cases e
theorem srT_n0 (hl : q ≤ tp.length) : srT tp q = 0 ↔ toT tp q = 0 := by
  constructor
  · intro e
    rcases srT_cases hl with ⟨a, -⟩ | ⟨a, b, e2⟩ | ⟨-, -, k2, h4', -, -, e2⟩ | ⟨-, -, -, e2⟩
    · unfold toT
      rw [if_neg (by omega)]
    · split at e2 <;> omega
    · omega
    · rcases @srE_le tp q with x | ⟨x, -⟩ <;> omega
  · intro e
    rcases srT_cases hl with ⟨a, e2⟩ | ⟨a, -⟩ | ⟨a, -⟩ | ⟨a, -⟩
    · exact e2
    all_goals
      unfold toT at e
      rw [if_pos a] at e
      split at e
      · split at e <;> cases e
      · split at e
        · split at e <;> cases e
        · split at e <;> cases e
/-- a name: letters, not too long, no kept word -/
theorem srT_n3 (ht : okT tp) (hl : q ≤ tp.length) : srT tp q = 3 ↔ toT tp q = 1 ∧ ∀ k, 4 ≤ k → k < 25 → ast (2200 + k) ≠ wdT tp q := by
  constructor
  · intro e
    obtain ⟨a, b, c, d⟩ := srT_3 hl e
    exact ⟨toT_1.mpr ⟨a, b, c⟩, fun k _ h => d k (by omega)⟩
  · rintro ⟨e, h⟩
    obtain ⟨a, b, c⟩ := toT_1.mp e
    rcases srT_cases hl with ⟨a', -⟩ | ⟨-, d, -⟩ | ⟨-, -, k, h4, h33, h2, e2⟩ | ⟨-, -, -, e2⟩
    · omega
    · rw [dg_lt d] at b; cases b
    · by_cases ck : k < 25
      · exact absurd h2 (h k h4 ck)
      · have hs : ∀ k, k < 33 → 25 ≤ k → ∀ c, c < 123 → 97 ≤ c → (ast (2200 + k))[0]? ≠ some (nI c) := by decide +kernel
        have b := of_decide_eq_true b
        have := hs k h33 (by omega) (sgT tp q) (by omega) (by omega)
        have hn : 0 < nT tp q := by
          rw [← wdT_len, ← h2]
          exact ast_ne k h33 h4
        rw [h2, wdT_0 hn] at this
        exact absurd rfl this
    · rw [e2]
      unfold srE
      rw [if_pos b, if_pos c]
/-- a sign -/
def sgK (k : Nat) : Nat := [40, 41, 60, 61, 43, 45, 42, 59].getD (k - 25) 0
theorem sgK_a : ∀ k, k < 33 → 25 ≤ k → ast (2200 + k) = [nI (sgK k)] ∧ isLt (sgK k) = false ∧ isDg (sgK k) = false ∧ ((40 ≤ sgK k ∧ sgK k ≤ 43) ∨ sgK k = 45 ∨ (59 ≤ sgK k ∧ sgK k ≤ 61)) := by decide +kernel
theorem srT_s {k : Nat} (ht : okT tp) (hl : q ≤ tp.length) (h25 : 25 ≤ k) (h33 : k < 33) : srT tp q = k ↔ toT tp q = 3 ∧ sgT tp q = sgK k := by
  obtain ⟨s1, s2, s3, s4⟩ := sgK_a k h33 h25
  rw [srT_k hl (by omega) h33, s1]
  constructor
  · intro e
    have hn : nT tp q = 1 := by rw [← wdT_len, ← e]; rfl
    have e0 := wdT_0 (tp := tp) (q := q) (by omega)
    rw [← e] at e0
    have e1 : nI (sgK k) = nI (sgT tp q) := Option.some.inj e0
    have := @sg_le tp q ht
    rw [nI_eq (by omega) (by omega)] at e1
    have hq : q < tp.length := by
      have : ¬ q = tp.length := fun e => by
        have := (nT_0 hl).mpr e
        omega
      omega
    refine ⟨?_, e1.symm⟩
    unfold toT
    rw [if_pos hq, ← e1, if_neg (by rw [s2]; decide), if_neg (by rw [s3]; decide), if_pos s4]
  · rintro ⟨e, es⟩
    have hq : q < tp.length := by
      refine Decidable.byContradiction (fun c => ?_)
      unfold toT at e
      rw [if_neg c] at e
      cases e
    have hn : nT tp q = 1 := by
      unfold nT enT
      rw [if_pos hq, es, if_neg (by rw [s2]; decide), if_neg (by rw [s3]; decide)]
      omega
    unfold wdT
    rw [hn, ← es]
    rfl
end
