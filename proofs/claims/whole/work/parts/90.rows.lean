/-! all rows with a chance, in their order -/
abbrev zW : Type := (Nat → Nat) × Nat × Nat
def pup (pre : Nat → Nat) (f w : Nat) : Nat → Nat := fun i => if i = f then w else pre i
def rowsL (r : zR) (z : zS) (s : Nat) : Nat → Nat → Nat → Nat → Nat → (Nat → Nat) → List zW
  | 0, _, _, A, B, pre => [(pre, A, B)]
  | n + 1, f, a, A, B, pre => (List.range (rWd r)).flatMap fun w => if rFd r w = f ∧ ¬ lkV r (wWho r s f) (zLe z w) w a = 0 then rowsL r z s n (f + 1) (rGo r w) (A * lkV r (wWho r s f) (zLe z w) w a) (B * alV r z (wWho r s f) f a) (pup pre f w) else []
def rowsZ (r : zR) (z : zS) : List zW := rowsL r z (zSe z) (rFo r - zWr z) (zWr z) (ahV r z) 1 1 (zSt z)
def okRw (r : zR) (x : zW) : Prop := rowW r x.1 0 ∧ 0 < x.2.1 ∧ x.2.1 ≤ x.2.2 ∧ x.2.1 ≤ 10 ^ 8 ∧ x.2.2 ≤ 1188 ^ 4
theorem rowsL_ok {r : zR} (hr : okR r) (z : zS) (s : Nat) : ∀ n f a A B pre, f + n = rFo r → (∀ i, i < f → pre i < rWd r ∧ rFd r (pre i) = i) → 0 < A → A ≤ B → A ≤ 99 ^ (4 - n) → B ≤ 1188 ^ (4 - n) → ∀ x, x ∈ rowsL r z s n f a A B pre → okRw r x := by
  have hfo := hr.2.2.1.2
  intro n
  induction n with
  | zero =>
    intro f a A B pre hf hp h0 hAB hA hB x hx
    unfold rowsL at hx
    rw [List.mem_singleton] at hx
    subst hx
    simp only [Nat.sub_zero] at hA hB
    exact ⟨fun i _ h2 => hp i (by omega), h0, hAB, by show A ≤ 10 ^ 8; omega, hB⟩
  | succ n ih =>
    intro f a A B pre hf hp h0 hAB hA hB x hx
    unfold rowsL at hx
    obtain ⟨w, hw, hx⟩ := List.mem_flatMap.mp hx
    rw [List.mem_range] at hw
    by_cases c : rFd r w = f ∧ ¬ lkV r (wWho r s f) (zLe z w) w a = 0
    · rw [if_pos c] at hx
      have h1 := lkV_le hr (okW_who (r := r) s f) hw (zLe z w) a
      have h2 := alV_le hr z (okW_who (r := r) s f) f a
      have h3 := lk_le_al z (o := wWho r s f) (a := a) hw c.1
      have e4 : 4 - n = (4 - (n + 1)) + 1 := by omega
      refine ih (f + 1) _ _ _ _ (by omega) (fun i hi => ?_) (Nat.mul_pos h0 (by omega)) (Nat.mul_le_mul hAB h3) (by rw [e4, Nat.pow_succ]; exact Nat.mul_le_mul hA h1) (by rw [e4, Nat.pow_succ]; exact Nat.mul_le_mul hB h2) x hx
      unfold pup
      by_cases e : i = f
      · rw [if_pos e]; exact ⟨hw, by rw [e]; exact c.1⟩
      · rw [if_neg e]; exact hp i (by omega)
    · rw [if_neg c] at hx
      cases hx
theorem rowsZ_ok {r : zR} {z : zS} (hr : okR r) (hz : okZ r z) : ∀ x, x ∈ rowsZ r z → okRw r x := by
  have := hz.2.1
  exact rowsL_ok hr z _ _ _ _ 1 1 _ (by omega) (fun i hi => hz.2.2.2.1 i hi) (by decide) (by decide) (Nat.one_le_pow _ _ (by decide)) (Nat.one_le_pow _ _ (by decide))
/-- how many words a fold has -/
def cwF (r : zR) (f : Nat) : Nat := cntB r (fun _ => true) f
def prF (r : zR) : Nat → Nat → Nat
  | 0, _ => 1
  | n + 1, f => cwF r f * prF r n (f + 1)
theorem flat_len {r : zR} {f M : Nat} {g : Nat → List zW} (h1 : ∀ w, rFd r w = f → (g w).length ≤ M) (h2 : ∀ w, ¬ rFd r w = f → g w = []) : ∀ k, ((List.range k).flatMap g).length ≤ nSum (fun w => if rFd r w = f ∧ true = true then 1 else 0) k * M
  | 0 => Nat.zero_le _
  | k + 1 => by
    have ih := flat_len (r := r) h1 h2 k
    rw [List.range_succ, List.flatMap_append, List.length_append, List.flatMap_singleton]
    show _ ≤ (nSum (fun w => if rFd r w = f ∧ true = true then 1 else 0) k + (if rFd r k = f ∧ true = true then 1 else 0)) * M
    rw [Nat.add_mul]
    by_cases c : rFd r k = f
    · rw [if_pos ⟨c, rfl⟩, Nat.one_mul]
      have := h1 k c
      omega
    · rw [if_neg (fun q => c q.1), h2 k c, Nat.zero_mul]
      simpa using ih
theorem rowsL_len (r : zR) (z : zS) (s : Nat) : ∀ n f a A B pre, (rowsL r z s n f a A B pre).length ≤ prF r n f := by
  intro n
  induction n with
  | zero => intro f a A B pre; exact Nat.le_refl 1
  | succ n ih =>
    intro f a A B pre
    unfold rowsL prF cwF cntB
    refine flat_len (fun w hw => ?_) (fun w hw => if_neg (fun q => hw q.1)) (rWd r)
    split
    · exact ih _ _ _ _ _
    · exact Nat.zero_le _
theorem pr2 : ∀ a, a < 13 → ∀ b, b < 13 → a * b ≤ (a + b) / 2 * ((a + b + 1) / 2) := by decide +kernel
theorem pr3 : ∀ a, a < 13 → ∀ b, b < 13 → a + b ≤ 12 → a / 2 * ((a + 1) / 2) * (b / 2 * ((b + 1) / 2)) ≤ 81 ∧ a / 2 * ((a + 1) / 2) * b ≤ 81 ∧ a / 2 * ((a + 1) / 2) ≤ 81 := by decide +kernel
theorem pr4 {a b c d : Nat} (h : a + b + c + d ≤ 12) : a * b * (c * d) ≤ 81 ∧ a * b * c ≤ 81 ∧ a * b ≤ 81 ∧ b * c * d ≤ 81 ∧ b * c ≤ 81 ∧ c * d ≤ 81 := by
  have h1 := pr2 a (by omega) b (by omega)
  have h2 := pr2 c (by omega) d (by omega)
  have h3 := pr2 b (by omega) c (by omega)
  have h4 := pr3 (a + b) (by omega) (c + d) (by omega) (by omega)
  have h5 := pr3 (a + b) (by omega) c (by omega) (by omega)
  have h6 := pr3 (b + c) (by omega) d (by omega) (by omega)
  have h7 := pr3 (c + d) (by omega) 0 (by omega) (by omega)
  exact ⟨Nat.le_trans (Nat.mul_le_mul h1 h2) h4.1, Nat.le_trans (Nat.mul_le_mul_right _ h1) h5.2.1, Nat.le_trans h1 h4.2.2, Nat.le_trans (Nat.mul_le_mul_right _ h3) h6.2.1, Nat.le_trans h3 h6.2.2, Nat.le_trans h2 h7.2.2⟩
theorem prF_le {r : zR} (hr : okR r) {f0 : Nat} (hf : f0 < rFo r) : prF r (rFo r - f0) f0 ≤ 81 := by
  have hs : nSum (fun _ => if true = true then 1 else 0) (rWd r) = cwF r 0 + cwF r 1 + cwF r 2 + cwF r 3 := cnt_all hr (fun _ => true) (rWd r) (Nat.le_refl _)
  have hl := nSum_le (f := fun _ => if true = true then 1 else 0) (m := 1) (rWd r) (fun k _ => by split <;> omega)
  have hwd := hr.2.1
  have hp := pr4 (a := cwF r 0) (b := cwF r 1) (c := cwF r 2) (d := cwF r 3) (by omega)
  have c30 : cwF r 3 ≤ 12 := by omega
  have c20 : cwF r 2 ≤ 12 := by omega
  have hfo := hr.2.2.1
  have hc : (rFo r = 2 ∨ rFo r = 3 ∨ rFo r = 4) ∧ (f0 = 0 ∨ f0 = 1 ∨ f0 = 2 ∨ f0 = 3) := ⟨by omega, by omega⟩
  obtain ⟨c1, c2⟩ := hc
  rcases c1 with e | e | e <;> rcases c2 with q | q | q | q <;> rw [e] at hf ⊢ <;> subst q <;> simp only [prF, Nat.mul_one, Nat.reduceSub, Nat.reduceAdd] <;> first | omega | (rw [← Nat.mul_assoc]; omega)
theorem rowsZ_len {r : zR} {z : zS} (hr : okR r) (hz : okZ r z) : (rowsZ r z).length ≤ 81 := Nat.le_trans (rowsL_len r z _ _ _ _ _ _ _) (prF_le hr hz.2.1)
def bsStep (b : Option zW) (x : zW) : Option zW := match b with
  | none => some x
  | some y => if lN x.2.1 * lN y.2.2 ≤ lN y.2.1 * lN x.2.2 then some y else some x
def bsS (L : List zW) : Option zW := L.foldl bsStep none
def dsR (r : zR) (z : zS) (x : zW) : Nat := dsV r (zSp z) (nSum (fun i => rGo r (x.1 i)) (rFo r)) (nMax (fun i => rGo r (x.1 i)) (rFo r))
def wrStep (r : zR) (z : zS) (b : Option Nat) (x : zW) : Option Nat := match b with
  | none => some (dsR r z x)
  | some m => if m ≤ dsR r z x then some m else some (dsR r z x)
def wrS (r : zR) (z : zS) (L : List zW) : Option Nat := L.foldl (wrStep r z) none
def mnS (r : zR) (z : zS) (L : List zW) : Nat := L.foldl (fun n x => n + dsR r z x * (x.2.1 * 1000000 / x.2.2)) 0
theorem bsS_snoc (L : List zW) (x : zW) : bsS (L ++ [x]) = bsStep (bsS L) x := by
  unfold bsS
  rw [List.foldl_append]
  rfl
theorem wrS_snoc (r : zR) (z : zS) (L : List zW) (x : zW) : wrS r z (L ++ [x]) = wrStep r z (wrS r z L) x := by
  unfold wrS
  rw [List.foldl_append]
  rfl
theorem mnS_snoc (r : zR) (z : zS) (L : List zW) (x : zW) : mnS r z (L ++ [x]) = mnS r z L + dsR r z x * (x.2.1 * 1000000 / x.2.2) := by
  unfold mnS
  rw [List.foldl_append]
  rfl
theorem wrS_le (r : zR) (z : zS) : ∀ L m, wrS r z L = some m → m ≤ 99 := by
  have key : ∀ (L : List zW) b, (∀ m, b = some m → m ≤ 99) → ∀ m, L.foldl (wrStep r z) b = some m → m ≤ 99 := by
    intro L
    induction L with
    | nil => intro b hb m hm; exact hb m hm
    | cons x L ih =>
      intro b hb m hm
      refine ih (wrStep r z b x) (fun k hk => ?_) m hm
      have hd := dsV_le r (zSp z) (nSum (fun i => rGo r (x.1 i)) (rFo r)) (nMax (fun i => rGo r (x.1 i)) (rFo r))
      cases b with
      | none => cases hk; exact hd
      | some j =>
        unfold wrStep at hk
        dsimp only at hk
        split at hk
        · cases hk; exact hb _ rfl
        · cases hk; exact hd
  intro L m hm
  exact key L none (fun _ h => by cases h) m hm
