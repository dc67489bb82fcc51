/-! facts, on both sides; a step laid, a code laid -/
theorem bT_1 {b : Bool} (h : b = true) : bT b = 1 := by rw [h]; rfl
theorem bT_0 {b : Bool} (h : b = false) : bT b = 0 := by rw [h]; rfl
theorem ast_kf : ∀ i, i < 8 → ∀ k, k < 25 → 4 ≤ k → ast (2200 + k) ≠ ast (2240 + i) := by decide +kernel
section
variable {d : Nat} {Q : Value → aS → Prop} {S : aS} {tp : List Nat} {q : Nat}
theorem fc_name {i : Nat} (ht : okT tp) (hl : q ≤ tp.length) (hi : i < 8) (h : ast (2240 + i) = wdT tp q) : srT tp q = 3 := (srT_n3 ht hl).mpr ⟨word_toT ht (isWd_f i hi) hl h, fun k h4 h25 e => ast_kf i hi k h25 h4 (e.trans h.symm)⟩
theorem wX_text {k : Nat} (ht : okT tp) (hs : tkX tp q S) (hl : q ≤ tp.length) (hk : k < 100) {f : Int32 → aS → Prop} (h1 : ast (2200 + k) = wdT tp q → f 1 S) (h0 : ast (2200 + k) ≠ wdT tp q → f 0 S) : aWX (d + 1) 113 [.ref 1, .ref (2200 + k)] S (fun v S2 => aI v (fun x => f x S2)) := by
  refine wX_hasText ht hs.1 hl hs.2.1 hs.2.2.1 hk ?_
  show f _ S
  cases e : txT tp q (2200 + k) with
  | true => exact h1 (txT_iff.mp e)
  | false => exact h0 (fun c => by rw [txT_iff.mpr c] at e; cases e)
/-- the fact told: of the writing (5 from 0), of the doing (3 from 5) -/
theorem wX_factTold {w : Bool} (ht : okT tp) (hs : tkX tp q S) (hl : q ≤ tp.length) (h1 : ∀ i, i < (if w = true then 5 else 3) → ast (2240 + ((if w = true then 0 else 5) + i)) = wdT tp q → Q (.int (nI i)) S) (h0 : (∀ i, i < (if w = true then 5 else 3) → ast (2240 + ((if w = true then 0 else 5) + i)) ≠ wdT tp q) → Q (.int (-1)) S) : aWX (d + 3) 15 [.ref 5, .int (bT w)] S Q := by
  refine mX_FormulaReader_factTold ?_
  refine wX_is (k := 3) hs (by decide) ?_
  by_cases c : srT tp q = 3
  · rw [decide_eq_true c]
    refine ⟨fun _ => ?_, fun q => absurd q (by decide)⟩
    cases w with
    | true =>
      refine ⟨fun q => absurd q (by decide), fun _ => ?_⟩
      refine mX_FormulaReader_factOfWrites ?_
      refine wX_text (k := 40) ht hs hl (by decide) (fun e => ⟨fun q => absurd q (by decide), fun _ => h1 0 (by decide) e⟩) (fun n0 => ⟨fun _ => ?_, fun q => absurd rfl q⟩)
      refine wX_text (k := 41) ht hs hl (by decide) (fun e => ⟨fun q => absurd q (by decide), fun _ => h1 1 (by decide) e⟩) (fun n1 => ⟨fun _ => ?_, fun q => absurd rfl q⟩)
      refine wX_text (k := 42) ht hs hl (by decide) (fun e => ⟨fun q => absurd q (by decide), fun _ => h1 2 (by decide) e⟩) (fun n2 => ⟨fun _ => ?_, fun q => absurd rfl q⟩)
      refine wX_text (k := 43) ht hs hl (by decide) (fun e => ⟨fun q => absurd q (by decide), fun _ => h1 3 (by decide) e⟩) (fun n3 => ⟨fun _ => ?_, fun q => absurd rfl q⟩)
      refine wX_text (k := 44) ht hs hl (by decide) (fun e => ⟨fun q => absurd q (by decide), fun _ => h1 4 (by decide) e⟩) (fun n4 => ⟨fun _ => ?_, fun q => absurd rfl q⟩)
      refine h0 (fun i hi => ?_)
      have hi : i < 5 := hi
      rcases show i = 0 ∨ i = 1 ∨ i = 2 ∨ i = 3 ∨ i = 4 by omega with rfl | rfl | rfl | rfl | rfl
      · exact n0
      · exact n1
      · exact n2
      · exact n3
      · exact n4
    | false =>
      refine ⟨fun _ => ?_, fun q => absurd rfl q⟩
      refine mX_FormulaReader_factOfDoes ?_
      refine wX_text (k := 45) ht hs hl (by decide) (fun e => ⟨fun q => absurd q (by decide), fun _ => h1 0 (by decide) e⟩) (fun n0 => ⟨fun _ => ?_, fun q => absurd rfl q⟩)
      refine wX_text (k := 46) ht hs hl (by decide) (fun e => ⟨fun q => absurd q (by decide), fun _ => h1 1 (by decide) e⟩) (fun n1 => ⟨fun _ => ?_, fun q => absurd rfl q⟩)
      refine wX_text (k := 47) ht hs hl (by decide) (fun e => ⟨fun q => absurd q (by decide), fun _ => h1 2 (by decide) e⟩) (fun n2 => ⟨fun _ => ?_, fun q => absurd rfl q⟩)
      refine h0 (fun i hi => ?_)
      have hi : i < 3 := hi
      rcases show i = 0 ∨ i = 1 ∨ i = 2 by omega with rfl | rfl | rfl
      · exact n0
      · exact n1
      · exact n2
  · rw [decide_eq_false c]
    refine ⟨fun q => absurd rfl q, fun _ => h0 (fun i hi e => c (fc_name ht hl (i := (if w = true then 0 else 5) + i) ?_ e))⟩
    cases w with
    | true =>
      have hi : i < 5 := hi
      show 0 + i < 8
      omega
    | false =>
      have hi : i < 3 := hi
      show 5 + i < 8
      omega
theorem wM_fact {w : Bool} (ht : okT tp) (hs : tkM tp q S) (hl : q ≤ tp.length) (hw : gi S 1000 24 = bT (!w)) (h1 : ∀ i, i < (if w = true then 5 else 3) → ast (2240 + ((if w = true then 0 else 5) + i)) = wdT tp q → Q (.int (nI ((if w = true then 0 else 5) + i + 1))) S) (h0 : (∀ i, i < (if w = true then 5 else 3) → ast (2240 + ((if w = true then 0 else 5) + i)) ≠ wdT tp q) → Q (.int 0) S) : aWM (d + 1) 11 [.ref 1000] S Q := by
  have h6 : toT tp q < 5 := by
    unfold toT
    repeat' split
    all_goals decide
  refine mM_fact ?_
  rw [hs.2.2.2.1, hw, show nI (toT tp q) = (1 : Int32) ↔ toT tp q = 1 from nI_eq (a := toT tp q) (b := 1) (by omega) (by decide)]
  refine ⟨fun c => ?_, fun c => h0 (fun i hi e => c (word_toT ht (isWd_f ((if w = true then 0 else 5) + i) ?_) hl e))⟩
  · rw [hs.2.2.2.2.1 c]
    have tx : ∀ i, i < 8 → (lN (enc 27 (nmT tp q)) = wW (2240 + i) ↔ ast (2240 + i) = wdT tp q) := fun i hi => toT_word (isWd_f i hi) c
    cases w with
    | true =>
      refine ⟨fun _ => ?_, fun q => absurd q (by decide)⟩
      refine kc2 (s := 2240) rfl (fun e => h1 0 (by decide) ((tx 0 (by decide)).mp e)) (fun n0 => ?_)
      refine kc2 (s := 2241) rfl (fun e => h1 1 (by decide) ((tx 1 (by decide)).mp e)) (fun n1 => ?_)
      refine kc2 (s := 2242) rfl (fun e => h1 2 (by decide) ((tx 2 (by decide)).mp e)) (fun n2 => ?_)
      refine kc2 (s := 2243) rfl (fun e => h1 3 (by decide) ((tx 3 (by decide)).mp e)) (fun n3 => ?_)
      refine kc2 (s := 2244) rfl (fun e => h1 4 (by decide) ((tx 4 (by decide)).mp e)) (fun n4 => ?_)
      refine h0 (fun i hi e => ?_)
      have hi : i < 5 := hi
      rcases show i = 0 ∨ i = 1 ∨ i = 2 ∨ i = 3 ∨ i = 4 by omega with rfl | rfl | rfl | rfl | rfl
      · exact n0 ((tx 0 (by decide)).mpr e)
      · exact n1 ((tx 1 (by decide)).mpr e)
      · exact n2 ((tx 2 (by decide)).mpr e)
      · exact n3 ((tx 3 (by decide)).mpr e)
      · exact n4 ((tx 4 (by decide)).mpr e)
    | false =>
      refine ⟨fun q => absurd rfl q, fun _ => ?_⟩
      refine kc2 (s := 2245) rfl (fun e => h1 0 (by decide) ((tx 5 (by decide)).mp e)) (fun n0 => ?_)
      refine kc2 (s := 2246) rfl (fun e => h1 1 (by decide) ((tx 6 (by decide)).mp e)) (fun n1 => ?_)
      refine kc2 (s := 2247) rfl (fun e => h1 2 (by decide) ((tx 7 (by decide)).mp e)) (fun n2 => ?_)
      refine h0 (fun i hi e => ?_)
      have hi : i < 3 := hi
      rcases show i = 0 ∨ i = 1 ∨ i = 2 by omega with rfl | rfl | rfl
      · exact n0 ((tx 5 (by decide)).mpr e)
      · exact n1 ((tx 6 (by decide)).mpr e)
      · exact n2 ((tx 7 (by decide)).mpr e)
  · cases w with
    | true =>
      have hi : i < 5 := hi
      show 0 + i < 8
      omega
    | false =>
      have hi : i < 3 := hi
      show 5 + i < 8
      omega
theorem wX_add {t b : Nat} {v : Int32} (ht : isFo t) (h5 : gi S t 5 = nI b) (hb : b ≤ 1000) (h : b < 1000 → Q .null (si (sa S (art t 3) b v) t 5 (nI (b + 1)))) (hfull : b = 1000 → Q .null S) : aWX (d + 1) 3 [.ref t, .int v] S Q := by
  obtain ⟨k0, -, -, ⟨k3, k4⟩, -⟩ := ht
  refine mX_Formula_add (gK_ok k0 (gK_ok k0 ?_))
  rw [h5, k4, show Int32.ofNat 1000 = nI 1000 from rfl, nI_leI (by decide) (by omega), nI_clamp (by omega)]
  refine ⟨fun c => absurd c (nI_pos (by omega)), fun _ => gK_ok k0 (gK_ok k0 (gK_ok k3 ⟨fun c => hfull (by omega), fun c => gK_ok k0 (gK_ok k0 (gK_ok k3 ⟨nI_in (by omega) (by omega), gK_ok k0 (gK_ok k0 ?_)⟩))⟩))⟩
  rw [gi_sa, h5, nI_1]
  exact h (by omega)
theorem wM_puts {c : Nat} {v : Int32} (h23 : gi S 1000 23 = nI c) (hc : c < 2000) (h : Q .null (si (sa S 1014 c v) 1000 23 (nI (c + 1)))) : aWM (d + 1) 10 [.ref 1000, .int v] S Q := by
  refine mM_puts ?_
  rw [gi_sa, h23, nI_clamp (by omega), nI_1]
  exact ⟨nI_in (by omega) (by omega), h⟩
end
