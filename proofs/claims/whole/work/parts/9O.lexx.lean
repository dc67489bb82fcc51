/-! the tokens of the class: sorts, steps -/
def bT (b : Bool) : Int32 := if b = true then 1 else 0
theorem gC_ok {k : Nat} {X : Prop} (h : k ≤ 99) (x : X) : aG (gC (2000 + k)) X := by
  unfold gC
  have : (Nat.ble 2000 (2000 + k) && Nat.ble (2000 + k) 2099) = true := by
    rw [Bool.and_eq_true]
    exact ⟨Nat.ble_eq.mpr (by omega), Nat.ble_eq.mpr (by omega)⟩
  rw [this]
  exact x
theorem gE_ok {k : Nat} {X : Prop} (h : k ≤ 32) (x : X) : aG (gE (2000 + k)) X := by
  unfold gE
  have : (Nat.ble 2000 (2000 + k) && Nat.ble (2000 + k) 2032) = true := by
    rw [Bool.and_eq_true]
    exact ⟨Nat.ble_eq.mpr (by omega), Nat.ble_eq.mpr (by omega)⟩
  rw [this]
  exact x
theorem srF_le {tp : List Nat} {q : Nat} : ∀ n k, k + n = 33 → srF tp q n k ≤ 32
  | 0, k, _ => by
    unfold srF
    split
    · split <;> omega
    · omega
  | n + 1, k, h => by
    unfold srF
    split
    · omega
    · exact srF_le n (k + 1) (by omega)
theorem srT_le {tp : List Nat} {q : Nat} : srT tp q ≤ 32 := by
  unfold srT
  split
  · omega
  · split
    · split <;> omega
    · exact srF_le 33 0 rfl
/-- the signs of a token, as numbers -/
def wdT (tp : List Nat) (q : Nat) : List Int32 := (List.range (nT tp q)).map fun i => nI (sgT tp (q + i))
theorem wdT_len {tp : List Nat} {q : Nat} : (wdT tp q).length = nT tp q := by
  unfold wdT
  rw [List.length_map, List.length_range]
theorem txT_iff {tp : List Nat} {q s : Nat} : txT tp q s = true ↔ ast s = wdT tp q := by
  unfold txT
  rw [Bool.and_eq_true, decide_eq_true_iff, List.all_eq_true]
  constructor
  · rintro ⟨h1, h2⟩
    refine List.ext_getElem? (fun i => ?_)
    by_cases c : i < asl s
    · have := of_decide_eq_true (h2 i (List.mem_range.mpr c))
      have c' : i < (ast s).length := c
      unfold asc at this
      rw [List.getD_eq_getElem?_getD, List.getElem?_eq_getElem c'] at this
      unfold wdT
      rw [List.getElem?_map, List.getElem?_range (by omega), List.getElem?_eq_getElem c']
      exact congrArg some this.symm
    · rw [List.getElem?_eq_none (by unfold asl at c; omega), List.getElem?_eq_none (by rw [wdT_len]; omega)]
  · intro h
    have hl : nT tp q = asl s := by
      unfold asl
      rw [h, wdT_len]
    refine ⟨hl, fun i hi => decide_eq_true ?_⟩
    have hi := List.mem_range.mp hi
    unfold asc
    rw [List.getD_eq_getElem?_getD, h]
    unfold wdT
    rw [List.getElem?_map, List.getElem?_range (by omega)]
    rfl
theorem ast_inj : ∀ k, k < 33 → ∀ j, j < 33 → 4 ≤ k → ast (2200 + j) = ast (2200 + k) → j = k := by decide +kernel
theorem ast_nil : ∀ j, j < 4 → ast (2200 + j) = [] := by decide +kernel
def srE (tp : List Nat) (q : Nat) : Nat := if isLt (sgT tp q) = true then (if nT tp q ≤ 8 then 3 else 1) else 1
theorem srF_hit {tp : List Nat} {q k : Nat} (h4 : 4 ≤ k) (h33 : k < 33) (h : ast (2200 + k) = wdT tp q) : ∀ n k0, k0 + n = 33 → k0 ≤ k → srF tp q n k0 = k
  | 0, k0, h1, h2 => by omega
  | n + 1, k0, h1, h2 => by
    unfold srF
    by_cases c : txT tp q (2200 + k0) = true
    · rw [if_pos c]
      exact ast_inj k h33 k0 (by omega) h4 ((txT_iff.mp c).trans h.symm)
    · rw [if_neg c]
      refine srF_hit h4 h33 h n (k0 + 1) (by omega) ?_
      by_cases e : k0 = k
      · rw [e] at c
        exact absurd (txT_iff.mpr h) c
      · omega
theorem srF_mis {tp : List Nat} {q : Nat} (h : ∀ k, k < 33 → ast (2200 + k) ≠ wdT tp q) : ∀ n k0, k0 + n = 33 → srF tp q n k0 = srE tp q
  | 0, k0, h1 => rfl
  | n + 1, k0, h1 => by
    unfold srF
    rw [if_neg (fun c => h k0 (by omega) (txT_iff.mp c))]
    exact srF_mis h n (k0 + 1) (by omega)
/-- what a token can be -/
theorem srT_cases {tp : List Nat} {q : Nat} (hl : q ≤ tp.length) : (q = tp.length ∧ srT tp q = 0) ∨ (q < tp.length ∧ isDg (sgT tp q) = true ∧ srT tp q = if nT tp q ≤ 4 then 2 else 1) ∨ (q < tp.length ∧ isDg (sgT tp q) = false ∧ ∃ k, 4 ≤ k ∧ k < 33 ∧ ast (2200 + k) = wdT tp q ∧ srT tp q = k) ∨ (q < tp.length ∧ isDg (sgT tp q) = false ∧ (∀ k, k < 33 → ast (2200 + k) ≠ wdT tp q) ∧ srT tp q = srE tp q) := by
  by_cases c : q = tp.length
  · refine Or.inl ⟨c, ?_⟩
    unfold srT
    rw [if_pos ((nT_0 hl).mpr c)]
  · have hn : ¬ nT tp q = 0 := fun e => c ((nT_0 hl).mp e)
    refine Or.inr ?_
    cases d : isDg (sgT tp q) with
    | true =>
      refine Or.inl ⟨by omega, rfl, ?_⟩
      unfold srT
      rw [if_neg hn, if_pos d]
    | false =>
      refine Or.inr ?_
      have e : srT tp q = srF tp q 33 0 := by
        unfold srT
        rw [if_neg hn, if_neg (by rw [d]; decide)]
      by_cases x : ∃ k, k < 33 ∧ ast (2200 + k) = wdT tp q
      · obtain ⟨k, h1, h2⟩ := x
        have h4 : 4 ≤ k := by
          refine Nat.le_of_not_lt (fun h => ?_)
          have := ast_nil k h
          rw [h2] at this
          have := congrArg List.length this
          rw [wdT_len] at this
          exact hn this
        exact Or.inl ⟨by omega, rfl, k, h4, h1, h2, e.trans (srF_hit h4 h1 h2 33 0 rfl (Nat.zero_le _))⟩
      · have hx : ∀ k, k < 33 → ast (2200 + k) ≠ wdT tp q := fun k h1 h2 => x ⟨k, h1, h2⟩
        exact Or.inr ⟨by omega, rfl, hx, e.trans (srF_mis hx 33 0 rfl)⟩
theorem srE_le {tp : List Nat} {q : Nat} : srE tp q = 1 ∨ (srE tp q = 3 ∧ isLt (sgT tp q) = true ∧ nT tp q ≤ 8) := by
  unfold srE
  by_cases c : isLt (sgT tp q) = true
  · rw [if_pos c]
    by_cases c2 : nT tp q ≤ 8
    · rw [if_pos c2]; exact Or.inr ⟨rfl, c, c2⟩
    · rw [if_neg c2]; exact Or.inl rfl
  · rw [if_neg c]; exact Or.inl rfl
theorem srT_2 {tp : List Nat} {q : Nat} (hl : q ≤ tp.length) (h : srT tp q = 2) : q < tp.length ∧ isDg (sgT tp q) = true ∧ nT tp q ≤ 4 := by
  rcases srT_cases hl with ⟨-, e⟩ | ⟨a, b, e⟩ | ⟨-, -, k, h4, -, -, e⟩ | ⟨-, -, -, e⟩
  · omega
  · refine ⟨a, b, Nat.le_of_not_lt (fun c => ?_)⟩
    rw [if_neg (by omega)] at e
    omega
  · omega
  · rcases @srE_le tp q with x | ⟨x, -⟩ <;> omega
theorem srT_3 {tp : List Nat} {q : Nat} (hl : q ≤ tp.length) (h : srT tp q = 3) : q < tp.length ∧ isLt (sgT tp q) = true ∧ nT tp q ≤ 8 ∧ ∀ k, k < 33 → ast (2200 + k) ≠ wdT tp q := by
  rcases srT_cases hl with ⟨-, e⟩ | ⟨a, b, e⟩ | ⟨-, -, k, h4, -, -, e⟩ | ⟨a, -, b, e⟩
  · omega
  · split at e <;> omega
  · omega
  · rcases @srE_le tp q with x | ⟨x, y⟩
    · omega
    · exact ⟨a, y.1, y.2, b⟩
theorem dg_lt {c : Nat} (h : isDg c = true) : isLt c = false := by
  have := of_decide_eq_true h
  exact decide_eq_false (by omega)
section
variable {d : Nat} {Q : Value → aS → Prop} {S : aS} {tp : List Nat} {p q : Nat}
theorem wX_hasText {k : Nat} (ht : okT tp) (hs : tpX tp S) (hl : q ≤ tp.length) (h3 : gi S 1 3 = nI q) (h2 : gi S 1 2 = nI (enT tp q)) (hk : k < 100) (h : Q (.int (bT (txT tp q (2200 + k)))) S) : aWX (d + 1) 113 [.ref 1, .ref (2200 + k)] S Q := by
  have h1 := ht.1
  have ha := asl_6 k hk
  have hge := @enT_ge tp q
  have hle := enT_le hl
  have en : nI (enT tp q) - nI q = nI (nT tp q) := nI_subN hge
  have hr : (2200 : Nat) ≤ 2200 + k ∧ 2200 + k ≤ 2299 := by omega
  refine mX_Tokens_hasText ⟨hr, ?_⟩
  rw [h2, h3, en]
  have hn : nT tp q = enT tp q - q := rfl
  have e0 : nI (nT tp q) = Int32.ofNat (asl (2200 + k)) ↔ nT tp q = asl (2200 + k) := nI_eq (by omega) (by omega)
  rw [e0]
  refine ⟨fun c => ?_, fun c => ⟨Or.inl rfl, ?_⟩⟩
  · have loop : ∀ n i, i + n = asl (2200 + k) → (∀ j, j < i → nI (sgT tp (q + j)) = asc (2200 + k) j) → aBX d 113 Q 12 [some (.ref 1), some (.ref (2200 + k)), some (.int (nI i))] [] S := by
      intro n
      induction n with
      | zero =>
        intro i hi hj
        refine bX_Tokens_hasText_12 ⟨hr, fun _ => ⟨Or.inr rfl, ?_⟩, fun c2 => absurd ((nI_leI (a := asl (2200 + k)) (b := i) (by omega) (by omega)).mpr (by omega)) c2⟩
        have e : txT tp q (2200 + k) = true := by
          unfold txT
          rw [Bool.and_eq_true]
          refine ⟨decide_eq_true c, List.all_eq_true.mpr (fun x hx => decide_eq_true (hj x ?_))⟩
          have := List.mem_range.mp hx
          omega
        rw [e] at h
        exact h
      | succ n ih =>
        intro i hi hj
        refine bX_Tokens_hasText_12 ⟨hr, fun c2 => absurd ((nI_leI (a := asl (2200 + k)) (b := i) (by omega) (by omega)).mp c2) (by omega), fun _ => ?_⟩
        rw [hs.1, h3, nI_add, nI_leI (by omega) (by omega), nI_clamp (by omega), nI_clamp (by omega), tp_ga hs (show q + i < tp.length by omega)]
        refine ⟨fun c2 => absurd c2 (by omega), fun _ => ⟨nI_in (by omega) (by omega), ⟨hr, nI_in (by omega) (by omega)⟩, fun c3 => ?_, fun c3 => ⟨Or.inl rfl, ?_⟩⟩⟩
        · rw [nI_1]
          refine ih (i + 1) (by omega) (fun j hj2 => ?_)
          by_cases cj : j = i
          · rw [cj]; exact c3
          · exact hj j (by omega)
        · have e : txT tp q (2200 + k) = false := by
            cases e : txT tp q (2200 + k) with
            | false => rfl
            | true =>
              unfold txT at e
              rw [Bool.and_eq_true] at e
              exact absurd (of_decide_eq_true (List.all_eq_true.mp e.2 i (List.mem_range.mpr (by omega)))) c3
          rw [e] at h
          exact h
    exact loop (asl (2200 + k)) 0 (by omega) (fun j hj => absurd hj (Nat.not_lt_zero _))
  · have e : txT tp q (2200 + k) = false := by
      unfold txT
      rw [decide_eq_false c]
      rfl
    rw [e] at h
    exact h
theorem wX_sortTaken (ht : okT tp) (hs : tpX tp S) (hl : q ≤ tp.length) (h3 : gi S 1 3 = nI q) (h2 : gi S 1 2 = nI (enT tp q)) (h : Q (.ref (2000 + srT tp q)) S) : aWX (d + 2) 112 [.ref 1] S Q := by
  have h1 := ht.1
  have hge := @enT_ge tp q
  have hle := enT_le hl
  have en : nI (enT tp q) - nI q = nI (nT tp q) := nI_subN hge
  have hn : nT tp q = enT tp q - q := rfl
  refine mX_Tokens_sortTaken ?_
  rw [h2, h3, en, nI_eq0 (by omega)]
  unfold srT at h
  refine ⟨fun c => wX_isDigit ht hs (by omega) ?_, fun c => ?_⟩
  · have hlt : q < tp.length := by
      have : ¬ q = tp.length := fun e => c ((nT_0 hl).mpr e)
      omega
    rw [if_neg c] at h
    by_cases cd : isDg (sgT tp q) = true
    · rw [if_pos ⟨hlt, cd⟩]
      rw [if_pos cd] at h
      refine ⟨fun q => absurd q (by decide), fun _ => ?_⟩
      rw [show (4 : Int32) = nI 4 from rfl, nI_leI (by omega) (by decide)]
      refine ⟨fun c4 => ?_, fun c4 => ?_⟩
      · rw [if_pos c4] at h; exact h
      · rw [if_neg c4] at h; exact h
    · rw [if_neg (fun q => cd q.2)]
      rw [if_neg cd] at h
      refine ⟨fun _ => ?_, fun q => absurd rfl q⟩
      have loop : ∀ n k, k + n = 33 → Q (.ref (2000 + srF tp q n k)) S → aBX (d + 1) 112 Q 24 [some (.ref 1), some (.int (nI (nT tp q))), some (.int (nI k))] [] S := by
        intro n
        induction n with
        | zero =>
          intro k hk hQ
          obtain rfl : k = 33 := by omega
          unfold srF at hQ
          refine bX_Tokens_sortTaken_24 ⟨fun _ => ?_, fun q => absurd (by decide) q⟩
          rw [h3]
          refine wX_isLetter ht hs (by omega) ?_
          rw [show (8 : Int32) = nI 8 from rfl, nI_ltI (by decide) (by omega)]
          by_cases cl : isLt (sgT tp q) = true
          · rw [if_pos ⟨hlt, cl⟩]
            rw [if_pos cl] at hQ
            refine ⟨fun q => absurd q (by decide), fun _ => ⟨fun c8 => ?_, fun c8 => ?_⟩⟩
            · rw [if_neg (by omega)] at hQ; exact hQ
            · rw [if_pos (by omega)] at hQ; exact hQ
          · rw [if_neg (fun q => cl q.2)]
            rw [if_neg cl] at hQ
            exact ⟨fun _ => hQ, fun q => absurd rfl q⟩
        | succ n ih =>
          intro k hk hQ
          refine bX_Tokens_sortTaken_24 ⟨fun q => absurd q (nI_ge (a := k) (b := 33) (by omega) (by decide)), fun _ => ⟨nI_in (by omega) (by decide), ?_⟩⟩
          rw [nI_clamp (by omega), show 2000 + k + 200 = 2200 + k by omega]
          refine gE_ok (by omega) (wX_hasText ht hs hl h3 h2 (by omega) ?_)
          unfold srF at hQ
          cases e : txT tp q (2200 + k) with
          | true =>
            rw [if_pos e] at hQ
            exact ⟨fun q => absurd q (by decide), fun _ => ⟨nI_in (by omega) (by decide), hQ⟩⟩
          | false =>
            rw [if_neg (by rw [e]; decide)] at hQ
            refine ⟨fun _ => ?_, fun q => absurd rfl q⟩
            rw [nI_1]
            exact ih (k + 1) (by omega) hQ
      exact loop 33 0 rfl h
  · rw [if_pos c] at h
    exact h
theorem wX_step (ht : okT tp) (hs : tpX tp S) (h2 : gi S 1 2 = nI p) (hl : p ≤ tp.length) (h : ∀ S', frK S S' → tkX tp (rnT isWs tp p) S' → Q .null S') : aWX (d + 3) 109 [.ref 1] S Q := by
  have h1 := ht.1
  have fin : ∀ T p, frK S T → gi T 1 2 = nI p → p ≤ tp.length → (∀ S', frK S S' → tkX tp p S' → Q .null S') → aBX (d + 2) 109 Q 26 [some (.ref 1)] [] T := by
    intro T p g1 g2 g3 g6
    refine bX_Tokens_step_26 ?_
    have f1 : frK S (si T 1 3 (gi T 1 2)) := g1.tr (frK_si (Or.inr (Or.inl rfl)))
    have t1 := f1.tp hs
    have a2 : gi (si T 1 3 (gi T 1 2)) 1 2 = nI p := by rw [gi_si, if_neg (by decide)]; exact g2
    have a3 : gi (si T 1 3 (gi T 1 2)) 1 3 = nI p := by rw [gi_si, if_pos ⟨rfl, rfl⟩]; exact g2
    generalize si T 1 3 (gi T 1 2) = U at f1 t1 a2 a3 ⊢
    rw [a2]
    have last : ∀ V, frK U V → gi V 1 3 = nI p → gi V 1 2 = nI (enT tp p) → (srT tp p = 2 → gi V 1 5 = nI (nvT tp p)) → (srT tp p = 3 → gl V 1 6 = lN (enc 32 (nmT tp p))) → aWX (d + 2) 112 [.ref 1] V (fun v7 S8 => aA v7 (fun x9 => Q .null (sr S8 1 4 x9))) := by
      intro V b1 b2 b3 b4 b5
      refine wX_sortTaken ht (b1.tp t1) g3 b2 b3 ?_
      refine g6 _ ((f1.tr b1).tr frK_sr) ⟨frK_sr.tp (b1.tp t1), b2, b3, ?_, b4, b5⟩
      rw [gr_sr, if_pos ⟨rfl, rfl⟩]
    refine wX_isLetter ht t1 (by omega) ?_
    by_cases cl : p < tp.length ∧ isLt (sgT tp p) = true
    · rw [if_pos cl]
      have e : enT tp p = rnT isLt tp p := by unfold enT; rw [if_pos cl.1, if_pos cl.2]
      refine ⟨fun q => absurd q (by decide), fun _ => wX_takeLetters ht t1 a2 g3 (fun V b1 b2 b3 b4 => ?_)⟩
      refine last V b1 (b2.trans a3) (by rw [e]; exact b3) (fun c => ?_) (fun c => ?_)
      · have := dg_lt (srT_2 g3 c).2.1
        rw [this] at cl
        exact absurd cl.2 (by decide)
      · unfold nmT nT
        rw [e]
        exact b4
    · rw [if_neg cl]
      refine ⟨fun _ => ?_, fun q => absurd rfl q⟩
      rw [a2]
      refine wX_isDigit ht t1 (by omega) ?_
      have n3 : ¬ srT tp p = 3 := fun c => cl ⟨(srT_3 g3 c).1, (srT_3 g3 c).2.1⟩
      by_cases cd : p < tp.length ∧ isDg (sgT tp p) = true
      · rw [if_pos cd]
        have e : enT tp p = rnT isDg tp p := by
          unfold enT
          rw [if_pos cd.1, if_neg (fun q => cl ⟨cd.1, q⟩), if_pos cd.2]
        refine ⟨fun q => absurd q (by decide), fun _ => wX_takeDigits ht t1 a2 g3 (fun V b1 b2 b3 b4 => ?_)⟩
        refine last V b1 (b2.trans a3) (by rw [e]; exact b3) (fun c => ?_) (fun c => absurd c n3)
        unfold nvT nT
        rw [e]
        exact b4
      · rw [if_neg cd]
        have n2 : ¬ srT tp p = 2 := fun c => cd ⟨(srT_2 g3 c).1, (srT_2 g3 c).2.1⟩
        refine ⟨fun _ => ?_, fun q => absurd rfl q⟩
        rw [t1.1, a2, nI_leI (by omega) (by omega)]
        refine ⟨fun c => ?_, fun c => ?_⟩
        · have e : enT tp p = p := by unfold enT; rw [if_neg (by omega)]
          exact last U frK.rf a3 (by rw [e]; exact a2) (fun c => absurd c n2) (fun c => absurd c n3)
        · have e : enT tp p = p + 1 := by
            unfold enT
            rw [if_pos (by omega), if_neg (fun q => cl ⟨by omega, q⟩), if_neg (fun q => cd ⟨by omega, q⟩)]
          refine last _ (frK_si (Or.inl rfl)) ?_ ?_ (fun c => absurd c n2) (fun c => absurd c n3)
          · rw [gi_si, if_neg (by decide)]; exact a3
          · rw [gi_si, if_pos ⟨rfl, rfl⟩, e, nI_1]
  have loop : ∀ n p0, p0 + n = tp.length → ∀ T, rnT isWs tp p0 = rnT isWs tp p → frK S T → gi T 1 2 = nI p0 → aBX (d + 2) 109 Q 0 [some (.ref 1)] [] T := by
    refine rn_ind (P := isWs) (tp := tp) (M := fun p0 => ∀ T, rnT isWs tp p0 = rnT isWs tp p → frK S T → gi T 1 2 = nI p0 → aBX (d + 2) 109 Q 0 [some (.ref 1)] [] T) (fun p0 hp hP ih T g1 g2 g4 => ?_) (fun p0 hp hP T g1 g2 g4 => ?_)
    · refine bX_Tokens_step_0 (ws_iff ht (g2.tp hs) g4 (by omega) (fun c => absurd ⟨hp, hP⟩ c) (fun _ _ => ih _ (by rw [← g1, rn_go hp hP]) (g2.tr (frK_si (Or.inl rfl))) ?_))
      rw [gi_si, if_pos ⟨rfl, rfl⟩, g4, nI_1]
    · have e : rnT isWs tp p = p0 := by rw [← g1, rn_no hP]
      exact bX_Tokens_step_0 (ws_iff ht (g2.tp hs) g4 hp (fun _ => fin T p0 g2 g4 hp (e ▸ h)) (fun c1 c2 => absurd ⟨c1, c2⟩ hP))
  refine mX_Tokens_step (ws_iff ht hs h2 hl (fun c => fin S p frK.rf h2 hl (fun S' a b => h S' a (by rw [rn_no c]; exact b))) (fun c1 c2 => loop (tp.length - (p + 1)) (p + 1) (by omega) _ (by rw [rn_go c1 c2]) (frK_si (Or.inl rfl)) ?_))
  rw [gi_si, if_pos ⟨rfl, rfl⟩, h2, nI_1]
theorem wX_nx (ht : okT tp) (hs : tkX tp q S) (hl : plT tp q) (h : ∀ S', frK S S' → tkX tp (nxT tp q) S' → Q .null S') : aWX (d + 3) 109 [.ref 1] S Q := wX_step ht hs.1 hs.2.2.1 (enT_le hl.1) h
theorem wX_is {k : Nat} (hs : tkX tp q S) (hk : k ≤ 32) (h : Q (.int (bT (decide (srT tp q = k)))) S) : aWX (d + 1) 107 [.ref 1, .ref (2000 + k)] S Q := by
  refine mX_Tokens_is ?_
  rw [hs.2.2.2.1]
  refine gC_ok (Nat.le_trans srT_le (by decide)) (gC_ok (by omega) ⟨fun c => ⟨Or.inl rfl, ?_⟩, fun c => ⟨Or.inr rfl, ?_⟩⟩)
  · rw [decide_eq_false (fun e => c (by rw [e]))] at h
    exact h
  · rw [decide_eq_true (by omega)] at h
    exact h
theorem wX_fail {k : Int32} (hs : tkX tp q S) (h : Q (.int 0) (si S 1 7 (k + 16 * nI q))) : aWX (d + 1) 106 [.ref 1, .int k] S Q := by
  refine mX_Tokens_fail ⟨Or.inl rfl, ?_⟩
  rw [hs.2.1]
  exact h
end
