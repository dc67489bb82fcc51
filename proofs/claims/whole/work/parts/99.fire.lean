/-! the fewest to be burnt: both sides -/
def peace (r : zR) (z : zS) (s : Nat) : Prop := ∀ i j, i < zSp z → j < zSp z → clS r z i j = true → s.testBit i = true ∨ s.testBit j = true
def better (b m : Nat) : Prop := pcN b < pcN m ∨ (pcN b = pcN m ∧ b ≤ m)
def fireP (r : zR) (z : zS) (b : Nat) : Prop := peace r z b ∧ b ≤ 2 ^ zSp z - 1 ∧ ∀ m, m ≤ 2 ^ zSp z - 1 → peace r z m → better b m
theorem fireP_one {r : zR} {z : zS} {b c : Nat} (h : fireP r z b) (h2 : fireP r z c) : b = c := by
  have a1 := h.2.2 c h2.2.1 h2.1
  have a2 := h2.2.2 b h.2.1 h.1
  unfold better at a1 a2
  omega
theorem peace_all (r : zR) (z : zS) : peace r z (2 ^ zSp z - 1) := fun i j hi _ _ => Or.inl (by rw [Nat.testBit_two_pow_sub_one, decide_eq_true hi])
theorem fireP_ex {r : zR} {z : zS} (hz : okZ r z) : ∃ b, fireP r z b := by
  have hp := pow10 hz.2.2.1
  obtain ⟨k, ⟨b, b1, b2, b3⟩, hk⟩ := pk_least (fun k => ∃ b, b ≤ 2 ^ zSp z - 1 ∧ peace r z b ∧ pcN b * 2048 + b = k) ⟨_, 2 ^ zSp z - 1, Nat.le_refl _, peace_all r z, rfl⟩
  refine ⟨b, b2, b1, fun m hm hp2 => ?_⟩
  have := hk (pcN m * 2048 + m)
  unfold better
  rcases Nat.lt_or_ge (pcN m * 2048 + m) k with q | q
  · exact absurd ⟨m, hm, hp2, rfl⟩ (this q)
  · omega
theorem nSum_mono2 {f g : Nat → Nat} : ∀ n, (∀ k, k < n → f k ≤ g k) → nSum f n ≤ nSum g n ∧ (nSum g n ≤ nSum f n → ∀ k, k < n → f k = g k)
  | 0, _ => ⟨Nat.le_refl _, fun _ k hk => absurd hk (Nat.not_lt_zero _)⟩
  | n + 1, h => by
    obtain ⟨a, b⟩ := nSum_mono2 n (fun k hk => h k (by omega))
    have hn := h n (by omega)
    have e1 : nSum f (n + 1) = nSum f n + f n := rfl
    have e2 : nSum g (n + 1) = nSum g n + g n := rfl
    refine ⟨by omega, fun q k hk => ?_⟩
    rcases Nat.lt_or_ge k n with c | c
    · exact b (by omega) k c
    · rw [show k = n by omega]; omega
theorem pc_sub {m b : Nat} (hm : m < 4096) (hb : b < 4096) (h : ∀ i, m.testBit i = true → b.testBit i = true) : pcN m ≤ pcN b ∧ (pcN b ≤ pcN m → m = b) := by
  have key := nSum_mono2 (f := fun w => if m.testBit w = true then 1 else 0) (g := fun w => if b.testBit w = true then 1 else 0) 12 (fun k _ => by
    by_cases c : m.testBit k = true
    · rw [if_pos c, if_pos (h k c)]; exact Nat.le_refl _
    · rw [if_neg c]; exact Nat.zero_le _)
  refine ⟨key.1, fun q => Nat.eq_of_testBit_eq (fun i => ?_)⟩
  rcases Nat.lt_or_ge i 12 with c | c
  · have := key.2 q i c
    cases hmi : m.testBit i with
    | true => exact (h i hmi).symm
    | false =>
      cases hbi : b.testBit i with
      | false => rfl
      | true => rw [hmi, hbi] at this; exact absurd this (by decide)
  · rw [Nat.testBit_lt_two_pow (Nat.lt_of_lt_of_le hm (Nat.pow_le_pow_right (n := 2) (by decide) c)), Nat.testBit_lt_two_pow (Nat.lt_of_lt_of_le hb (Nat.pow_le_pow_right (n := 2) (by decide) c))]
theorem sub_le {m b : Nat} (h : ∀ i, m.testBit i = true → b.testBit i = true) : m ≤ b := by
  have : m &&& b = m := Nat.eq_of_testBit_eq (fun i => by
    rw [Nat.testBit_and]
    cases hmi : m.testBit i with
    | true => rw [h i hmi]; rfl
    | false => rfl)
  rw [← this]
  exact Nat.and_le_right
def maV (r : zR) (z : zS) : Nat → Nat
  | 0 => 0
  | k + 1 => maV r z k ||| foeV r z k
def muV (r : zR) (z : zS) : Nat → Nat
  | 0 => 0
  | k + 1 => muV r z k ||| (foeV r z k &&& 2 ^ k)
theorem maV_bit (r : zR) (z : zS) : ∀ k j, (maV r z k).testBit j = true ↔ ∃ i, i < k ∧ (foeV r z i).testBit j = true
  | 0, j => by
    show (0 : Nat).testBit j = true ↔ _
    rw [Nat.zero_testBit]
    constructor
    · intro q
      cases q
    · rintro ⟨i, q, -⟩
      exact absurd q (Nat.not_lt_zero _)
  | k + 1, j => by
    unfold maV
    rw [Nat.testBit_or, Bool.or_eq_true, maV_bit r z k j]
    constructor
    · rintro (⟨i, a, b⟩ | q)
      · exact ⟨i, by omega, b⟩
      · exact ⟨k, by omega, q⟩
    · rintro ⟨i, a, b⟩
      rcases Nat.lt_or_ge i k with q | q
      · exact Or.inl ⟨i, q, b⟩
      · rw [show i = k by omega] at b
        exact Or.inr b
theorem muV_bit (r : zR) (z : zS) : ∀ k j, (muV r z k).testBit j = true ↔ j < k ∧ (foeV r z j).testBit j = true
  | 0, j => by
    show (0 : Nat).testBit j = true ↔ _
    rw [Nat.zero_testBit]
    constructor
    · intro q
      cases q
    · rintro ⟨q, -⟩
      exact absurd q (Nat.not_lt_zero _)
  | k + 1, j => by
    unfold muV
    rw [Nat.testBit_or, Bool.or_eq_true, muV_bit r z k j, Nat.testBit_and, Bool.and_eq_true, Nat.testBit_two_pow, decide_eq_true_eq]
    constructor
    · rintro (⟨a, b⟩ | ⟨a, b⟩)
      · exact ⟨by omega, b⟩
      · subst b
        exact ⟨by omega, a⟩
    · rintro ⟨a, b⟩
      rcases Nat.lt_or_ge j k with q | q
      · exact Or.inl ⟨q, b⟩
      · obtain rfl : j = k := by omega
        exact Or.inr ⟨b, rfl⟩
theorem foe_iff {r : zR} {z : zS} {i j : Nat} : (foeV r z i).testBit j = true ↔ i < zSp z ∧ j < zSp z ∧ clS r z i j = true := by
  rw [foeV_bit, Bool.and_eq_true, Bool.and_eq_true, decide_eq_true_eq, decide_eq_true_eq]
def isFit (r : zR) (z : zS) (s : Nat) : Prop := (∀ i, (muV r z 10).testBit i = true → s.testBit i = true) ∧ ∀ i, s.testBit i = true → (maV r z 10).testBit i = true
section
variable {r : zR} {z : zS}
theorem maV_lt (hz : okZ r z) : ∀ k, maV r z k < 1024
  | 0 => show 0 < 1024 by decide
  | k + 1 => Nat.or_lt_two_pow (n := 10) (maV_lt hz k) (foeV_lt hz k)
theorem muV_lt (hz : okZ r z) : ∀ k, muV r z k < 1024
  | 0 => show 0 < 1024 by decide
  | k + 1 => Nat.or_lt_two_pow (n := 10) (muV_lt hz k) (Nat.lt_of_le_of_lt Nat.and_le_left (foeV_lt hz k))
theorem peace_ma (hz : okZ r z) : peace r z (maV r z 10) := fun i j hi hj h => Or.inr ((maV_bit r z 10 j).mpr ⟨i, by have := hz.2.2.1; omega, foe_iff.mpr ⟨hi, hj, h⟩⟩)
/-- what the class has found by the sets below k -/
def fiI (r : zR) (z : zS) (k b : Nat) : Prop := peace r z b ∧ (∀ i, b.testBit i = true → (maV r z 10).testBit i = true) ∧ (b = maV r z 10 ∨ b < k) ∧ ∀ m, m < k → isFit r z m → peace r z m → better b m
theorem fiI_new {k b : Nat} (h : fiI r z k b) (hf : isFit r z k) (hp : peace r z k) (hc : pcN k < pcN b) : fiI r z (k + 1) k := by
  obtain ⟨h1, h2, h3, h4⟩ := h
  refine ⟨hp, hf.2, Or.inr (by omega), fun m hm a1 a2 => ?_⟩
  rcases Nat.lt_or_ge m k with q | q
  · have := h4 m q a1 a2
    unfold better at this ⊢
    omega
  · rw [show m = k by omega]
    exact Or.inr ⟨rfl, Nat.le_refl _⟩
theorem fiI_old {k b : Nat} (hz : okZ r z) (h : fiI r z k b) (hk : k < maV r z 10) (hc : isFit r z k → peace r z k → ¬ pcN k < pcN b) : fiI r z (k + 1) b := by
  obtain ⟨h1, h2, h3, h4⟩ := h
  have hm := maV_lt hz (r := r) 10
  refine ⟨h1, h2, by omega, fun m hm2 a1 a2 => ?_⟩
  rcases Nat.lt_or_ge m k with q | q
  · exact h4 m q a1 a2
  · obtain rfl : m = k := by omega
    have c := hc a1 a2
    unfold better
    rcases h3 with e | e
    · have := (pc_sub (by omega) (by omega) a1.2).2 (by rw [← e]; omega)
      omega
    · omega
theorem fiI_end (hz : okZ r z) (hn : ∀ v w, v < rWd r → w < rWd r → rCl r v w = rCl r w v) {k b : Nat} (h : fiI r z k b) (hk : maV r z 10 ≤ k) : fireP r z b := by
  obtain ⟨h1, h2, h3, h4⟩ := h
  have hsp := hz.2.2.1
  have hm := maV_lt hz (r := r) 10
  have hbl := sub_le h2
  have hma : maV r z 10 ≤ 2 ^ zSp z - 1 := sub_le (fun i hi => by
    obtain ⟨j, -, j2⟩ := (maV_bit r z 10 i).mp hi
    rw [Nat.testBit_two_pow_sub_one, decide_eq_true (foe_iff.mp j2).2.1])
  refine ⟨h1, by omega, fun m hm1 hp => ?_⟩
  have hp10 := pow10 hsp
  have hmm : m &&& maV r z 10 ≤ m := Nat.and_le_left
  have hsub : ∀ i, (m &&& maV r z 10).testBit i = true → m.testBit i = true := fun i hi => by
    rw [Nat.testBit_and, Bool.and_eq_true] at hi
    exact hi.1
  have hsub2 : ∀ i, (m &&& maV r z 10).testBit i = true → (maV r z 10).testBit i = true := fun i hi => by
    rw [Nat.testBit_and, Bool.and_eq_true] at hi
    exact hi.2
  have hfoe : ∀ i j, i < zSp z → j < zSp z → clS r z i j = true → (maV r z 10).testBit i = true ∧ (maV r z 10).testBit j = true := fun i j hi hj h => ⟨(maV_bit r z 10 i).mpr ⟨j, by omega, foe_iff.mpr ⟨hj, hi, by rw [clS_comm hn hz hj hi]; exact h⟩⟩, (maV_bit r z 10 j).mpr ⟨i, by omega, foe_iff.mpr ⟨hi, hj, h⟩⟩⟩
  have hpm : peace r z (m &&& maV r z 10) := fun i j hi hj h => by
    obtain ⟨a, b⟩ := hfoe i j hi hj h
    rcases hp i j hi hj h with q | q
    · exact Or.inl (by rw [Nat.testBit_and, q, a]; rfl)
    · exact Or.inr (by rw [Nat.testBit_and, q, b]; rfl)
  have hfit : isFit r z (m &&& maV r z 10) := ⟨fun i hi => by
    obtain ⟨a, b⟩ := (muV_bit r z 10 i).mp hi
    obtain ⟨c1, c2, c3⟩ := foe_iff.mp b
    rcases hpm i i c1 c1 c3 with q | q <;> exact q, hsub2⟩
  have hpc := (pc_sub (m := m &&& maV r z 10) (b := m) (by omega) (by omega) hsub).1
  have hbm := (pc_sub (m := b) (b := maV r z 10) (by omega) (by omega) h2)
  unfold better
  rcases Nat.lt_or_ge (m &&& maV r z 10) (maV r z 10) with q | q
  · have := h4 _ (by omega) hfit hpm
    unfold better at this
    omega
  · have e : m &&& maV r z 10 = maV r z 10 := Nat.le_antisymm (sub_le hsub2) q
    rw [e] at hpc hmm
    have h5 := hbm.1
    rcases Nat.lt_or_ge (pcN b) (pcN m) with c | c
    · exact Or.inl c
    · have := hbm.2 (by omega)
      exact Or.inr ⟨by omega, by omega⟩
end
theorem bq_n {n : Nat} (hn : n < 2 ^ 31) (i : Nat) : bq (nI n) i = n.testBit i := by
  rw [bq_nI]
  by_cases e : i < 32
  · rw [decide_eq_true e, Bool.true_and]
  · rw [decide_eq_false e, Bool.false_and]
    exact (Nat.testBit_lt_two_pow (Nat.lt_of_lt_of_le hn (Nat.pow_le_pow_right (by decide) (by omega)))).symm
theorem and_not {a b : Nat} (ha : a < 2 ^ 12) (hb : b < 2 ^ 31) : ∃ n, n < 2 ^ 12 ∧ nI a &&& (nI b ^^^ -1) = nI n ∧ ∀ i, n.testBit i = (a.testBit i && !b.testBit i) := by
  have hbit : ∀ i, i < 32 → bq (nI a &&& (nI b ^^^ -1)) i = (a.testBit i && !b.testBit i) := fun i hi => by
    rw [bq_and, bq_not, bq_n (by omega), bq_n hb, decide_eq_true hi, Bool.true_and]
  obtain ⟨n, n1, n2, n3⟩ := bq_lt (x := nI a &&& (nI b ^^^ -1)) (m := 12) (by decide) (fun i h1 h2 => by
    rw [hbit i h2, Nat.testBit_lt_two_pow (Nat.lt_of_lt_of_le ha (Nat.pow_le_pow_right (by decide) h1))]
    rfl)
  refine ⟨n, n1, n2, fun i => ?_⟩
  rcases Nat.lt_or_ge i 32 with q | q
  · rw [n3, hbit i q]
  · rw [Nat.testBit_lt_two_pow (Nat.lt_of_lt_of_le n1 (Nat.pow_le_pow_right (by decide) (by omega))), Nat.testBit_lt_two_pow (Nat.lt_of_lt_of_le ha (Nat.pow_le_pow_right (by decide) (by omega)))]
    rfl
section
variable {d : Nat} {Q : Value → aS → Prop} {S : aS} {r : zR} {z : zS} {t : Nat}
def foX (r : zR) (z : zS) (S : aS) : Prop := ∀ i, i < 10 → ga S 127 i = nI (foeV r z i)
theorem wX_peace {s : Nat} (hz : okZ r z) (hF : foX r z S) (hs : s < 1024) (h1 : peace r z s → Q (.int 1) S) (h0 : ¬ peace r z s → Q (.int 0) S) : aWX (d + 1) 138 [.ref 0, .int (nI s)] S Q := by
  have hsp := hz.2.2.1
  refine mX_FoldedRealm_isPeaceWithout ?_
  have loop : ∀ m k, k + m = 10 → (∀ i j, i < k → i < zSp z → j < zSp z → clS r z i j = true → s.testBit i = true ∨ s.testBit j = true) → aBX d 138 Q 2 [some (.ref 0), some (.int (nI s)), some (.int (nI k))] [] S := by
    intro m
    induction m with
    | zero =>
      intro k hk hp
      obtain rfl : k = 10 := by omega
      exact bX_FoldedRealm_isPeaceWithout_2 ⟨fun _ => ⟨Or.inr rfl, h1 (fun i j hi hj h => hp i j (by omega) hi hj h)⟩, fun q => absurd (show (10 : Int32) ≤ nI 10 by decide) q⟩
    | succ m ih =>
      intro k hk hp
      have hlt := foeV_lt hz (r := r) k
      obtain ⟨n, n1, n2, n3⟩ := and_not (a := foeV r z k) (b := s) (by omega) (by omega)
      refine bX_FoldedRealm_isPeaceWithout_2 ?_
      rw [bitAt (by omega) (by omega), nI_clamp (by omega), hF k (by omega), n2, nI_eq0 (by omega), nI_1]
      refine ⟨fun q => absurd q (nI_ge (a := k) (b := 10) (by omega) (by decide)), fun _ => ⟨fun c => ih (k + 1) (by omega) (fun i j a1 a2 a3 a4 => ?_), fun c => ⟨nI_in (by omega) (by decide), fun c2 => ih (k + 1) (by omega) (fun i j a1 a2 a3 a4 => ?_), fun c2 => ⟨Or.inl rfl, h0 (fun hp2 => c2 (Nat.eq_of_testBit_eq (fun j => ?_)))⟩⟩⟩⟩
      · rcases Nat.lt_or_ge i k with q | q
        · exact hp i j q a2 a3 a4
        · rw [show i = k by omega]
          refine Or.inl ?_
          cases hb : s.testBit k with
          | true => rfl
          | false => rw [hb] at c; exact absurd rfl c
      · rcases Nat.lt_or_ge i k with q | q
        · exact hp i j q a2 a3 a4
        · obtain rfl : i = k := by omega
          refine Or.inr ?_
          have := n3 j
          rw [c2, Nat.zero_testBit, foe_iff.mpr ⟨a2, a3, a4⟩, Bool.true_and] at this
          cases hb : s.testBit j with
          | true => rfl
          | false => rw [hb] at this; cases this
      · rw [n3, Nat.zero_testBit]
        cases hb : (foeV r z k).testBit j with
        | false => rfl
        | true =>
          obtain ⟨a1, a2, a3⟩ := foe_iff.mp hb
          have hk0 : s.testBit k = false := by
            cases hb2 : s.testBit k with
            | false => rfl
            | true => rw [hb2] at c; exact absurd c (by decide)
          rcases hp2 k j a1 a2 a3 with q | q
          · rw [hk0] at q; cases q
          · rw [q]; rfl
  exact loop 10 0 rfl (fun i j hi => absurd hi (Nat.not_lt_zero _))
theorem bX_fire46 (hn : ∀ v w, v < rWd r → w < rWd r → rCl r v w = rCl r w v) (hz : okZ r z) (hF : foX r z S) (hx : ∀ b, fireP r z b → Q (.int (nI b)) S) : ∀ m k b, k + m = maV r z 10 → fiI r z k b → aBX (d + 1) 137 Q 46 [some (.ref 0), none, some (.int (nI (muV r z 10))), some (.int (nI (maV r z 10))), some (.int (nI b)), some (.int (nI k)), none] [] S := by
  have hma := maV_lt hz (r := r) 10
  have hmu := muV_lt hz (r := r) 10
  intro m
  induction m with
  | zero =>
    intro k b hk hI
    refine bX_FoldedRealm_fire_46 ⟨fun _ => hx b (fiI_end hz hn hI (by omega)), fun q => absurd (nI_le (by omega) (by omega)) q⟩
  | succ m ih =>
    intro k b hk hI
    have hbl := sub_le hI.2.1
    have no : ¬ isFit r z k → aBX (d + 1) 137 Q 63 [some (.ref 0), none, some (.int (nI (muV r z 10))), some (.int (nI (maV r z 10))), some (.int (nI b)), some (.int (nI k)), none] [.int 0] S := fun hnf => bX_FoldedRealm_fire_63 ⟨fun _ => by rw [nI_1]; exact ih (k + 1) b (by omega) (fiI_old hz hI (by omega) (fun a => absurd a hnf)), fun q => absurd rfl q⟩
    obtain ⟨n, n1, n2, n3⟩ := and_not (a := k) (b := maV r z 10) (by omega) (by omega)
    refine bX_FoldedRealm_fire_46 ?_
    rw [nI_andN, n2, nI_eq (by have := @Nat.and_le_left k (muV r z 10); omega) (by omega), nI_eq0 (by omega)]
    refine ⟨fun q => absurd q (nI_ge (by omega) (by omega)), fun _ => ⟨fun c => no (fun hf => c (Nat.eq_of_testBit_eq (fun i => ?_))), fun c => ⟨fun c2 => no (fun hf => c2 (Nat.eq_of_testBit_eq (fun i => ?_))), fun c2 => ?_⟩⟩⟩
    · rw [Nat.testBit_and]
      cases hb : (muV r z 10).testBit i with
      | false => rw [Bool.and_false]
      | true => rw [hf.1 i hb]; rfl
    · rw [n3, Nat.zero_testBit]
      cases hb : k.testBit i with
      | false => rfl
      | true => rw [hf.2 i hb]; rfl
    have hfit : isFit r z k := by
      refine ⟨fun i hi => ?_, fun i hi => ?_⟩
      · have : (k &&& muV r z 10).testBit i = true := by rw [c]; exact hi
        rw [Nat.testBit_and, Bool.and_eq_true] at this
        exact this.1
      · have := n3 i
        rw [c2, Nat.zero_testBit, hi, Bool.true_and] at this
        cases hb : (maV r z 10).testBit i with
        | true => rfl
        | false => rw [hb] at this; cases this
    have hpk := pcN_le k
    have hpb := pcN_le b
    refine bX_FoldedRealm_fire_63 ⟨fun q => absurd q (by decide), fun _ => wX_bitCount (by omega) (wX_bitCount (by omega) ?_)⟩
    simp only [aI]
    rw [nI_leI (by omega) (by omega), nI_1]
    refine ⟨fun e => ih (k + 1) b (by omega) (fiI_old hz hI (by omega) (fun _ _ => by omega)), fun e => wX_peace hz hF (by omega) (fun hp => ?_) (fun hp => ?_)⟩
    · exact ⟨fun q => absurd q (by decide), fun _ => ih (k + 1) k (by omega) (fiI_new hI hfit hp (by omega))⟩
    · exact ⟨fun _ => ih (k + 1) b (by omega) (fiI_old hz hI (by omega) (fun _ a => absurd a hp)), fun q => absurd rfl q⟩
end
theorem tie_fire : ok_fire Rel := by
  refine tie_q (fun g t ok hT => ?_)
  obtain ⟨okr, okn, ⟨okz, okl, okd⟩, okt⟩ := id ok
  obtain ⟨b, hb⟩ := fireP_ex (r := g.1) okz
  have hsp := okz.2.2.1
  have hp10 := pow10 hsp
  refine ⟨nI b, fun S Q h hx => ?_, fun S Q h hx => ?_⟩
  · refine mX_FoldedRealm_fire (d := 99) ?_
    have loop : ∀ m k S1, k + m = 10 → frY (fun i => i = 127) S S1 → (∀ i, i < k → ga S1 127 i = nI (foeV g.1 g.2.1.1 i)) → aBX 99 137 Q 10 [some (.ref 0), some (.ref 41), some (.int (nI (muV g.1 g.2.1.1 k))), some (.int (nI (maV g.1 g.2.1.1 k))), some (.int (nI k)), none, none] [] S1 := by
      intro m
      induction m with
      | zero =>
        intro k S1 hk hf hF
        obtain rfl : k = 10 := by omega
        refine bX_FoldedRealm_fire_10 ⟨fun _ => ?_, fun q => absurd (show (10 : Int32) ≤ nI 10 by decide) q⟩
        refine bX_fire46 (d := 98) okn.2 okz hF (fun c hc => ?_) (maV g.1 g.2.1.1 10) 0 (maV g.1 g.2.1.1 10) (by omega) ⟨peace_ma okz, fun i hi => hi, Or.inl rfl, fun m hm => absurd hm (Nat.not_lt_zero _)⟩
        rw [← fireP_one hb hc]
        exact hx S1 (hf.le (fun i q => Or.inr (by omega)))
      | succ m ih =>
        intro k S1 hk hf hF
        have h1 := h.2.1.kept hT hf (fun i hi q => by unfold rcX at hi; rcases hT with rfl | rfl <;> omega)
        have hs1 := h.2.2.1.1.keptY hf (fun i hi q => by have := stC_41.mp hi; omega)
        refine bX_FoldedRealm_fire_10 ⟨fun q => absurd q (nI_ge (a := k) (b := 10) (by omega) (by decide)), fun _ => ?_⟩
        rw [hf.gr, h.1.2.1]
        refine wX_foesOf (d := 95) okr okz stG_41 hT h1 hs1 (by omega) ⟨nI_in (by omega) (by decide), nI_in (by omega) (by decide), nI_in (by omega) (by decide), ?_⟩
        rw [nI_clamp (by omega), ga_sa, if_pos ⟨rfl, rfl⟩, (smod12 k (by omega)).2, nI_andN, nI_orN, nI_orN, nI_1]
        refine ih (k + 1) _ (by omega) (hf.tr (frY_sa rfl)) (fun i hi => ?_)
        rw [ga_sa]
        by_cases q : i = k
        · rw [if_pos ⟨rfl, q⟩, q]
        · rw [if_neg (fun a => q a.2)]
          exact hF i (by omega)
    exact loop 10 0 S rfl frY.rf (fun i hi => absurd hi (Nat.not_lt_zero _))
  · have h' := MM_0 ok h
    have hx := hx _ frM_0 (fun _ _ => rfl)
    refine mM_fire (d := 99) (wM_allWholes (d := 98) okz h'.2.1.1 ?_)
    generalize si S 1000 0 0 = S1 at *
    have hcl : ∀ k, k ≤ 2 ^ zSp g.2.1.1 - 1 → ∀ (X Y : aS → Prop), (¬ peace g.1 g.2.1.1 k → X S1) → (peace g.1 g.2.1.1 k → Y S1) → aWM 99 67 [.ref 1000, .int (nI (2 ^ zSp g.2.1.1 - 1) &&& (nI k ^^^ -1))] S1 (fun v1 S2 => aI v1 (fun x3 => (¬ x3 = 0 → X S2) ∧ (x3 = 0 → Y S2))) := by
      intro k hk X Y hX hY
      obtain ⟨n, n1, n2, n3⟩ := and_not (a := 2 ^ zSp g.2.1.1 - 1) (b := k) (by omega) (by omega)
      rw [n2]
      refine wM_clashesOf (d := 96) okr okz h'.1 h'.2.1.1 (by omega) ?_
      have hle : clN g.1 g.2.1.1 n.testBit ≤ 10 * 10 := Nat.le_trans (nSum_le (m := 10) (zSp g.2.1.1) (fun a ha => Nat.le_trans (nSum_le (m := 1) (a + 1) (fun b _ => by split <;> omega)) (by omega))) (by omega)
      have hz0 : clN g.1 g.2.1.1 n.testBit = 0 ↔ peace g.1 g.2.1.1 k := by
        have pt : ∀ i, i < zSp g.2.1.1 → n.testBit i = !k.testBit i := fun i hi => by rw [n3, Nat.testBit_two_pow_sub_one, decide_eq_true hi, Bool.true_and]
        constructor
        · intro q i j hi hj hc
          have hv : ∀ a b, a < zSp g.2.1.1 → b ≤ a → clS g.1 g.2.1.1 a b = true → k.testBit a = true ∨ k.testBit b = true := by
            intro a b ha hab hc
            have h1 := nSum_zero _ q a ha
            have h2 := nSum_zero _ h1 b (by omega)
            rw [pt a ha, pt b (by omega), hc] at h2
            cases ka : k.testBit a with
            | true => exact Or.inl rfl
            | false =>
              cases kb : k.testBit b with
              | true => exact Or.inr rfl
              | false => rw [ka, kb] at h2; exact absurd h2 (by decide)
          rcases Nat.lt_or_ge i j with e | e
          · exact (hv j i hj (by omega) (by rw [clS_comm okn.2 okz hj hi]; exact hc)).symm
          · exact hv i j hi e hc
        · intro hp
          have e0 : ∀ a, a < zSp g.2.1.1 → nSum (fun b => if (n.testBit a && n.testBit b && clS g.1 g.2.1.1 a b) = true then 1 else 0) (a + 1) = 0 := fun a ha => by
            have := nSum_le (f := fun b => if (n.testBit a && n.testBit b && clS g.1 g.2.1.1 a b) = true then 1 else 0) (m := 0) (a + 1) (fun b hb => by
              rw [if_neg (fun q => ?_)]
              · exact Nat.le_refl _
              · rw [Bool.and_eq_true, Bool.and_eq_true, pt a ha, pt b (by omega)] at q
                obtain ⟨⟨q1, q2⟩, q3⟩ := q
                rcases hp a b ha (by omega) q3 with e | e
                · rw [e] at q1; cases q1
                · rw [e] at q2; cases q2)
            omega
          have := nSum_le (f := fun a => nSum (fun b => if (n.testBit a && n.testBit b && clS g.1 g.2.1.1 a b) = true then 1 else 0) (a + 1)) (m := 0) (zSp g.2.1.1) (fun a ha => by rw [e0 a ha]; exact Nat.le_refl _)
          unfold clN
          omega
      show (¬ nI (clN g.1 g.2.1.1 n.testBit) = 0 → X S1) ∧ (nI (clN g.1 g.2.1.1 n.testBit) = 0 → Y S1)
      rw [nI_eq0 (by omega), hz0]
      exact ⟨hX, hY⟩
    have loop : ∀ m k v, k + m = 2 ^ zSp g.2.1.1 → ((v = -1 ∧ ∀ m, m < k → ¬ peace g.1 g.2.1.1 m) ∨ ∃ c, c < k ∧ v = nI c ∧ peace g.1 g.2.1.1 c ∧ ∀ m, m < k → peace g.1 g.2.1.1 m → better c m) → aBM 99 88 Q 10 [some (.ref 1000), some (.int (nI (2 ^ zSp g.2.1.1 - 1))), some (.int v), some (.int (nI k))] [] S1 := by
      intro m
      induction m with
      | zero =>
        intro k v hk hv
        have hpos : 0 < 2 ^ zSp g.2.1.1 := Nat.two_pow_pos _
        refine bM_fire_10 ⟨fun _ => ?_, fun q => absurd (nI_lt (by omega) (by omega)) q⟩
        rcases hv with ⟨-, a⟩ | ⟨c, c1, rfl, c3, c4⟩
        · exact absurd (peace_all g.1 g.2.1.1) (a _ (by omega))
        · have hc : fireP g.1 g.2.1.1 c := ⟨c3, by omega, fun m hm hp => c4 m (by omega) hp⟩
          rw [← fireP_one hb hc]
          exact hx
      | succ m ih =>
        intro k v hk hv
        refine bM_fire_10 ⟨fun q => absurd q (nI_nlt (by omega) (by omega)), fun _ => ?_⟩
        rw [nI_1]
        rcases hv with ⟨rfl, a⟩ | ⟨c, c1, rfl, c3, c4⟩
        · refine ⟨fun _ => hcl k (by omega) _ _ (fun hp => ih (k + 1) (-1) (by omega) (Or.inl ⟨rfl, fun m hm => ?_⟩)) (fun hp => ih (k + 1) (nI k) (by omega) (Or.inr ⟨k, by omega, rfl, hp, fun m hm hp2 => ?_⟩)), fun q => absurd (by decide) q⟩
          · rcases Nat.lt_or_ge m k with e | e
            · exact a m e
            · rw [show m = k by omega]; exact hp
          · rcases Nat.lt_or_ge m k with e | e
            · exact absurd hp2 (a m e)
            · rw [show m = k by omega]; exact Or.inr ⟨rfl, Nat.le_refl _⟩
        · have hpk := pcN_le k
          have hpc := pcN_le c
          refine ⟨fun q => absurd q (nI_pos (by omega)), fun _ => wM_bits (d := 98) (wM_bits (d := 98) ?_)⟩
          rw [bitN_pc (by omega) 12 (Nat.le_refl _), bitN_pc (by omega) 12 (Nat.le_refl _)]
          show (nI (pcN c) ≤ nI (pcN k) → _) ∧ (¬ nI (pcN c) ≤ nI (pcN k) → _)
          rw [nI_leI (by omega) (by omega)]
          have keep : (peace g.1 g.2.1.1 k → pcN c ≤ pcN k) → aBM 99 88 Q 10 [some (.ref 1000), some (.int (nI (2 ^ zSp g.2.1.1 - 1))), some (.int (nI c)), some (.int (nI (k + 1)))] [] S1 := fun hq => ih (k + 1) (nI c) (by omega) (Or.inr ⟨c, by omega, rfl, c3, fun m hm hp2 => by
            rcases Nat.lt_or_ge m k with e | e
            · exact c4 m e hp2
            · obtain rfl : m = k := by omega
              have := hq hp2
              unfold better
              omega⟩)
          refine ⟨fun e => keep (fun _ => e), fun e => hcl k (by omega) _ _ (fun hp => keep (fun q => absurd q hp)) (fun hp => ih (k + 1) (nI k) (by omega) (Or.inr ⟨k, by omega, rfl, hp, fun m hm hp2 => ?_⟩))⟩
          rcases Nat.lt_or_ge m k with e2 | e2
          · have := c4 m e2 hp2
            unfold better at this ⊢
            omega
          · rw [show m = k by omega]; exact Or.inr ⟨rfl, Nat.le_refl _⟩
    exact loop (2 ^ zSp g.2.1.1) 0 (-1) (by omega) (Or.inl ⟨rfl, fun m hm => absurd hm (Nat.not_lt_zero _)⟩)
