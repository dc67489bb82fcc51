/-! small questions, on either side -/
def idx (n : Nat) (x : Int32) : Option Nat := if x < 0 ∨ nI n ≤ x then none else some x.toNatClampNeg
theorem idx_none {n : Nat} {x : Int32} (h : x < 0 ∨ nI n ≤ x) : idx n x = none := if_pos h
theorem idx_some {n j : Nat} (hn : n < 2 ^ 31) (h : j < n) : idx n (nI j) = some j := by
  unfold idx
  rw [if_neg (fun q => q.elim (nI_pos (by omega)) (nI_ge h hn)), nI_clamp (by omega)]
theorem idx_cases (n : Nat) (hn : n < 2 ^ 31) (x : Int32) : (idx n x = none ∧ (x < 0 ∨ (¬ x < 0 ∧ nI n ≤ x))) ∨ ∃ j, j < n ∧ x = nI j ∧ idx n x = some j := by
  by_cases c1 : x < 0
  · exact Or.inl ⟨idx_none (Or.inl c1), Or.inl c1⟩
  · by_cases c2 : nI n ≤ x
    · exact Or.inl ⟨idx_none (Or.inr c2), Or.inr ⟨c1, c2⟩⟩
    · obtain ⟨j, hj, rfl, -⟩ := nI_get hn c1 c2
      exact Or.inr ⟨j, hj, rfl, idx_some hn hj⟩
/-- the class's Realm at cell t tells r (its laws apart) -/
def rlX (r : zR) (S : aS) (t : Nat) : Prop := gi S t 0 = nI (rWr r) ∧ gi S t 3 = nI (rWd r) ∧ gi S t 12 = nI (rFo r) ∧ gi S t 11 = nI (rPa r) ∧ (∀ k, k < rWr r → ga S (art t 1) k = nI (rKi r k)) ∧ (∀ w, w < rWd r → ga S (art t 4) w = nI (rFd r w)) ∧ (∀ w, w < rWd r → ga S (art t 5) w = nI (rWe r w)) ∧ (∀ w, w < rWd r → ga S (art t 6) w = nI (rGo r w)) ∧ (∀ w, w < rWd r → ga S (art t 7) w = nI (rLe r w)) ∧ ∀ k w, k < rWr r → w < rWd r → ga S (art t 9) (12 * k + w) = nI (rLi r k w)
/-- the reference's rows tell r (its laws apart) -/
def rlM (r : zR) (S : aS) : Prop := ga S 1002 0 = nI (rWr r) ∧ ga S 1002 1 = nI (rWd r) ∧ ga S 1002 2 = nI (rFo r) ∧ ga S 1002 3 = nI (rPa r) ∧ (∀ k, k < rWr r → ga S 1005 k = nI (rKi r k)) ∧ (∀ w, w < rWd r → ga S 1006 w = nI (rFd r w)) ∧ (∀ w, w < rWd r → ga S 1007 w = nI (rWe r w)) ∧ (∀ w, w < rWd r → ga S 1008 w = nI (rGo r w)) ∧ (∀ w, w < rWd r → ga S 1009 w = nI (rLe r w)) ∧ ∀ k w, k < rWr r → w < rWd r → ga S 1010 (12 * k + w) = nI (rLi r k w)
def isRe (t : Nat) : Prop := akd t = 6 ∧ (akd (art t 1) = 20 ∧ aln (art t 1) = 5) ∧ (akd (art t 4) = 20 ∧ aln (art t 4) = 12) ∧ (akd (art t 5) = 20 ∧ aln (art t 5) = 12) ∧ (akd (art t 6) = 20 ∧ aln (art t 6) = 12) ∧ (akd (art t 7) = 20 ∧ aln (art t 7) = 12) ∧ (akd (art t 9) = 20 ∧ aln (art t 9) = 60) ∧ (akd (art t 10) = 20 ∧ aln (art t 10) = 12)
theorem isRe_6 : isRe 6 := ⟨rfl, ⟨rfl, rfl⟩, ⟨rfl, rfl⟩, ⟨rfl, rfl⟩, ⟨rfl, rfl⟩, ⟨rfl, rfl⟩, ⟨rfl, rfl⟩, ⟨rfl, rfl⟩⟩
theorem isRe_23 : isRe 23 := ⟨rfl, ⟨rfl, rfl⟩, ⟨rfl, rfl⟩, ⟨rfl, rfl⟩, ⟨rfl, rfl⟩, ⟨rfl, rfl⟩, ⟨rfl, rfl⟩, ⟨rfl, rfl⟩⟩
theorem nI_mulN (a b : Nat) : nI a * nI b = nI (a * b) := (Int32.ofNat_mul a b).symm
def bI (o : Option Nat) : Int32 := match o with
  | some _ => 1
  | none => 0
theorem bI_some {j : Nat} : ¬ bI (some j) = 0 := by
  show ¬ (1 : Int32) = 0
  decide
section
variable {d : Nat} {Q : Value → aS → Prop} {S : aS} {t : Nat} {r : zR} {x y : Int32}
theorem wX_hasWord (hr : okR r) (ht : isRe t) (hs : rlX r S t) (h : Q (.int (bI (idx (rWd r) x))) S) : aWX (d + 1) 57 [.ref t, .int x] S Q := by
  have hw := hr.2.1
  refine mX_Realm_hasWord ?_
  simp only [aG, gK, ht.1, hs.2.1, Nat.beq_refl, cond_true, true_or, or_true, true_and]
  rcases idx_cases (rWd r) (by omega) x with ⟨e, c | ⟨c1, c2⟩⟩ | ⟨j, hj, rfl, e⟩
  · rw [e] at h
    exact ⟨fun _ => h, fun q => absurd c q⟩
  · rw [e] at h
    exact ⟨fun q => absurd q c1, fun _ => ⟨fun _ => h, fun q => absurd c2 q⟩⟩
  · rw [e] at h
    exact ⟨fun q => absurd q (nI_pos (by omega)), fun _ => ⟨fun q => absurd q (nI_ge hj (by omega)), fun _ => ⟨fun q => absurd q (nI_ge (a := j) (b := 12) (by omega) (by decide)), fun _ => h⟩⟩⟩
theorem wX_hasWriter (hr : okR r) (ht : isRe t) (hs : rlX r S t) (h : Q (.int (bI (idx (rWr r) x))) S) : aWX (d + 1) 56 [.ref t, .int x] S Q := by
  have hw := hr.1
  refine mX_Realm_hasWriter ?_
  simp only [aG, gK, ht.1, hs.1, Nat.beq_refl, cond_true, true_or, or_true, true_and]
  rcases idx_cases (rWr r) (by omega) x with ⟨e, c | ⟨c1, c2⟩⟩ | ⟨j, hj, rfl, e⟩
  · rw [e] at h
    exact ⟨fun _ => h, fun q => absurd c q⟩
  · rw [e] at h
    exact ⟨fun q => absurd q c1, fun _ => ⟨fun _ => h, fun q => absurd c2 q⟩⟩
  · rw [e] at h
    exact ⟨fun q => absurd q (nI_pos (by omega)), fun _ => ⟨fun q => absurd q (nI_ge hj (by omega)), fun _ => ⟨fun q => absurd q (nI_ge (a := j) (b := 5) (by omega) (by decide)), fun _ => h⟩⟩⟩
/-- what a row says of a word that is told, else so much -/
def pAt (n : Nat) (f : Nat → Nat) (e : Int32) (x : Int32) : Int32 := match idx n x with
  | some j => nI (f j)
  | none => e
theorem wX_foldOf (hr : okR r) (ht : isRe t) (hs : rlX r S t) (h : Q (.int (pAt (rWd r) (rFd r) (-1) x)) S) : aWX (d + 2) 58 [.ref t, .int x] S Q := by
  have hw := hr.2.1
  refine mX_Realm_foldOf ?_
  simp only [aG, gK, ht.1, ht.2.2.1.1, ht.2.2.1.2, Nat.beq_refl, cond_true]
  refine wX_hasWord hr ht hs ?_
  rcases idx_cases (rWd r) (by omega) x with ⟨e, -⟩ | ⟨j, hj, rfl, e⟩
  · unfold pAt at h
    rw [e] at h ⊢
    exact ⟨fun _ => h, fun q => absurd rfl q⟩
  · unfold pAt at h
    rw [e] at h ⊢
    refine ⟨fun q => absurd q bI_some, fun _ => ⟨nI_in (by omega) (by decide), ?_⟩⟩
    rw [nI_clamp (by omega), hs.2.2.2.2.2.1 j hj]
    exact h
theorem wX_goodOfWord (hr : okR r) (ht : isRe t) (hs : rlX r S t) (h : Q (.int (pAt (rWd r) (rGo r) 0 x)) S) : aWX (d + 2) 60 [.ref t, .int x] S Q := by
  have hw := hr.2.1
  refine mX_Realm_goodOfWord ?_
  simp only [aG, gK, ht.1, ht.2.2.2.2.1.1, ht.2.2.2.2.1.2, Nat.beq_refl, cond_true]
  refine wX_hasWord hr ht hs ?_
  rcases idx_cases (rWd r) (by omega) x with ⟨e, -⟩ | ⟨j, hj, rfl, e⟩
  · unfold pAt at h
    rw [e] at h ⊢
    exact ⟨fun _ => h, fun q => absurd rfl q⟩
  · unfold pAt at h
    rw [e] at h ⊢
    refine ⟨fun q => absurd q bI_some, fun _ => ⟨nI_in (by omega) (by decide), ?_⟩⟩
    rw [nI_clamp (by omega), hs.2.2.2.2.2.2.2.1 j hj]
    exact h
theorem wX_kindOf (hr : okR r) (ht : isRe t) (hs : rlX r S t) (h : Q (.int (pAt (rWr r) (rKi r) 0 x)) S) : aWX (d + 2) 61 [.ref t, .int x] S Q := by
  have hw := hr.1
  refine mX_Realm_kindOf ?_
  simp only [aG, gK, ht.1, ht.2.1.1, ht.2.1.2, Nat.beq_refl, cond_true]
  refine wX_hasWriter hr ht hs ?_
  rcases idx_cases (rWr r) (by omega) x with ⟨e, -⟩ | ⟨j, hj, rfl, e⟩
  · unfold pAt at h
    rw [e] at h ⊢
    exact ⟨fun _ => h, fun q => absurd rfl q⟩
  · unfold pAt at h
    rw [e] at h ⊢
    refine ⟨fun q => absurd q bI_some, fun _ => ⟨nI_in (by omega) (by decide), ?_⟩⟩
    rw [nI_clamp (by omega), hs.2.2.2.2.1 j hj]
    exact h
/-- how much a writer likes a word -/
def pFond (r : zR) (x y : Int32) : Int32 := match idx (rWr r) x with
  | some k => (match idx (rWd r) y with
    | some w => nI (rLi r k w)
    | none => 0)
  | none => 0
theorem wX_fondness (hr : okR r) (ht : isRe t) (hs : rlX r S t) (h : Q (.int (pFond r x y)) S) : aWX (d + 2) 62 [.ref t, .int x, .int y] S Q := by
  have hw := hr.1
  have hw2 := hr.2.1
  refine mX_Realm_fondness ?_
  simp only [aG, gK, ht.1, ht.2.2.2.2.2.2.1.1, ht.2.2.2.2.2.2.1.2, Nat.beq_refl, cond_true]
  refine wX_hasWriter hr ht hs ?_
  unfold pFond at h
  rcases idx_cases (rWr r) (by omega) x with ⟨e, -⟩ | ⟨j, hj, rfl, e⟩
  · rw [e] at h ⊢
    exact ⟨fun _ => h, fun q => absurd rfl q⟩
  · rw [e] at h ⊢
    refine ⟨fun q => absurd q bI_some, fun _ => wX_hasWord hr ht hs ?_⟩
    rcases idx_cases (rWd r) (by omega) y with ⟨e2, -⟩ | ⟨w, hj2, rfl, e2⟩
    · rw [e2] at h ⊢
      exact ⟨fun _ => h, fun q => absurd rfl q⟩
    · rw [e2] at h ⊢
      have e3 : nI j * 12 + nI w = nI (12 * j + w) := by
        rw [show (12 : Int32) = nI 12 from rfl, nI_mulN, nI_add, Nat.mul_comm]
      rw [e3]
      refine ⟨fun q => absurd q bI_some, fun _ => ⟨nI_in (by omega) (by decide), ?_⟩⟩
      rw [nI_clamp (by omega), hs.2.2.2.2.2.2.2.2.2 j w hj hj2]
      exact h
theorem wX_isWritten (hr : okR r) (ht : isRe t) (hs : rlX r S t) (h : Q (.int (bI ((idx (rWd r) x).filter fun w => decide (rFd r w < rFo r)))) S) : aWX (d + 2) 59 [.ref t, .int x] S Q := by
  have hw := hr.2.1
  refine mX_Realm_isWritten ?_
  simp only [aG, gK, ht.1, ht.2.2.1.1, ht.2.2.1.2, hs.2.2.1, Nat.beq_refl, cond_true, true_or, or_true, true_and]
  refine wX_hasWord hr ht hs ?_
  rcases idx_cases (rWd r) (by omega) x with ⟨e, -⟩ | ⟨j, hj, rfl, e⟩
  · rw [e] at h ⊢
    exact ⟨fun _ => h, fun q => absurd rfl q⟩
  · rw [e] at h ⊢
    refine ⟨fun q => absurd q bI_some, fun _ => ⟨nI_in (by omega) (by decide), ?_⟩⟩
    have hf := (hr.2.2.2.2.2.1 j hj).1
    have ho := hr.2.2.1.2
    simp only [nI_clamp (show j < 2 ^ 31 by omega), hs.2.2.1, hs.2.2.2.2.2.1 j hj, nI_leI (show rFo r < 2 ^ 31 by omega) (show rFd r j < 2 ^ 31 by omega)]
    by_cases c : rFd r j < rFo r
    · rw [Option.filter_some, decide_eq_true c, if_pos rfl] at h
      exact ⟨fun q => absurd q (by omega), fun _ => h⟩
    · rw [Option.filter_some, decide_eq_false c, if_neg (by decide)] at h
      exact ⟨fun _ => h, fun q => absurd (by omega) q⟩
theorem wX_hasWhole {z : zS} (hz : okZ r z) (ht : isSt t) (hs : stX r z S t) (h : Q (.int (bI (idx (zSp z) x))) S) : aWX (d + 1) 86 [.ref t, .int x] S Q := by
  have hw := hz.2.2.1
  refine mX_Standing_hasWhole ?_
  simp only [aG, gK, ht.1, hs.2.2.2.1, Nat.beq_refl, cond_true, true_or, or_true, true_and]
  rcases idx_cases (zSp z) (by omega) x with ⟨e, c | ⟨c1, c2⟩⟩ | ⟨j, hj, rfl, e⟩
  · rw [e] at h
    exact ⟨fun _ => h, fun q => absurd c q⟩
  · rw [e] at h
    exact ⟨fun q => absurd q c1, fun _ => ⟨fun _ => h, fun q => absurd c2 q⟩⟩
  · rw [e] at h
    exact ⟨fun q => absurd q (nI_pos (by omega)), fun _ => ⟨fun q => absurd q (nI_ge hj (by omega)), fun _ => ⟨fun q => absurd q (nI_ge (a := j) (b := 10) (by omega) (by decide)), fun _ => h⟩⟩⟩
/-- the word on the spike -/
def pSpike (r : zR) (z : zS) (x y : Int32) : Int32 := match idx (zSp z) x with
  | some k => (match idx (rFo r) y with
    | some f => nI (zSk z k f)
    | none => -1)
  | none => -1
theorem wX_spikeAt {z : zS} (hr : okR r) (hz : okZ r z) (ht : isSt t) (hs : stX r z S t) (hy : y < nI (rFo r)) (h : Q (.int (pSpike r z x y)) S) : aWX (d + 2) 87 [.ref t, .int x, .int y] S Q := by
  have hw := hz.2.2.1
  have hf := hr.2.2.1.2
  refine mX_Standing_spikeAt ?_
  simp only [aG, gK, ht.1, ht.2.2.2.1, ht.2.2.2.2.2.2, Nat.beq_refl, cond_true]
  refine wX_hasWhole hz ht hs ?_
  unfold pSpike at h
  rcases idx_cases (zSp z) (by omega) x with ⟨e, -⟩ | ⟨k, hk, rfl, e⟩
  · rw [e] at h ⊢
    exact ⟨fun _ => h, fun q => absurd rfl q⟩
  · rw [e] at h ⊢
    refine ⟨fun q => absurd q bI_some, fun _ => ?_⟩
    rcases idx_cases (rFo r) (by omega) y with ⟨e2, c | ⟨c1, c2⟩⟩ | ⟨f, hj2, rfl, e2⟩
    · rw [e2] at h
      exact ⟨fun _ => h, fun q => absurd c q⟩
    · exact absurd hy (Int32.not_lt.mpr c2)
    · rw [e2] at h
      have e3 : nI k * 4 + nI f = nI (4 * k + f) := by
        rw [show (4 : Int32) = nI 4 from rfl, nI_mulN, nI_add, Nat.mul_comm]
      rw [e3]
      refine ⟨fun q => absurd q (nI_pos (by omega)), fun _ => ⟨fun q => absurd q (nI_ge (a := f) (b := 4) (by omega) (by decide)), fun _ => ⟨nI_in (by omega) (by decide), ?_⟩⟩⟩
      rw [nI_clamp (by omega), hs.2.2.2.2.2.2 k f hk hj2]
      exact h
theorem wX_spike {z : zS} (hr : okR r) (hz : okZ r z) (hg : gr S 0 2 = t) (ht : isRe t) (hrl : rlX r S t) (hs : stX r z S 41) (h : Q (.int (pSpike r z x y)) S) : aWX (d + 3) 123 [.ref 0, .int x, .int y] S Q := by
  refine mX_FoldedRealm_spike ?_
  simp only [aG, gK, hg, ht.1, hrl.2.2.1, Nat.beq_refl, cond_true]
  refine ⟨fun c => wX_spikeAt hr hz (isSt_all 41 (by decide) rfl) hs c h, fun c => ?_⟩
  have hn : idx (rFo r) y = none := idx_none (Or.inr (Int32.not_lt.mp c))
  unfold pSpike at h
  rw [hn] at h
  cases hi : idx (zSp z) x with
  | none => rw [hi] at h; exact h
  | some k => rw [hi] at h; exact h
theorem wM_spike {z : zS} (hr : okR r) (hz : okZ r z) (hrl : rlM r S) (hs : stM r z (ga S 1032) 0) (h : Q (.int (pSpike r z x y)) (si S 1000 0 0)) : aWM (d + 1) 53 [.ref 1000, .int x, .int y] S Q := by
  have hw := hz.2.2.1
  have hf := hr.2.2.1.2
  have e1 : ga (si S 1000 0 0) 1032 (3 : Int32).toNatClampNeg = nI (zSp z) := hs.2.2.2.1
  have e2 : ga (si S 1000 0 0) 1002 (2 : Int32).toNatClampNeg = nI (rFo r) := hrl.2.2.1
  refine mM_spike ?_
  simp only [e1, e2]
  unfold pSpike at h
  rcases idx_cases (zSp z) (by omega) x with ⟨e, c | ⟨c1, c2⟩⟩ | ⟨k, hk, rfl, e⟩
  · rw [e] at h
    exact ⟨fun _ => h, fun q => absurd c q⟩
  · rw [e] at h
    exact ⟨fun q => absurd q c1, fun _ => ⟨vin (by decide), fun _ => h, fun q => absurd c2 q⟩⟩
  · rw [e] at h
    refine ⟨fun q => absurd q (nI_pos (by omega)), fun _ => ⟨vin (by decide), fun q => absurd q (nI_ge hk (by omega)), fun _ => ?_⟩⟩
    rcases idx_cases (rFo r) (by omega) y with ⟨e3, c | ⟨c1, c2⟩⟩ | ⟨f, hj2, rfl, e3⟩
    · rw [e3] at h
      exact ⟨fun _ => h, fun q => absurd c q⟩
    · rw [e3] at h
      exact ⟨fun q => absurd q c1, fun _ => ⟨vin (by decide), fun _ => h, fun q => absurd c2 q⟩⟩
    · rw [e3] at h
      have e4 : (20 : Int32) + 4 * nI k + nI f = nI (20 + 4 * k + f) := by
        rw [show (4 : Int32) = nI 4 from rfl, show (20 : Int32) = nI 20 from rfl, nI_mulN, nI_add, nI_add]
      rw [e4]
      refine ⟨fun q => absurd q (nI_pos (by omega)), fun _ => ⟨vin (by decide), fun q => absurd q (nI_ge hj2 (by omega)), fun _ => ⟨nI_in (by omega) (by decide), ?_⟩⟩⟩
      rw [nI_clamp (by omega)]
      have e5 : ga (si S 1000 0 0) 1032 (20 + 4 * k + f) = nI (zSk z k f) := by
        have := hs.2.2.2.2.2.2 k f hk hj2
        rw [Nat.zero_add] at this
        exact this
      rw [e5]
      exact h
end
