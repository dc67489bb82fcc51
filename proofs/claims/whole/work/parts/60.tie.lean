/-! what both states mean: a realm, how it is, the Sundays, what is read, the marks, the tape -/
/-- an E: its value by the facts -/
abbrev zF : Type := (Nat → Int32) → Int32
/-- a realm: writers, words, folds, pairs that clash; kind of a writer; fold, weight, good, left of a word; what a writer likes; which clash; names; the laws of writing and doing -/
abbrev zR : Type := (Nat × Nat × Nat × Nat) × (Nat → Nat) × ((Nat → Nat) × (Nat → Nat) × (Nat → Nat) × (Nat → Nat)) × (Nat → Nat → Nat) × (Nat → Nat → Bool) × (Nat → List Nat) × Option zF × Option zF
def rWr (r : zR) : Nat := r.1.1
def rWd (r : zR) : Nat := r.1.2.1
def rFo (r : zR) : Nat := r.1.2.2.1
def rPa (r : zR) : Nat := r.1.2.2.2
def rKi (r : zR) (k : Nat) : Nat := r.2.1 k
def rFd (r : zR) (w : Nat) : Nat := r.2.2.1.1 w
def rWe (r : zR) (w : Nat) : Nat := r.2.2.1.2.1 w
def rGo (r : zR) (w : Nat) : Nat := r.2.2.1.2.2.1 w
def rLe (r : zR) (w : Nat) : Nat := r.2.2.1.2.2.2 w
def rLi (r : zR) (k w : Nat) : Nat := r.2.2.2.1 k w
def rCl (r : zR) (v w : Nat) : Bool := r.2.2.2.2.1 v w
def rNm (r : zR) (w : Nat) : List Nat := r.2.2.2.2.2.1 w
def rWf (r : zR) : Option zF := r.2.2.2.2.2.2.1
def rDf (r : zR) : Option zF := r.2.2.2.2.2.2.2
/-- how it is: seat, written, wholes on the spike; good done; strip, left, spike -/
abbrev zS : Type := (Nat × Nat × Nat) × Int32 × (Nat → Nat) × (Nat → Nat) × (Nat → Nat → Nat)
def zSe (z : zS) : Nat := z.1.1
def zWr (z : zS) : Nat := z.1.2.1
def zSp (z : zS) : Nat := z.1.2.2
def zGo (z : zS) : Int32 := z.2.1
def zSt (z : zS) (f : Nat) : Nat := z.2.2.1 f
def zLe (z : zS) (w : Nat) : Nat := z.2.2.2.1 w
def zSk (z : zS) (k f : Nat) : Nat := z.2.2.2.2 k f
/-- a realm that can be -/
def okR (r : zR) : Prop := rWr r ≤ 5 ∧ rWd r ≤ 12 ∧ (2 ≤ rFo r ∧ rFo r ≤ 4) ∧ True ∧ (∀ k, k < rWr r → rKi r k ≤ 3) ∧ (∀ w, w < rWd r → rFd r w ≤ 3 ∧ rWe r w ≤ 9 ∧ rGo r w ≤ 20 ∧ rLe r w ≤ 9) ∧ (∀ k w, k < rWr r → w < rWd r → rLi r k w ≤ 9)
/-- how it can be in a realm -/
def okZ (r : zR) (z : zS) : Prop := (zSe z < rWr r ∨ (rWr r = 0 ∧ zSe z = 0)) ∧ zWr z < rFo r ∧ zSp z ≤ 10 ∧ (∀ f, f < zWr z → zSt z f < rWd r ∧ rFd r (zSt z f) = f) ∧ (∀ w, w < rWd r → zLe z w ≤ 9) ∧ ∀ k f, k < zSp z → f < rFo r → zSk z k f < rWd r ∧ rFd r (zSk z k f) = f
/-- a row of the reference is this standing -/
def stM (r : zR) (z : zS) (a : Nat → Int32) (o : Nat) : Prop := a o = nI (zSe z) ∧ a (o + 1) = nI (zWr z) ∧ a (o + 2) = zGo z ∧ a (o + 3) = nI (zSp z) ∧ (∀ f, f < zWr z → a (o + 4 + f) = nI (zSt z f)) ∧ (∀ w, w < rWd r → a (o + 8 + w) = nI (zLe z w)) ∧ ∀ k f, k < zSp z → f < rFo r → a (o + 20 + 4 * k + f) = nI (zSk z k f)
/-- a Standing of the class is this standing -/
def stX (r : zR) (z : zS) (S : aS) (t : Nat) : Prop := gi S t 4 = nI (zSe z) ∧ gi S t 3 = nI (zWr z) ∧ gi S t 6 = zGo z ∧ gi S t 5 = nI (zSp z) ∧ (∀ f, f < zWr z → ga S (art t 1) f = nI (zSt z f)) ∧ (∀ w, w < rWd r → ga S (art t 0) w = nI (zLe z w)) ∧ ∀ k f, k < zSp z → f < rFo r → ga S (art t 2) (4 * k + f) = nI (zSk z k f)
/-! the simplest calls, on either side -/
def pStrip (z : zS) (f : Int32) : Int32 := if f < 0 then -1 else if nI (zWr z) ≤ f then -1 else nI (zSt z f.toNatClampNeg)
theorem nI_get {f : Int32} {n : Nat} (hn : n < 2 ^ 31) (h0 : ¬ f < 0) (h : ¬ nI n ≤ f) : ∃ j, j < n ∧ f = nI j ∧ f.toNatClampNeg = j := by
  obtain ⟨j, hj, rfl⟩ := nI_of h0
  rw [nI_leI hn hj] at h
  exact ⟨j, by omega, rfl, nI_clamp hj⟩
theorem vin {i : Int32} {n : Nat} (h : decide (¬ (i < 0 ∨ n ≤ i.toNatClampNeg)) = true) : vp_in i n := by
  have h2 := of_decide_eq_true h
  exact h2
theorem wM_strip {d : Nat} {Q : Value → aS → Prop} {f : Int32} {S : aS} {r : zR} {z : zS} (hr : okR r) (hz : okZ r z) (hs : stM r z (ga S 1032) 0) (h : Q (.int (pStrip z f)) (si S 1000 0 0)) : aWM (d + 1) 52 [.ref 1000, .int f] S Q := by
  have hwr : zWr z < 4 := Nat.lt_of_lt_of_le hz.2.1 hr.2.2.1.2
  have e1 : ga (si S 1000 0 0) 1032 (1 : Int32).toNatClampNeg = nI (zWr z) := hs.2.1
  refine mM_strip ⟨fun y => ?_, fun y => ⟨vin (by decide), fun y2 => ?_, fun y2 => ?_⟩⟩
  · unfold pStrip at h
    rw [if_pos y] at h
    exact h
  · rw [e1] at y2
    unfold pStrip at h
    rw [if_neg y, if_pos y2] at h
    exact h
  · rw [e1] at y2
    unfold pStrip at h
    rw [if_neg y, if_neg y2] at h
    obtain ⟨j, hj, rfl, hc⟩ := nI_get (by omega) y y2
    rw [show (4 : Int32) + nI j = nI (4 + j) from nI_add 4 j]
    refine ⟨nI_in (by omega) (by decide), ?_⟩
    rw [nI_clamp (show 4 + j < 2 ^ 31 by omega)]
    have e2 : ga (si S 1000 0 0) 1032 (4 + j) = nI (zSt z j) := by
      have := hs.2.2.2.2.1 j hj
      rw [Nat.zero_add] at this
      exact this
    rw [e2]
    rw [hc] at h
    exact h
/-- a Standing's cell, by its number -/
theorem gK_ok {t c : Nat} {X : Prop} (h : akd t = c) (x : X) : aG (gK t c) X := by
  unfold gK
  rw [h, show Nat.beq c c = true from Nat.beq_refl c]
  exact x
/-- Standings have their rows -/
def isSt (t : Nat) : Prop := akd t = 8 ∧ akd (art t 0) = 20 ∧ akd (art t 1) = 20 ∧ akd (art t 2) = 20 ∧ aln (art t 0) = 12 ∧ aln (art t 1) = 4 ∧ aln (art t 2) = 40
theorem isSt_all : ∀ t, t < 152 → akd t = 8 → isSt t := by
  have key : ∀ t, t < 152 → Nat.beq (akd t) 8 = true → (Nat.beq (akd (art t 0)) 20 && (Nat.beq (akd (art t 1)) 20 && (Nat.beq (akd (art t 2)) 20 && (Nat.beq (aln (art t 0)) 12 && (Nat.beq (aln (art t 1)) 4 && Nat.beq (aln (art t 2)) 40))))) = true := by decide +kernel
  intro t ht hk
  have := key t ht (by rw [hk]; rfl)
  simp only [Bool.and_eq_true] at this
  obtain ⟨h1, h2, h3, h4, h5, h6⟩ := this
  exact ⟨hk, Nat.eq_of_beq_eq_true h1, Nat.eq_of_beq_eq_true h2, Nat.eq_of_beq_eq_true h3, Nat.eq_of_beq_eq_true h4, Nat.eq_of_beq_eq_true h5, Nat.eq_of_beq_eq_true h6⟩
theorem wX_stripAt {d : Nat} {Q : Value → aS → Prop} {f : Int32} {t : Nat} {S : aS} {r : zR} {z : zS} (hr : okR r) (hz : okZ r z) (ht : isSt t) (hs : stX r z S t) (h : Q (.int (pStrip z f)) S) : aWX (d + 1) 85 [.ref t, .int f] S Q := by
  have hwr : zWr z < 4 := Nat.lt_of_lt_of_le hz.2.1 hr.2.2.1.2
  refine mX_Standing_stripAt (gK_ok ht.1 ⟨fun y => ?_, fun y => gK_ok ht.1 ⟨fun y2 => ?_, fun y2 => ⟨fun y3 => ?_, fun y3 => gK_ok ht.1 (gK_ok ht.2.2.1 ⟨?_, ?_⟩)⟩⟩⟩)
  · unfold pStrip at h
    rw [if_pos y] at h
    exact h
  · rw [hs.2.1] at y2
    unfold pStrip at h
    rw [if_neg y, if_pos y2] at h
    exact h
  · rw [hs.2.1] at y2
    obtain ⟨j, hj, rfl, hc⟩ := nI_get (by omega) y y2
    exact absurd y3 (nI_ge (a := j) (b := 4) (by omega) (by decide))
  · rw [hs.2.1] at y2
    obtain ⟨j, hj, rfl, hc⟩ := nI_get (by omega) y y2
    rw [ht.2.2.2.2.2.1]
    exact nI_in (by omega) (by decide)
  · rw [hs.2.1] at y2
    unfold pStrip at h
    rw [if_neg y, if_neg y2] at h
    obtain ⟨j, hj, rfl, hc⟩ := nI_get (by omega) y y2
    rw [hc] at h ⊢
    rw [hs.2.2.2.2.1 j hj]
    exact h
theorem wX_strip {d : Nat} {Q : Value → aS → Prop} {f : Int32} {S : aS} {r : zR} {z : zS} (hr : okR r) (hz : okZ r z) (hs : stX r z S 41) (h : Q (.int (pStrip z f)) S) : aWX (d + 2) 122 [.ref 0, .int f] S Q :=
  mX_FoldedRealm_strip (wX_stripAt hr hz (isSt_all 41 (by decide) rfl) hs h)
