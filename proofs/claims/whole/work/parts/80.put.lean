/-! a word is written: the reference -/
section
variable {d : Nat} {Q : Value → aS → Prop} {S : aS} {r : zR} {z : zS} {t w : Nat} {hs : List zS}
theorem stM_lay (hr : okR r) (hz : okZ r z) (hw : w < rWd r) (h : stM r z (ga S 1032) 0) : stM r (zLay z w) (ga (sa (sa (sa S 1032 (8 + w) (nI (zLe z w - 1))) 1032 (4 + zWr z) (nI w)) 1032 1 (nI (zWr z + 1))) 1032) 0 := by
  have hwd := hr.2.1
  have hwr := hz.2.1
  have hfo := hr.2.2.1.2
  obtain ⟨s1, s2, s3, s4, s5, s6, s7⟩ := h
  have hg : ∀ j, j ≠ 8 + w → j ≠ 4 + zWr z → j ≠ 1 → ga (sa (sa (sa S 1032 (8 + w) (nI (zLe z w - 1))) 1032 (4 + zWr z) (nI w)) 1032 1 (nI (zWr z + 1))) 1032 j = ga S 1032 j := fun j h1 h2 h3 => by
    rw [ga_sa, if_neg (fun q => h3 q.2), ga_sa, if_neg (fun q => h2 q.2), ga_sa, if_neg (fun q => h1 q.2)]
  refine ⟨(hg _ (by omega) (by omega) (by omega)).trans s1, ?_, (hg _ (by omega) (by omega) (by omega)).trans s3, (hg _ (by omega) (by omega) (by omega)).trans s4, fun f hf => ?_, fun v hv => ?_, fun j f hj hf => (hg _ (by omega) (by omega) (by omega)).trans (s7 j f hj hf)⟩
  · rw [ga_sa, if_pos ⟨rfl, by omega⟩]
    rfl
  · have hf' : f < zWr z + 1 := hf
    show _ = nI (if f = zWr z then w else zSt z f)
    by_cases c : f = zWr z
    · rw [if_pos c, ga_sa, if_neg (by omega), ga_sa, if_pos ⟨rfl, by omega⟩]
    · rw [if_neg c, hg _ (by omega) (by omega) (by omega)]
      exact s5 f (by omega)
  · show _ = nI (if v = w then zLe z v - 1 else zLe z v)
    by_cases c : v = w
    · rw [if_pos c, ga_sa, if_neg (by omega), ga_sa, if_neg (by omega), ga_sa, if_pos ⟨rfl, by omega⟩, c]
    · rw [if_neg c, hg _ (by omega) (by omega) (by omega)]
      exact s6 v hv
theorem stM_gd {g : Int32} (h : stM r z (ga S 1032) 0) (hz : okY r z) (hr : okR r) : stM r (zGd z g) (ga (sa S 1032 2 g) 1032) 0 := by
  obtain ⟨s1, s2, s3, s4, s5, s6, s7⟩ := h
  have hg : ∀ j, j ≠ 2 → ga (sa S 1032 2 g) 1032 j = ga S 1032 j := fun j h1 => by rw [ga_sa, if_neg (fun q => h1 q.2)]
  refine ⟨(hg _ (by omega)).trans s1, (hg _ (by omega)).trans s2, ?_, (hg _ (by omega)).trans s4, fun f hf => (hg _ (by omega)).trans (s5 f hf), fun v hv => (hg _ (by omega)).trans (s6 v hv), fun j f hj hf => (hg _ (by omega)).trans (s7 j f hj hf)⟩
  rw [ga_sa, if_pos ⟨rfl, by omega⟩]
  rfl
/-- the spike's row as far as it is laid -/
def lsp (S : aS) (b n : Nat) : aS := (S.1, S.2.1, S.2.2.1, va_up S.2.2.2.1 1032 (fun k => if b ≤ k ∧ k < b + n then S.2.2.2.1 1032 (4 + (k - b)) else S.2.2.2.1 1032 k), S.2.2.2.2)
theorem ga_lsp (S : aS) (b n i k : Nat) : ga (lsp S b n) i k = if i = 1032 then (if b ≤ k ∧ k < b + n then ga S 1032 (4 + (k - b)) else ga S 1032 k) else ga S i k := by
  unfold ga lsp va_up
  dsimp only
  by_cases h : i = 1032
  · rw [if_pos h, if_pos h]
  · rw [if_neg h, if_neg h]
theorem lsp_0 (S : aS) (b : Nat) : lsp S b 0 = S := by
  have e : va_up S.2.2.2.1 1032 (fun k => if b ≤ k ∧ k < b + 0 then S.2.2.2.1 1032 (4 + (k - b)) else S.2.2.2.1 1032 k) = S.2.2.2.1 := by
    funext i k
    unfold va_up
    by_cases h : i = 1032
    · subst h
      rw [if_pos rfl, if_neg (by omega)]
    · rw [if_neg h]
  unfold lsp
  rw [e]
theorem lsp_step (S : aS) (b n : Nat) (hb : 8 ≤ b) (hn : n < 4) : sa (lsp S b n) 1032 (b + n) (ga (lsp S b n) 1032 (4 + n)) = lsp S b (n + 1) := by
  have e1 : ga (lsp S b n) 1032 (4 + n) = S.2.2.2.1 1032 (4 + n) := by
    rw [ga_lsp, if_pos rfl, if_neg (by omega)]
    rfl
  rw [e1]
  have e : va_up (lsp S b n).2.2.2.1 1032 (upd ((lsp S b n).2.2.2.1 1032) (b + n) (S.2.2.2.1 1032 (4 + n))) = (lsp S b (n + 1)).2.2.2.1 := by
    funext i k
    unfold lsp va_up upd
    dsimp only
    by_cases h : i = 1032
    · subst h
      rw [if_pos rfl, if_pos rfl, if_pos rfl]
      by_cases hk : k = b + n
      · subst hk
        rw [if_pos rfl, if_pos (by omega), show b + n - b = n by omega]
      · rw [if_neg hk]
        by_cases h2 : b ≤ k ∧ k < b + n
        · rw [if_pos h2, if_pos (by omega)]
        · rw [if_neg h2, if_neg (by omega)]
    · rw [if_neg h, if_neg h, if_neg h]
  unfold sa
  rw [e]
  rfl
theorem frM_lsp {C F : Nat → Prop} {S : aS} {b n : Nat} (h : C 1032) : frM C F S (lsp S b n) := by
  refine ⟨fun j m hj => ?_, fun _ _ _ => rfl, fun _ _ => rfl, fun _ _ => rfl⟩
  rw [ga_lsp, if_neg (show ¬ j = 1032 from fun q => hj (q ▸ h))]
/-- a whole is laid on the spike, its seat moves on -/
theorem bM_ends64 (hr : okR r) (hz : okY r z) (hw : zWr z = rFo r) (h9 : zSp z ≤ 9) (hrl : rlM r S) (hs : stM r z (ga S 1032) 0) (hx : ∀ S', frM sC nF S S' → stM r (zFin r (zTop z)) (ga S' 1032) 0 → Q .null S') : aBM d 57 Q 64 [some (.ref 1000), none, none, some (.int 0)] [] S := by
  have hwd := hr.2.1
  have hfo := hr.2.2.1.2
  have hwr := hr.1
  have loop : ∀ m k, k + m = rFo r → aBM d 57 Q 64 [some (.ref 1000), none, none, some (.int (nI k))] [] (lsp S (20 + 4 * zSp z) k) := by
    intro m
    induction m with
    | zero =>
      intro k hk
      obtain rfl : k = rFo r := by omega
      have g : ∀ j, ga (lsp S (20 + 4 * zSp z) (rFo r)) 1032 j = if 20 + 4 * zSp z ≤ j ∧ j < 20 + 4 * zSp z + rFo r then ga S 1032 (4 + (j - (20 + 4 * zSp z))) else ga S 1032 j := fun j => by rw [ga_lsp, if_pos rfl]
      have e3 : ga (lsp S (20 + 4 * zSp z) (rFo r)) 1032 3 = nI (zSp z) := by rw [g, if_neg (by omega)]; exact hs.2.2.2.1
      have e0 : ga (lsp S (20 + 4 * zSp z) (rFo r)) 1032 0 = nI (zSe z) := by rw [g, if_neg (by omega)]; exact hs.1
      have er : ga (lsp S (20 + 4 * zSp z) (rFo r)) 1002 0 = nI (rWr r) := by rw [ga_lsp, if_neg (by decide)]; exact hrl.1
      have ef : ga (lsp S (20 + 4 * zSp z) (rFo r)) 1002 2 = nI (rFo r) := by rw [ga_lsp, if_neg (by decide)]; exact hrl.2.2.1
      refine bM_ends_64 ?_
      rw [c0, c1, c2, c3, ef, e3]
      refine ⟨vin (by decide), fun _ => ⟨vin (by decide), vin (by decide), vin (by decide), vin (by decide), ?_⟩, fun q => absurd (nI_le (Nat.le_refl _) (by omega)) q⟩
      have er2 : ga (sa (sa (lsp S (20 + 4 * zSp z) (rFo r)) 1032 3 (nI (zSp z) + 1)) 1032 1 0) 1002 0 = nI (rWr r) := by rw [ga_sa, if_neg (by decide), ga_sa, if_neg (by decide)]; exact er
      have e02 : ga (sa (sa (lsp S (20 + 4 * zSp z) (rFo r)) 1032 3 (nI (zSp z) + 1)) 1032 1 0) 1032 0 = nI (zSe z) := by rw [ga_sa, if_neg (by decide), ga_sa, if_neg (by decide)]; exact e0
      rw [er2, e02, nI_eq0 (by omega)]
      have fin : ∀ x, x = nI (nxt r z) → Q .null (sa (sa (sa (lsp S (20 + 4 * zSp z) (rFo r)) 1032 3 (nI (zSp z) + 1)) 1032 1 0) 1032 0 x) := by
        rintro x rfl
        refine hx _ (((frM_lsp (C := sC) (F := nF) rfl).tr (frM_sa (C := sC) rfl)).tr ((frM_sa (C := sC) rfl).tr (frM_sa (C := sC) rfl))) ?_
        obtain ⟨s1, s2, s3, s4, s5, s6, s7⟩ := hs
        have hg : ∀ j, j ≠ 0 → j ≠ 1 → j ≠ 3 → ga (sa (sa (sa (lsp S (20 + 4 * zSp z) (rFo r)) 1032 3 (nI (zSp z) + 1)) 1032 1 0) 1032 0 (nI (nxt r z))) 1032 j = if 20 + 4 * zSp z ≤ j ∧ j < 20 + 4 * zSp z + rFo r then ga S 1032 (4 + (j - (20 + 4 * zSp z))) else ga S 1032 j := fun j h1 h2 h3 => by
          rw [ga_sa, if_neg (fun q => h1 q.2), ga_sa, if_neg (fun q => h2 q.2), ga_sa, if_neg (fun q => h3 q.2), g]
        refine ⟨?_, ?_, ?_, ?_, fun f hf => absurd hf (Nat.not_lt_zero _), fun v hv => ?_, fun j f hj hf => ?_⟩
        · rw [ga_sa, if_pos ⟨rfl, rfl⟩]; rfl
        · rw [ga_sa, if_neg (by omega), ga_sa, if_pos ⟨rfl, rfl⟩]; rfl
        · rw [hg _ (by omega) (by omega) (by omega), if_neg (by omega)]; exact s3
        · rw [ga_sa, if_neg (by omega), ga_sa, if_neg (by omega), ga_sa, if_pos ⟨rfl, rfl⟩, nI_1]; rfl
        · rw [hg _ (by omega) (by omega) (by omega), if_neg (by omega)]; exact s6 v hv
        · have hj' : j < zSp z + 1 := hj
          rw [hg _ (by omega) (by omega) (by omega)]
          show _ = nI (if j = zSp z then zSt z f else zSk z j f)
          by_cases c : j = zSp z
          · rw [if_pos c, if_pos (by omega), show 4 + (0 + 20 + 4 * j + f - (20 + 4 * zSp z)) = 0 + 4 + f by omega]
            exact s5 f (by omega)
          · rw [if_neg c, if_neg (by omega)]
            exact s7 j f (by omega) hf
      have hse : rWr r ≠ 0 → zSe z < rWr r := fun q => hz.1.elim (fun z => z) (fun z => absurd z.1 q)
      refine ⟨fun c => ⟨vin (by decide), vin (by decide), c, vin (by decide), fin _ ?_⟩, fun c => ⟨vin (by decide), fin _ ?_⟩⟩
      · unfold nxt
        rw [if_neg c, nI_1]
        exact md5 _ (by omega) c _ (by have := hse c; omega)
      · unfold nxt
        rw [if_pos c]
        rfl
    | succ m ih =>
      intro k hk
      have ef : ga (lsp S (20 + 4 * zSp z) k) 1002 2 = nI (rFo r) := by rw [ga_lsp, if_neg (by decide)]; exact hrl.2.2.1
      have e3 : ga (lsp S (20 + 4 * zSp z) k) 1032 3 = nI (zSp z) := by rw [ga_lsp, if_pos rfl, if_neg (by omega)]; exact hs.2.2.2.1
      have e4 : (4 : Int32) + nI k = nI (4 + k) := nI_add 4 k
      have e20 : (20 : Int32) + 4 * nI (zSp z) + nI k = nI (20 + 4 * zSp z + k) := by rw [show (4 : Int32) = nI 4 from rfl, show (20 : Int32) = nI 20 from rfl, nI_mulN, nI_add, nI_add]
      refine bM_ends_64 ?_
      rw [c2, c3, ef, e3, e4, e20, nI_clamp (show 4 + k < 2 ^ 31 by omega), nI_clamp (show 20 + 4 * zSp z + k < 2 ^ 31 by omega), nI_1 k]
      refine ⟨vin (by decide), fun q => absurd q (nI_ge (by omega) (by omega)), fun _ => ⟨vin (by decide), nI_in (by omega) (by decide), nI_in (by omega) (by decide), ?_⟩⟩
      rw [lsp_step S _ _ (by omega) (by omega)]
      exact ih (k + 1) (by omega)
  have := loop (rFo r) 0 (by omega)
  rw [lsp_0] at this
  exact this
def pF (k : Nat) : Prop := k = 51
def wrC (i : Nat) : Prop := i = 1032 ∨ eC i
theorem wM_ends (hr : okR r) (hz : okY r z) (hw : zWr z = rFo r) (h : RM r S) (hs : stM r z (ga S 1032) 0) (hx : ∀ S', frM wrC pF S S' → stM r (zEnd r z) (ga S' 1032) 0 → Q .null S') : aWM (d + 5) 57 [.ref 1000] S Q := by
  have hwd := hr.2.1
  have hfo := hr.2.2.1.2
  have hgo : ∀ i, i < rFo r → rGo r (zSt z i) ≤ 20 := fun i hi => (hr.2.2.2.2.2.1 _ (hz.2.2.2.1 i (by omega)).1).2.2.1
  have ef : ga S 1002 2 = nI (rFo r) := h.1.2.2.1
  refine mM_ends ?_
  have loop : ∀ m k, k + m = rFo r → aBM (d + 4) 57 Q 6 [some (.ref 1000), some (.int (nI (nSum (fun i => rGo r (zSt z i)) k))), some (.int (nI (nMax (fun i => rGo r (zSt z i)) k))), some (.int (nI k))] [] S := by
    intro m
    induction m with
    | zero =>
      intro k hk
      obtain rfl : k = rFo r := by omega
      refine bM_ends_6 ?_
      rw [c2, c3, ef]
      refine ⟨vin (by decide), fun _ => wM_doesBy h hs (fun S1 hf => ⟨vin (by decide), vin (by decide), vin (by decide), ?_⟩), fun q => absurd (nI_le (Nat.le_refl _) (by omega)) q⟩
      have f32 : ga S1 1032 = ga S 1032 := funext fun j => hf.1 1032 j (by unfold eC; omega)
      have hs1 : stM r z (ga S1 1032) 0 := by rw [f32]; exact hs
      have e5 : gi (si S1 1000 51 (nI (doV r z))) 1000 51 = nI (doV r z) := by rw [gi_si, if_pos ⟨rfl, rfl⟩]
      have e2 : ga (si S1 1000 51 (nI (doV r z))) 1032 2 = zGo z := hs1.2.2.1
      have hg2 : okY r (zGd z (zGo z + nI (doV r z))) := hz
      have go : ∀ S2, frM wrC pF S S2 → stM r (zGd z (zGo z + nI (doV r z))) (ga S2 1032) 0 → ((¬ ga S2 1032 3 = 10 → aBM (d + 4) 57 Q 64 [some (.ref 1000), none, none, some (.int 0)] [] S2) ∧ (ga S2 1032 3 = 10 → aWM (d + 4) 56 [.ref 1000, .int 0] S2 (fun v4 S5 => aV v4 (aBM (d + 4) 57 Q 64 [some (.ref 1000), none, none, some (.int 0)] [] S5)))) := by
        intro S2 hf2 hs2
        have h2 := h.kept hf2 (fun i hi => by unfold wrC eC at hi; omega)
        have e3 : ga S2 1032 3 = nI (zSp z) := hs2.2.2.2.1
        have hsp := hz.2.2.1
        rw [e3, show (10 : Int32) = nI 10 from rfl, nI_eq (by omega) (by decide)]
        obtain ⟨y1, y2, y3, y4⟩ := okY_cut hg2
        have goal : ∀ S3, frM wrC pF S S3 → stM r (zCut (zGd z (zGo z + nI (doV r z)))) (ga S3 1032) 0 → aBM (d + 4) 57 Q 64 [some (.ref 1000), none, none, some (.int 0)] [] S3 := fun S3 hf3 hs3 => bM_ends64 hr y1 (y3.trans hw) y2 (h.kept hf3 (fun i hi => by unfold wrC eC at hi; omega)).1 hs3 (fun S4 hf4 hs4 => hx S4 (hf3.tr (hf4.le (fun i hi => Or.inl hi) (fun _ q => q.elim))) hs4)
        refine ⟨fun c => goal S2 hf2 ?_, fun c => ?_⟩
        · unfold zCut
          rw [if_neg (show ¬ zSp (zGd z (zGo z + nI (doV r z))) = 10 from c)]
          exact hs2
        · refine wM_fallsOffY (w := 0) hr hg2 (by show 0 < zSp z; omega) hs2 (fun S3 hf3 hs3 => goal S3 (hf2.tr (hf3.le (fun i hi => Or.inl hi) (fun _ q => q.elim))) ?_)
          unfold zCut
          rw [if_pos (show zSp (zGd z (zGo z + nI (doV r z))) = 10 from c)]
          exact hs3
      rw [show dsV r (zSp z) (nSum (fun i => rGo r (zSt z i)) (rFo r)) (nMax (fun i => rGo r (zSt z i)) (rFo r)) = doV r z from rfl, e5, e2]
      exact go _ ((hf.le (fun i hi => Or.inr hi) (fun _ q => q.elim)).tr ((frM_si (C := wrC) (F := pF) rfl).tr (frM_sa (Or.inl rfl)))) (stM_gd (S := si S1 1000 51 (nI (doV r z))) hs1 hz hr)
    | succ m ih =>
      intro k hk
      have h20 := hgo k (by omega)
      have hS := nSum_le (f := fun i => rGo r (zSt z i)) (m := 20) k (fun i hi => hgo i (by omega))
      have hM := nMax_le (f := fun i => rGo r (zSt z i)) (m := 20) k (fun i hi => hgo i (by omega))
      obtain ⟨hst, -⟩ := hz.2.2.2.1 k (by omega)
      have e4 : (4 : Int32) + nI k = nI (4 + k) := nI_add 4 k
      have es : ga S 1032 (4 + k) = nI (zSt z k) := by
        have := hs.2.2.2.2.1 k (by omega)
        rw [Nat.zero_add] at this
        exact this
      refine bM_ends_6 ?_
      rw [c2, ef, e4, nI_clamp (show 4 + k < 2 ^ 31 by omega), es, nI_clamp (show zSt z k < 2 ^ 31 by omega), h.1.2.2.2.2.2.2.2.1 _ hst, nI_add, nI_max (by omega) (by omega), nI_1]
      exact ⟨vin (by decide), fun q => absurd q (nI_ge (by omega) (by omega)), fun _ => ⟨nI_in (by omega) (by decide), nI_in (by omega) (by decide), nI_in (by omega) (by decide), nI_in (by omega) (by decide), ih (k + 1) (by omega)⟩⟩
  exact loop (rFo r) 0 (by omega)
theorem wM_laysWord (hr : okR r) (hz : okZ r z) (hw : w < rWd r) (hfd : rFd r w = zWr z) (hl : 0 < zLe z w) (h : RM r S) (hs : stM r z (ga S 1032) 0) (hx : ∀ S', frM wrC pF S S' → stM r (zPut r z w) (ga S' 1032) 0 → Q .null S') : aWM (d + 6) 58 [.ref 1000, .int (nI w)] S Q := by
  have hwd := hr.2.1
  have hwr := hz.2.1
  have hfo := hr.2.2.1.2
  have hle := hz.2.2.2.2.1 w hw
  have e8 : (8 : Int32) + nI w = nI (8 + w) := nI_add 8 w
  have eL : ga S 1032 (8 + w) = nI (zLe z w) := by
    have := hs.2.2.2.2.2.1 w hw
    rw [Nat.zero_add] at this
    exact this
  have eL2 : nI (zLe z w) - 1 = nI (zLe z w - 1) := by
    have := nI_pred (zLe z w - 1)
    rw [show zLe z w - 1 + 1 = zLe z w by omega] at this
    exact this
  have e1 : ga S 1032 1 = nI (zWr z) := hs.2.1
  have e2 : ga (sa S 1032 (8 + w) (nI (zLe z w - 1))) 1032 1 = nI (zWr z) := by rw [ga_sa, if_neg (by omega)]; exact e1
  have e4 : (4 : Int32) + nI (zWr z) = nI (4 + zWr z) := nI_add 4 _
  have e5 : ga (sa (sa S 1032 (8 + w) (nI (zLe z w - 1))) 1032 (4 + zWr z) (nI w)) 1032 1 = nI (zWr z) := by rw [ga_sa, if_neg (by omega)]; exact e2
  have e6 : ga (sa (sa (sa S 1032 (8 + w) (nI (zLe z w - 1))) 1032 (4 + zWr z) (nI w)) 1032 1 (nI (zWr z + 1))) 1032 1 = nI (zWr z + 1) := by rw [ga_sa, if_pos ⟨rfl, rfl⟩]
  have e7 : ga (sa (sa (sa S 1032 (8 + w) (nI (zLe z w - 1))) 1032 (4 + zWr z) (nI w)) 1032 1 (nI (zWr z + 1))) 1002 2 = nI (rFo r) := by rw [ga_sa, if_neg (by decide), ga_sa, if_neg (by omega), ga_sa, if_neg (by omega)]; exact h.1.2.2.1
  have hst := stM_lay hr hz hw hs
  have hf : frM wrC pF S (sa (sa (sa S 1032 (8 + w) (nI (zLe z w - 1))) 1032 (4 + zWr z) (nI w)) 1032 1 (nI (zWr z + 1))) := ((frM_sa (Or.inl rfl)).tr (frM_sa (Or.inl rfl))).tr (frM_sa (Or.inl rfl))
  refine mM_laysWord ?_
  rw [c1, c2, e8, nI_clamp (show 8 + w < 2 ^ 31 by omega), eL, eL2, e2, e4, nI_clamp (show 4 + zWr z < 2 ^ 31 by omega), e5, nI_1, e6, e7, nI_eq (by omega) (by omega)]
  unfold zPut at hx
  refine ⟨nI_in (by omega) (by decide), nI_in (by omega) (by decide), vin (by decide), nI_in (by omega) (by decide), vin (by decide), vin (by decide), vin (by decide), vin (by decide), fun c => ?_, fun c => ?_⟩
  · rw [if_pos (by omega)] at hx
    exact hx _ hf hst
  · rw [if_neg (by omega)] at hx
    exact wM_ends hr (okY_lay hz hw hfd) c (h.kept hf (fun i hi => by unfold wrC eC at hi; omega)) hst (fun S2 hf2 hs2 => hx S2 (hf.tr hf2) hs2)
theorem wM_write {x : Int32} (hr : okR r) (hz : okZ r z) (h : RM r S) (hs1 : stM r z (ga S 1032) 0) (hh : hsM r hs S) (h0 : pCan r z x = 0 → Q (.int (-1)) (si S 1000 0 0))
    (hx : ∀ w, x = nI w → w < rWd r → canW r z w = true → ∀ S', frM (fun i => wrC i ∨ i = 1035) (fun k => k = 0 ∨ k = 50 ∨ k = 51) S S' → hsM r (hKeep hs z) S' → stM r (zPut r z w) (ga S' 1032) 0 → Q (.int (nI (zWr (zPut r z w)))) S') : aWM (d + 7) 61 [.ref 1000, .int x] S Q := by
  have hwd := hr.2.1
  have h' : RM r (si S 1000 0 0) := h.kept (C := fun _ => False) (F := fun k => k = 0) (frM_si rfl) (fun _ q => q.elim)
  refine mM_write (wM_isTold hr h'.1 ?_)
  rcases idx_cases (rWd r) (by omega) x with ⟨e, -⟩ | ⟨w, hw, rfl, e⟩
  · rw [e]
    refine ⟨fun _ => h0 (by unfold pCan; rw [e]; rfl), fun q => absurd rfl q⟩
  · rw [e]
    refine ⟨fun q => absurd q bI_some, fun _ => wM_canWrite (z := z) hr hz hw h'.1 hs1 ?_⟩
    refine ⟨fun c => ?_, fun c => h0 c⟩
    have hc : canW r z w = true := by
      unfold pCan at c
      rw [e, Option.filter_some] at c
      by_cases q : canW r z w = true
      · exact q
      · rw [if_neg q] at c
        exact absurd rfl c
    have hc1 := (Bool.and_eq_true _ _).mp (show (decide (rFd r w = zWr z) && decide (0 < zLe z w)) = true from hc)
    have hh0 : hsM r hs (si S 1000 0 0) := ⟨by rw [gi_si, if_neg (by decide)]; exact hh.1, hh.2⟩
    refine wM_keeps hr hz hh0 hs1 (fun S5 hf hk5 => ?_)
    have f1032 : ga S5 1032 = ga S 1032 := funext fun j => hf.1 1032 j (show ¬ 1032 = 1035 by decide)
    refine wM_laysWord hr hz hw (of_decide_eq_true hc1.1) (of_decide_eq_true hc1.2) (h'.kept hf (fun i hi => by unfold kC at hi; omega)) (by rw [f1032]; exact hs1) (fun S6 hf6 hst6 => ⟨vin (by decide), ?_⟩)
    rw [c1, show ga S6 1032 1 = nI (zWr (zPut r z w)) from hst6.2.1]
    exact hx w rfl hw hc S6 (((frM_si (Or.inl rfl)).tr (hf.le (fun i hi => Or.inr hi) (fun k hk => Or.inr (Or.inl hk)))).tr (hf6.le (fun i hi => Or.inl hi) (fun k hk => Or.inr (Or.inr hk)))) (hk5.kept hf6 (by unfold wrC eC; omega) (by unfold pF; omega)) hst6
end
