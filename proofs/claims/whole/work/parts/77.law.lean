/-! a realm with its laws; how likely a word is: the class -/
def frY (C : Nat → Prop) (S S' : aS) : Prop := (∀ i k, ¬ C i → gi S' i k = gi S i k ∧ ga S' i k = ga S i k ∧ gl S' i k = gl S i k ∧ gb S' i k = gb S i k) ∧ S'.2.2.1 = S.2.2.1
theorem frY.rf {C : Nat → Prop} {S : aS} : frY C S S := ⟨fun _ _ _ => ⟨rfl, rfl, rfl, rfl⟩, rfl⟩
theorem frY.tr {C : Nat → Prop} {S S1 S2 : aS} (h : frY C S S1) (h2 : frY C S1 S2) : frY C S S2 := ⟨fun i k hi => ⟨(h2.1 i k hi).1.trans (h.1 i k hi).1, (h2.1 i k hi).2.1.trans (h.1 i k hi).2.1, (h2.1 i k hi).2.2.1.trans (h.1 i k hi).2.2.1, (h2.1 i k hi).2.2.2.trans (h.1 i k hi).2.2.2⟩, h2.2.trans h.2⟩
theorem frY.le {C C' : Nat → Prop} {S S' : aS} (h : frY C S S') (hc : ∀ i, C i → C' i) : frY C' S S' := ⟨fun i k hi => h.1 i k (fun z => hi (hc i z)), h.2⟩
theorem frX.Y {C : Nat → Prop} {S S' : aS} (h : frX C S S') : frY C S S' := ⟨fun i k hi => ⟨(h.1 i k hi).1, (h.1 i k hi).2, congrFun (congrFun h.2.1 i) k, congrFun (congrFun h.2.2.2 i) k⟩, h.2.2.1⟩
theorem frS.Y {t top : Nat} {S S' : aS} (h : frS t top S S') : frY (fun i => i = art t 2) S S' := ⟨fun i k hi => ⟨congrFun (congrFun h.2.1 i) k, h.1 i k (fun q => hi q.1), congrFun (congrFun h.2.2.1 i) k, congrFun (congrFun h.2.2.2.2 i) k⟩, h.2.2.2.1⟩
theorem frY.gr {C : Nat → Prop} {S S' : aS} (h : frY C S S') (i k : Nat) : gr S' i k = gr S i k := congrFun (congrFun h.2 i) k
theorem frY_sa {C : Nat → Prop} {S : aS} {i k : Nat} {v : Int32} (h : C i) : frY C S (sa S i k v) := (frX_sa h).Y
theorem frY_si {C : Nat → Prop} {S : aS} {i k : Nat} {v : Int32} (h : C i) : frY C S (si S i k v) := (frX_si h).Y
theorem frY_sb {C : Nat → Prop} {S : aS} {i k : Nat} {v : Int64} (h : C i) : frY C S (sb S i k v) := by
  refine ⟨fun j m hj => ⟨rfl, rfl, rfl, ?_⟩, rfl⟩
  rw [gb_sb, if_neg (show ¬ (j = i ∧ m = k) from fun q => hj (q.1 ▸ h))]
theorem stX.keptY {r : zR} {z : zS} {S S' : aS} {t : Nat} {C : Nat → Prop} (h : stX r z S t) (hf : frY C S S') (hc : ∀ i, stC t i → ¬ C i) : stX r z S' t := by
  have g : ∀ k, gi S' t k = gi S t k := fun k => (hf.1 t k (hc t (Or.inl rfl))).1
  have a0 : ∀ k, ga S' (art t 0) k = ga S (art t 0) k := fun k => (hf.1 _ k (hc _ (Or.inr (Or.inl rfl)))).2.1
  have a1 : ∀ k, ga S' (art t 1) k = ga S (art t 1) k := fun k => (hf.1 _ k (hc _ (Or.inr (Or.inr (Or.inl rfl))))).2.1
  have a2 : ∀ k, ga S' (art t 2) k = ga S (art t 2) k := fun k => (hf.1 _ k (hc _ (Or.inr (Or.inr (Or.inr rfl))))).2.1
  unfold stX
  simp only [g, a0, a1, a2]
  exact h
/-- cells of a realm that tell it -/
def rcX (t i : Nat) : Prop := (t ≤ i ∧ i ≤ t + 11) ∨ i = t + 14
/-- cells in which the class works an E out -/
def scE (i : Nat) : Prop := (18 ≤ i ∧ i ≤ 19) ∨ (21 ≤ i ∧ i ≤ 22) ∨ (35 ≤ i ∧ i ≤ 36) ∨ (38 ≤ i ∧ i ≤ 39)
theorem rc_sc {t : Nat} (hT : isT t) : ∀ i, rcX t i → ¬ scE i := by
  intro i hi
  unfold rcX at hi
  unfold scE
  rcases hT with rfl | rfl <;> omega
theorem art_t {t : Nat} (hT : isT t) : (art t 1 = t + 1 ∧ art t 2 = t + 2 ∧ art t 4 = t + 3 ∧ art t 5 = t + 4 ∧ art t 6 = t + 5 ∧ art t 7 = t + 6 ∧ art t 8 = t + 7 ∧ art t 9 = t + 8 ∧ art t 10 = t + 9) ∧ (art t 14 = t + 11 ∧ art t 15 = t + 14) ∧ (art (t + 11) 1 = t + 12 ∧ art (t + 11) 2 = t + 13 ∧ art (t + 11) 3 = t + 10) ∧ (art (t + 14) 1 = t + 15 ∧ art (t + 14) 2 = t + 16 ∧ art (t + 14) 3 = t + 10) := by
  rcases hT with rfl | rfl <;> decide +kernel
theorem isFo_w {t : Nat} (hT : isT t) : isFo (art t 14) ∧ isFo (art t 15) := by
  rcases hT with rfl | rfl
  · exact ⟨isFo_17, isFo_20⟩
  · exact ⟨isFo_34, isFo_37⟩
/-- of so many facts alone -/
def dep (n : Nat) (F : zF) : Prop := ∀ f g : Nat → Int32, (∀ i, i < n → f i = g i) → F f = F g
def loX (S : aS) (tf : Nat) (n : Nat) : Option zF → Prop
  | some F => ∃ h ss a, eSt h ss F ∧ h ≤ 32 ∧ gi S tf 4 = nI a ∧ gi S tf 5 = nI (a + ss.length) ∧ a + ss.length ≤ 1000 ∧ sAt S tf a ss ∧ dep n F
  | none => gi S tf 4 = 0 ∧ gi S tf 5 = 0
def enc (b : Nat) (l : List Nat) : Nat := l.foldl (fun a c => a * b + c) 0
def clB (r : zR) (v c : Nat) : Prop := c < 4096 ∧ ∀ w, c.testBit w = (decide (w < rWd r) && rCl r v w)
def clX (r : zR) (S : aS) (t : Nat) : Prop := ∀ v, v < rWd r → ∃ c, clB r v c ∧ ga S (art t 10) v = nI c
def namX (r : zR) (S : aS) (t : Nat) : Prop := ∀ w, w < rWd r → gb S (art t 8) w = lN (enc 32 (rNm r w))
def RX (r : zR) (S : aS) (t : Nat) : Prop := rlX r S t ∧ loX S (art t 14) 5 (rWf r) ∧ loX S (art t 15) 3 (rDf r) ∧ clX r S t ∧ namX r S t
theorem loX.kept {S S' : aS} {tf n : Nat} {o : Option zF} (h : loX S tf n o) (g : ∀ k, gi S' tf k = gi S tf k) (a : ∀ k, ga S' (art tf 3) k = ga S (art tf 3) k) : loX S' tf n o := by
  cases o with
  | none => exact ⟨(g 4).trans h.1, (g 5).trans h.2⟩
  | some F =>
    obtain ⟨hh, ss, b, e1, e2, e3, e4, e5, e6, e7⟩ := h
    exact ⟨hh, ss, b, e1, e2, (g 4).trans e3, (g 5).trans e4, e5, fun i c hi => (a _).trans (e6 i c hi), e7⟩
theorem RX.kept {r : zR} {S S' : aS} {t : Nat} {C : Nat → Prop} (hT : isT t) (h : RX r S t) (hf : frY C S S') (hc : ∀ i, rcX t i → ¬ C i) : RX r S' t := by
  obtain ⟨⟨a1, a2, a4, a5, a6, a7, a8, a9, a10⟩, ⟨a14, a15⟩, ⟨b1, b2, b3⟩, ⟨c1, c2, c3⟩⟩ := art_t hT
  have g : ∀ i, rcX t i → ∀ k, gi S' i k = gi S i k := fun i hi k => (hf.1 i k (hc i hi)).1
  have a : ∀ i, rcX t i → ∀ k, ga S' i k = ga S i k := fun i hi k => (hf.1 i k (hc i hi)).2.1
  have b : ∀ i, rcX t i → ∀ k, gb S' i k = gb S i k := fun i hi k => (hf.1 i k (hc i hi)).2.2.2
  have m : ∀ n, n ≤ 11 → rcX t (t + n) := fun n hn => Or.inl ⟨by omega, by omega⟩
  obtain ⟨h1, h2, h3, h4, h5⟩ := h
  refine ⟨?_, ?_, ?_, ?_, ?_⟩
  · unfold rlX at h1 ⊢
    rw [a1, a4, a5, a6, a7, a9] at h1 ⊢
    simp only [g t (m 0 (by omega)), a _ (m 1 (by omega)), a _ (m 3 (by omega)), a _ (m 4 (by omega)), a _ (m 5 (by omega)), a _ (m 6 (by omega)), a _ (m 8 (by omega))]
    exact h1
  · refine h2.kept (fun k => ?_) (fun k => ?_)
    · rw [a14]; exact g _ (m 11 (by omega)) k
    · rw [a14, b3]; exact a _ (m 10 (by omega)) k
  · refine h3.kept (fun k => ?_) (fun k => ?_)
    · rw [a15]; exact g _ (Or.inr rfl) k
    · rw [a15, c3]; exact a _ (m 10 (by omega)) k
  · intro v hv
    obtain ⟨c, d1, d2⟩ := h4 v hv
    exact ⟨c, d1, by rw [a10] at d2 ⊢; rw [a _ (m 9 (by omega))]; exact d2⟩
  · intro w hw
    have := h5 w hw
    rw [a8] at this ⊢
    rw [b _ (m 7 (by omega))]
    exact this
def whoI (o : Option Nat) : Int32 := match o with
  | some k => nI k
  | none => -1
def okW (r : zR) (o : Option Nat) : Prop := ∀ k, o = some k → k < rWr r
def kdV (r : zR) (o : Option Nat) : Nat := match o with
  | some k => rKi r k
  | none => 0
def fdV (r : zR) (o : Option Nat) (w : Nat) : Nat := match o with
  | some k => rLi r k w
  | none => 0
def fcs (l : List Nat) : Nat → Int32 := fun i => nI (l.getD i 0)
def slyV (k v : Nat) : Nat := if k = 3 then max 1 v else v
def lkB (r : zR) (o : Option Nat) (le w a : Nat) : Nat := match rWf r with
  | some F => cl99 (F (fcs [rWe r w, fdV r o w, rGo r w, le, a]))
  | none => if kdV r o = 2 then 1 else if kdV r o = 1 ∧ 9 < rGo r w then 0 else rWe r w + fdV r o w
/-- how likely a writer writes a word of which so many are left, behind so much good -/
def lkV (r : zR) (o : Option Nat) (le w a : Nat) : Nat := if le = 0 then 0 else slyV (kdV r o) (lkB r o le w a)
theorem kdV_le {r : zR} (hr : okR r) {o : Option Nat} (ho : okW r o) : kdV r o ≤ 3 := by
  cases o with
  | none => exact Nat.zero_le _
  | some k => exact hr.2.2.2.2.1 k (ho k rfl)
theorem fdV_le {r : zR} (hr : okR r) {o : Option Nat} (ho : okW r o) {w : Nat} (hw : w < rWd r) : fdV r o w ≤ 9 := by
  cases o with
  | none => exact Nat.zero_le _
  | some k => exact hr.2.2.2.2.2.2 k w (ho k rfl) hw
theorem lkB_le {r : zR} (hr : okR r) {o : Option Nat} (ho : okW r o) {w : Nat} (hw : w < rWd r) (le a : Nat) : lkB r o le w a ≤ 99 := by
  have h1 := fdV_le hr ho hw
  have h2 := (hr.2.2.2.2.2.1 w hw).2.1
  unfold lkB
  cases rWf r with
  | some F => exact cl99_le _
  | none =>
    dsimp only
    split
    · omega
    · split <;> omega
theorem lkV_le {r : zR} (hr : okR r) {o : Option Nat} (ho : okW r o) {w : Nat} (hw : w < rWd r) (le a : Nat) : lkV r o le w a ≤ 99 := by
  have h1 := lkB_le hr ho hw le a
  unfold lkV slyV
  split
  · omega
  · split
    · exact Nat.max_le.mpr ⟨by omega, h1⟩
    · exact h1
theorem idx_neg {n : Nat} : idx n (-1) = none := idx_none (Or.inl (by decide))
theorem kd_eq {r : zR} (hr : okR r) {o : Option Nat} (ho : okW r o) : pAt (rWr r) (rKi r) 0 (whoI o) = nI (kdV r o) := by
  unfold pAt whoI kdV
  cases o with
  | none => rw [idx_neg]; rfl
  | some k => dsimp only; rw [idx_some (by have := hr.1; omega) (ho k rfl)]
theorem fd_eq {r : zR} (hr : okR r) {o : Option Nat} (ho : okW r o) {w : Nat} (hw : w < rWd r) : pFond r (whoI o) (nI w) = nI (fdV r o w) := by
  unfold pFond whoI fdV
  cases o with
  | none => rw [idx_neg]; rfl
  | some k => dsimp only; rw [idx_some (by have := hr.1; omega) (ho k rfl), idx_some (by have := hr.2.1; omega) hw]
theorem sly_eq {k v : Nat} (hk : k < 2 ^ 31) (hv : v < 2 ^ 31) : (¬ nI k = 3 → slyV k v = v) ∧ (nI k = 3 → (if (1 : Int32) < nI v then nI v else 1) = nI (slyV k v)) := by
  have e : nI k = 3 ↔ k = 3 := by rw [show (3 : Int32) = nI 3 from rfl, nI_eq hk (by decide)]
  rw [e]
  unfold slyV
  refine ⟨fun c => if_neg c, fun c => ?_⟩
  rw [if_pos c]
  by_cases c1 : 1 < v
  · rw [if_pos (show (1 : Int32) < nI v from nI_lt (a := 1) c1 hv), Nat.max_eq_right (by omega)]
  · rw [if_neg (show ¬ (1 : Int32) < nI v from nI_nlt (a := 1) (b := v) (by omega) (by decide)), Nat.max_eq_left (by omega)]
    rfl
def bO (o : Option zF) : Int32 := match o with
  | some _ => 1
  | none => 0
section
variable {d : Nat} {Q : Value → aS → Prop} {S : aS} {t w le a : Nat} {r : zR} {o : Option Nat}
theorem wX_isTold {tf n : Nat} {lo : Option zF} (ht : isFo tf) (h : loX S tf n lo) (hx : Q (.int (bO lo)) S) : aWX (d + 1) 2 [.ref tf] S Q := by
  refine mX_Formula_isTold ?_
  simp only [aG, gK, ht.1, Nat.beq_refl, cond_true, true_or, or_true, true_and]
  cases lo with
  | none =>
    rw [h.1, h.2]
    exact ⟨fun _ => hx, fun q => absurd (by decide) q⟩
  | some F =>
    obtain ⟨hh, ss, b, e1, e2, e3, e4, e5, e6, e7⟩ := h
    have := e1.1
    rw [e3, e4]
    exact ⟨fun q => absurd q (nI_ge (by omega) (by omega)), fun _ => hx⟩
theorem wX_setFact {tf n : Nat} {v : Int32} (ht : isFo tf) (hn : n < 5) (hx : ∀ S', frY (fun i => i = art tf 1) S S' → (∀ j, ga S' (art tf 1) j = if j = n then v else ga S (art tf 1) j) → Q .null S') : aWX (d + 1) 5 [.ref tf, .int (nI n), .int v] S Q := by
  refine mX_Formula_setFact ?_
  simp only [aG, gK, ht.1, ht.2.1.1, ht.2.1.2, Nat.beq_refl, cond_true, nI_clamp (show n < 2 ^ 31 by omega)]
  refine ⟨fun q => absurd q (nI_pos (by omega)), fun _ => ⟨fun q => absurd q (nI_ge (a := n) (b := 5) hn (by decide)), fun _ => ⟨nI_in hn (by decide), hx _ (frY_sa rfl) (fun j => ?_)⟩⟩⟩
  rw [ga_sa]
  by_cases c : j = n
  · rw [if_pos c, if_pos ⟨rfl, c⟩]
  · rw [if_neg c, if_neg (fun q => c q.2)]
theorem bX_likely81 {k v : Nat} (hk : k < 2 ^ 31) (hv : v < 2 ^ 31) (hx : Q (.int (nI (slyV k v))) S) : aBX d 73 Q 81 [none, none, none, none, none, some (.int (nI k)), none, some (.int (nI v))] [] S := by
  refine bX_Realm_likely_81 ⟨fun c => ?_, fun c => ?_⟩
  · rw [(sly_eq hk hv).1 c] at hx; exact hx
  · rw [(sly_eq hk hv).2 c]; exact hx
theorem wX_likely (hr : okR r) (hT : isT t) (h : RX r S t) (hw : w < rWd r) (ho : okW r o) (hle : le ≤ 9) (hx : ∀ S', frY scE S S' → Q (.int (nI (lkV r o le w a))) S') : aWX (d + 3) 73 [.ref t, .int (nI w), .int (whoI o), .int (nI le), .int (nI a)] S Q := by
  have ht := hT.re
  have hwd := hr.2.1
  have hk3 := kdV_le hr ho
  have hf9 := fdV_le hr ho hw
  obtain ⟨hwe1, hwe, hgo, -⟩ := hr.2.2.2.2.2.1 w hw
  obtain ⟨h1, h2, h3, h4, h5⟩ := id h
  obtain ⟨f1, f2⟩ := isFo_w hT
  refine mX_Realm_likely (gK_ok ht.1 (wX_hasWord hr ht h1 ?_))
  rw [idx_some (by omega) hw]
  refine ⟨fun q => absurd q bI_some, fun _ => ⟨fun c => ?_, fun c => ?_⟩⟩
  · have hle0 : ¬ le = 0 := fun q => by rw [q] at c; exact absurd c (by decide)
    unfold lkV at hx
    rw [if_neg hle0] at hx
    refine wX_kindOf hr ht h1 ?_
    rw [kd_eq hr ho]
    refine wX_fondness hr ht h1 ?_
    rw [fd_eq hr ho hw]
    refine gK_ok ht.1 (gK_ok ht.2.2.2.1.1 ⟨?_, gK_ok ht.1 (wX_isTold f1 h2 ?_)⟩)
    · rw [ht.2.2.2.1.2]
      exact nI_in (by omega) (by decide)
    rw [nI_clamp (show w < 2 ^ 31 by omega), h1.2.2.2.2.2.2.1 w hw, nI_add]
    unfold lkB at hx
    cases hF : rWf r with
    | none =>
      rw [hF] at hx
      dsimp only at hx
      have hx0 := hx S frY.rf
      have k2 : nI (kdV r o) = 2 ↔ kdV r o = 2 := by rw [show (2 : Int32) = nI 2 from rfl, nI_eq (by omega) (by decide)]
      have k1 : nI (kdV r o) = 1 ↔ kdV r o = 1 := by rw [show (1 : Int32) = nI 1 from rfl, nI_eq (by omega) (by decide)]
      refine ⟨fun _ => ⟨fun c2 => ⟨fun c1 => ?_, fun c1 => gK_ok ht.1 (gK_ok ht.2.2.2.2.1.1 ⟨?_, fun c9 => ?_, fun c9 => ?_⟩)⟩, fun c2 => ?_⟩, fun q => absurd rfl q⟩
      · rw [k2] at c2
        rw [k1] at c1
        rw [if_neg c2, if_neg (fun q => c1 q.1)] at hx0
        exact bX_likely81 (by omega) (by omega) hx0
      · rw [ht.2.2.2.2.1.2]
        exact nI_in (by omega) (by decide)
      · rw [k2] at c2
        rw [h1.2.2.2.2.2.2.2.1 w hw, show (9 : Int32) = nI 9 from rfl, nI_leI (by omega) (by decide)] at c9
        rw [if_neg c2, if_neg (fun q => by omega)] at hx0
        exact bX_likely81 (by omega) (by omega) hx0
      · rw [k2] at c2
        rw [k1] at c1
        rw [h1.2.2.2.2.2.2.2.1 w hw, show (9 : Int32) = nI 9 from rfl, nI_leI (by omega) (by decide)] at c9
        rw [if_neg c2, if_pos ⟨c1, by omega⟩] at hx0
        exact bX_likely81 (v := 0) (by omega) (by omega) hx0
      · rw [k2] at c2
        rw [if_pos c2] at hx0
        exact bX_likely81 (v := 1) (by omega) (by omega) hx0
    | some F =>
      rw [hF] at hx h2
      dsimp only at hx
      obtain ⟨hh, ss, b, e1, e2, e3, e4, e5, e6, e7⟩ := h2
      obtain ⟨⟨a1, a2, a4, a5, a6, a7, a8, a9, a10⟩, ⟨a14, a15⟩, ⟨b1, b2, b3⟩, -⟩ := art_t hT
      have sf : ∀ S1 S2, frY (fun i => i = art (art t 14) 1) S1 S2 → frY scE S1 S2 := fun S1 S2 q => q.le (fun i hi => by
        rw [a14, b1] at hi
        unfold scE
        rcases hT with rfl | rfl <;> omega)
      refine ⟨fun q => absurd q (show ¬ (1 : Int32) = 0 by decide), fun _ => gK_ok ht.1 (gK_ok ht.1 (gK_ok ht.2.2.2.1.1 ⟨?_, wX_setFact (n := 0) f1 (by decide) (fun S1 g1 y1 => ?_)⟩))⟩
      · rw [ht.2.2.2.1.2]
        exact nI_in (by omega) (by decide)
      refine bX_Realm_likely_36 (gK_ok ht.1 (wX_setFact (n := 1) f1 (by decide) (fun S2 g2 y2 => ?_)))
      have q2 := (sf _ _ g1).tr (sf _ _ g2)
      have h12 := (h.kept hT q2 (rc_sc hT)).1
      refine bX_Realm_likely_41 (gK_ok ht.1 (gK_ok ht.1 (gK_ok ht.2.2.2.2.1.1 ⟨?_, ?_⟩)))
      · rw [ht.2.2.2.2.1.2]
        exact nI_in (by omega) (by decide)
      rw [nI_clamp (by omega), h12.2.2.2.2.2.2.2.1 w hw]
      refine wX_setFact (n := 2) f1 (by decide) (fun S3 g3 y3 => ?_)
      refine bX_Realm_likely_49 (gK_ok ht.1 (wX_setFact (n := 3) f1 (by decide) (fun S4 g4 y4 => ?_)))
      refine bX_Realm_likely_54 (gK_ok ht.1 (wX_setFact (n := 4) f1 (by decide) (fun S5 g5 y5 => ?_)))
      have q5 := ((q2.tr (sf _ _ g3)).tr (sf _ _ g4)).tr (sf _ _ g5)
      have gg : ∀ k, gi S5 (art t 14) k = gi S (art t 14) k := fun k => (q5.1 _ k (rc_sc hT _ (by rw [a14]; exact Or.inl ⟨by omega, by omega⟩))).1
      have ga' : ∀ k, ga S5 (art (art t 14) 3) k = ga S (art (art t 14) 3) k := fun k => (q5.1 _ k (rc_sc hT _ (by rw [a14, b3]; exact Or.inl ⟨by omega, by omega⟩))).2.1
      refine bX_Realm_likely_59 (gK_ok ht.1 (wX_held e1 e2 f1 ((gg 4).trans e3) ((gg 5).trans e4) e5 (fun i c hi => (ga' _).trans (e6 i c hi)) (fun S6 g6 => ?_)))
      have ef : F (fcX (art t 14) S5) = F (fcs [rWe r w, fdV r o w, rGo r w, le, a]) := by
        refine e7 _ _ (fun i hi => ?_)
        unfold fcX
        rw [y5, y4, y3, y2, y1]
        match i, hi with
        | 0, _ => rfl
        | 1, _ => rfl
        | 2, _ => rfl
        | 3, _ => rfl
        | 4, _ => rfl
        | n + 5, q => exact absurd q (by omega)
      rw [ef]
      refine bX_likely81 (by omega) (by have := cl99_le (F (fcs [rWe r w, fdV r o w, rGo r w, le, a])); omega) (hx S6 (q5.tr (g6.Y.le (fun i hi => ?_))))
      rw [a14, b2] at hi
      unfold scE
      rcases hT with rfl | rfl <;> omega
  · have hle0 : le = 0 := by
      by_cases q : le = 0
      · exact q
      · exact absurd (nI_lt (a := 0) (by omega) (by omega)) c
    unfold lkV at hx
    rw [if_pos hle0] at hx
    exact hx S frY.rf
end
