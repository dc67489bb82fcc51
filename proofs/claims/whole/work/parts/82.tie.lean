/-! the tie between the two sides -/
abbrev zL : Type := Nat × Nat
def lnI (l : zL) : Int32 := if l.1 = 0 then nI l.2 else if l.1 = 1 then nI (16 + l.2) else -1
def okL (r : zR) (ls : List zL) : Prop := ls.length ≤ 40 ∧ ∀ l, l ∈ ls → l.1 ≤ 2 ∧ (l.1 = 0 → l.2 < rWd r) ∧ (l.1 = 1 → l.2 ≤ 9)
def okD (r : zR) (rd : List Nat) : Prop := rd.length ≤ 8 ∧ ∀ w, w ∈ rd → w < rWd r ∧ rFd r w < rFo r
def okN (r : zR) : Prop := (∀ w, w < rWd r → (rNm r w).length ≤ 8 ∧ ∀ c, c ∈ rNm r w → 1 ≤ c ∧ c ≤ 26) ∧ ∀ v w, v < rWd r → w < rWd r → rCl r v w = rCl r w v
def okT (tp : List Nat) : Prop := tp.length ≤ 1000 ∧ ∀ c, c ∈ tp → c = 10 ∨ (32 ≤ c ∧ c ≤ 126)
def lsX (ls : List zL) (S : aS) (p : Nat) : Prop := gi S p 2 = nI ls.length ∧ ∀ k l, ls[k]? = some l → ga S (p + 5) k = lnI l
def rdB (rd : List Nat) (b : Nat) : Prop := b < 4096 ∧ ∀ w, b.testBit w = decide (w ∈ rd)
def rdX (rd : List Nat) (S : aS) (p : Nat) : Prop := gi S p 4 = nI rd.length ∧ ∃ b, rdB rd b ∧ gi S p 3 = nI b
def lsM (ls : List zL) (S : aS) (m : Nat) : Prop := ga S 1027 m = nI ls.length ∧ ∀ k l, ls[k]? = some l → ga S 1028 (40 * m + k) = nI l.1 ∧ (l.1 ≤ 1 → ga S 1029 (40 * m + k) = nI l.2)
def rdM (rd : List Nat) (S : aS) (m : Nat) : Prop := ga S 1030 m = nI rd.length ∧ ∀ k w, rd[k]? = some w → ga S 1031 (8 * m + k) = nI w
abbrev zP : Type := zS × List zL × List Nat
def okP (r : zR) (p : zP) : Prop := okZ r p.1 ∧ okL r p.2.1 ∧ okD r p.2.2
def pgX (r : zR) (p : zP) (S : aS) (c : Nat) : Prop := stX r p.1 S (c + 1) ∧ lsX p.2.1 S c ∧ rdX p.2.2 S c
def mk1X (r : zR) (S : aS) (c : Nat) : Option zP → Prop
  | some p => okP r p ∧ gi S c 5 = 1 ∧ pgX r p S c
  | none => gi S c 5 = 0
def mk1M (r : zR) (S : aS) (j : Nat) : Option zP → Prop
  | some p => ga S 1036 j = 1 ∧ stM r p.1 (ga S 1034) (60 * j) ∧ lsM p.2.1 S (1 + j) ∧ rdM p.2.2 S (1 + j)
  | none => ga S 1036 j = 0
def mkX (r : zR) (mk : Nat → Option zP) (S : aS) : Prop := ∀ j, j < 4 → mk1X r S (128 + 6 * j) (mk j)
def mkM (r : zR) (mk : Nat → Option zP) (S : aS) : Prop := ∀ j, j < 4 → mk1M r S j (mk j)
def tpX (tp : List Nat) (S : aS) : Prop := gi S 1 1 = nI tp.length ∧ ∀ k c, tp[k]? = some c → ga S 2 k = nI c
def tpM (tp : List Nat) (S : aS) : Prop := gi S 1000 1 = nI tp.length ∧ ∀ k c, tp[k]? = some c → ga S 1001 k = nI c
/-- realm; page; what was kept; marks; tape -/
abbrev zG : Type := zR × zP × List zS × (Nat → Option zP) × List Nat
def okG (g : zG) : Prop := okR g.1 ∧ okN g.1 ∧ okP g.1 g.2.1 ∧ okT g.2.2.2.2
/-- which formula is of the writing -/
def fld (S : aS) : Prop := gi S 17 0 = 1 ∧ gi S 34 0 = 1 ∧ gi S 20 0 = 0 ∧ gi S 37 0 = 0
theorem fld.kept {S S' : aS} {C : Nat → Prop} (h : fld S) (hf : frY C S S') (hc : ∀ i, i = 17 ∨ i = 34 ∨ i = 20 ∨ i = 37 → ¬ C i) : fld S' := ⟨(hf.1 17 0 (hc 17 (by omega))).1.trans h.1, (hf.1 34 0 (hc 34 (by omega))).1.trans h.2.1, (hf.1 20 0 (hc 20 (by omega))).1.trans h.2.2.1, (hf.1 37 0 (hc 37 (by omega))).1.trans h.2.2.2⟩
def XX (g : zG) (t : Nat) (S : aS) : Prop := (isT t ∧ gr S 0 2 = t ∧ gr S 0 3 = 29 - t ∧ fld S) ∧ RX g.1 S t ∧ pgX g.1 g.2.1 S 40 ∧ hsX g.1 g.2.2.1 S ∧ mkX g.1 g.2.2.2.1 S ∧ tpX g.2.2.2.2 S
def MM (g : zG) (S : aS) : Prop := RM g.1 S ∧ (stM g.1 g.2.1.1 (ga S 1032) 0 ∧ lsM g.2.1.2.1 S 0 ∧ rdM g.2.1.2.2 S 0) ∧ hsM g.1 g.2.2.1 S ∧ mkM g.1 g.2.2.2.1 S ∧ tpM g.2.2.2.2 S
def Rel (SX SM : aS) : Prop := ∃ g t, okG g ∧ XX g t SX ∧ MM g SM
/-- cells and fields that hold nothing from one call to the next -/
def scX (i : Nat) : Prop := scE i ∨ (113 ≤ i ∧ i ≤ 127)
def scM (i : Nat) : Prop := (1015 ≤ i ∧ i ≤ 1026) ∨ i = 1032 ∨ i = 1033 ∨ 1037 ≤ i
def scF (k : Nat) : Prop := k ≠ 1 ∧ k ≠ 50
theorem lsX.kept {ls : List zL} {S S' : aS} {p : Nat} (h : lsX ls S p) (g : ∀ k, gi S' p k = gi S p k) (a : ∀ k, ga S' (p + 5) k = ga S (p + 5) k) : lsX ls S' p := ⟨(g 2).trans h.1, fun k l hk => (a k).trans (h.2 k l hk)⟩
theorem rdX.kept {rd : List Nat} {S S' : aS} {p : Nat} (h : rdX rd S p) (g : ∀ k, gi S' p k = gi S p k) : rdX rd S' p := ⟨(g 4).trans h.1, h.2.imp (fun _ q => ⟨q.1, (g 3).trans q.2⟩)⟩
theorem pg_st : ∀ j, j < 4 → art (129 + 6 * j) 0 = 130 + 6 * j ∧ art (129 + 6 * j) 1 = 131 + 6 * j ∧ art (129 + 6 * j) 2 = 132 + 6 * j ∧ art (128 + 6 * j) 0 = 129 + 6 * j ∧ art (128 + 6 * j) 1 = 133 + 6 * j ∧ akd (128 + 6 * j) = 4 ∧ akd (129 + 6 * j) = 8 ∧ ara 46 j = 128 + 6 * j ∧ akd (133 + 6 * j) = 20 ∧ aln (133 + 6 * j) = 40 := by decide +kernel
theorem pgX.kept {r : zR} {p : zP} {S S' : aS} {c : Nat} {C : Nat → Prop} (h : pgX r p S c) (hf : frY C S S') (hc : ∀ i, c ≤ i → i ≤ c + 5 → ¬ C i) (hst : ∀ i, stC (c + 1) i → c ≤ i ∧ i ≤ c + 5) : pgX r p S' c := by
  have g : ∀ k, gi S' c k = gi S c k := fun k => (hf.1 c k (hc c (by omega) (by omega))).1
  have a : ∀ k, ga S' (c + 5) k = ga S (c + 5) k := fun k => (hf.1 (c + 5) k (hc (c + 5) (by omega) (by omega))).2.1
  exact ⟨h.1.keptY hf (fun i hi => hc i (hst i hi).1 (hst i hi).2), h.2.1.kept g a, h.2.2.kept g⟩
theorem st_pg : ∀ i, stC (40 + 1) i → 40 ≤ i ∧ i ≤ 40 + 5 := fun i hi => by
  have := stC_41.mp hi
  omega
theorem st_mk {j : Nat} (h : j < 4) : ∀ i, stC (128 + 6 * j + 1) i → 128 + 6 * j ≤ i ∧ i ≤ 128 + 6 * j + 5 := fun i hi => by
  obtain ⟨e1, e2, e3, -⟩ := pg_st j h
  unfold stC at hi
  rw [show 128 + 6 * j + 1 = 129 + 6 * j by omega, e1, e2, e3] at hi
  omega
theorem mkX.kept {r : zR} {mk : Nat → Option zP} {S S' : aS} {C : Nat → Prop} (h : mkX r mk S) (hf : frY C S S') (hc : ∀ i, 128 ≤ i → i ≤ 151 → ¬ C i) : mkX r mk S' := by
  intro j hj
  have h1 := h j hj
  have g : ∀ k, gi S' (128 + 6 * j) k = gi S (128 + 6 * j) k := fun k => (hf.1 _ k (hc _ (by omega) (by omega))).1
  cases hm : mk j with
  | none =>
    rw [hm] at h1
    exact (g 5).trans h1
  | some p =>
    rw [hm] at h1
    obtain ⟨a1, a2, a3⟩ := h1
    exact ⟨a1, (g 5).trans a2, a3.kept hf (fun i h1 h2 => hc i (by omega) (by omega)) (st_mk hj)⟩
theorem hsX.keptY {r : zR} {hs : List zS} {S S' : aS} {C : Nat → Prop} (h : hsX r hs S) (hf : frY C S S') (hc : ∀ i, hC i → ¬ C i) : hsX r hs S' := by
  obtain ⟨fi, g0, g1, g2, g3, g4⟩ := h
  have n47 := hc 47 (by unfold hC; omega)
  refine ⟨fi, g0, (hf.1 47 1 n47).1.trans g1, (hf.1 47 2 n47).1.trans g2, g3, fun k z hk => ?_⟩
  obtain ⟨b1, b2⟩ := g4 k z hk
  have hlt : (fi + k) % 16 < 16 := Nat.mod_lt _ (by decide)
  refine ⟨b1, b2.keptY hf (fun i hi => hc i ?_)⟩
  rw [stC_h hlt] at hi
  unfold hC
  omega
theorem tpX.kept {tp : List Nat} {S S' : aS} {C : Nat → Prop} (h : tpX tp S) (hf : frY C S S') (h1 : ¬ C 1) (h2 : ¬ C 2) : tpX tp S' := ⟨(hf.1 1 1 h1).1.trans h.1, fun k c hk => (hf.1 2 k h2).2.1.trans (h.2 k c hk)⟩
theorem XX.kept {g : zG} {t : Nat} {S S' : aS} (h : XX g t S) (hf : frY scX S S') : XX g t S' := by
  obtain ⟨⟨hT, g2, g3, g4⟩, h1, h2, h3, h4, h5⟩ := h
  refine ⟨⟨hT, (hf.gr 0 2).trans g2, (hf.gr 0 3).trans g3, g4.kept hf (fun i hi => by unfold scX scE; omega)⟩, h1.kept hT hf (fun i hi => ?_), h2.kept hf (fun i a b => ?_) st_pg, h3.keptY hf (fun i hi => ?_), h4.kept hf (fun i a b => ?_), h5.kept hf ?_ ?_⟩
  · have := rc_sc hT i hi
    unfold rcX at hi
    rintro (q | q)
    · exact this q
    · rcases hT with rfl | rfl <;> omega
  all_goals (try unfold hC at hi)
  all_goals unfold scX scE
  all_goals omega
theorem lsM.kept {ls : List zL} {S S' : aS} {m : Nat} (h : lsM ls S m) (a : ∀ i, 1027 ≤ i → i ≤ 1031 → ∀ k, ga S' i k = ga S i k) : lsM ls S' m := ⟨(a 1027 (by decide) (by decide) _).trans h.1, fun k l hk => ⟨(a 1028 (by decide) (by decide) _).trans (h.2 k l hk).1, fun q => (a 1029 (by decide) (by decide) _).trans ((h.2 k l hk).2 q)⟩⟩
theorem rdM.kept {rd : List Nat} {S S' : aS} {m : Nat} (h : rdM rd S m) (a : ∀ i, 1027 ≤ i → i ≤ 1031 → ∀ k, ga S' i k = ga S i k) : rdM rd S' m := ⟨(a 1030 (by decide) (by decide) _).trans h.1, fun k l hk => (a 1031 (by decide) (by decide) _).trans (h.2 k l hk)⟩
theorem mkM.kept {r : zR} {mk : Nat → Option zP} {S S' : aS} (h : mkM r mk S) (a : ∀ i, 1027 ≤ i → i ≤ 1031 → ∀ k, ga S' i k = ga S i k) (a4 : ∀ k, ga S' 1034 k = ga S 1034 k) (a6 : ∀ k, ga S' 1036 k = ga S 1036 k) : mkM r mk S' := by
  intro j hj
  have h1 := h j hj
  have e4 : ga S' 1034 = ga S 1034 := funext a4
  cases hm : mk j with
  | none =>
    rw [hm] at h1
    exact (a6 j).trans h1
  | some p =>
    rw [hm] at h1
    obtain ⟨b1, b2, b3, b4⟩ := h1
    exact ⟨(a6 j).trans b1, by rw [e4]; exact b2, b3.kept a, b4.kept a⟩
theorem MM.kept {g : zG} {S S' : aS} (hg : okG g) (h : MM g S) (hf : frM scM scF S S') (h32 : ∀ k, k < 60 → ga S' 1032 k = ga S 1032 k) : MM g S' := by
  obtain ⟨h1, ⟨h2, h3, h4⟩, h5, h6, h7⟩ := h
  have a : ∀ i, i < 1015 ∨ (1027 ≤ i ∧ i ≤ 1031) ∨ (1034 ≤ i ∧ i ≤ 1036) → ∀ k, ga S' i k = ga S i k := fun i hi k => hf.1 i k (fun q => by unfold scM at q; omega)
  have ar : ∀ i, 1027 ≤ i → i ≤ 1031 → ∀ k, ga S' i k = ga S i k := fun i h1 h2 => a i (by omega)
  refine ⟨h1.kept hf (fun i hi => by unfold scM at hi; omega), ⟨h2.moved hg.1 hg.2.2.1.1 (fun k hk => ?_), h3.kept ar, h4.kept ar⟩, h5.kept hf (by unfold scM; omega) (by unfold scF; omega), h6.kept ar (a 1034 (by omega)) (a 1036 (by omega)), ⟨(hf.2.2.1 1 (by unfold scF; omega)).trans h7.1, fun k c hk => (a 1001 (by omega) k).trans (h7.2 k c hk)⟩⟩
  rw [Nat.zero_add]
  exact h32 k hk
/-- a question: both sides answer n, and hold what they held -/
theorem tie_q {j1 j2 : Nat} {av : List Value} (H : ∀ g t, okG g → isT t → ∃ n, (∀ S Q, XX g t S → (∀ S', frY scX S S' → Q (.int n) S') → aWX dd j1 (.ref 0 :: av) S Q) ∧ (∀ S Q, MM g S → (∀ S', frM scM scF S S' → (∀ k, k < 60 → ga S' 1032 k = ga S 1032 k) → Q (.int n) S') → aWM dd j2 (.ref 1000 :: av) S Q)) : lOK Rel j1 j2 av := by
  rintro SX SM ⟨g, t, ok, hX, hM⟩
  obtain ⟨n, a, b⟩ := H g t ok hX.1.1
  exact a SX _ hX (fun SX1 hf => ⟨n, rfl, b SM _ hM (fun SM1 hf2 h32 => ⟨rfl, g, t, ok, hX.kept hf, hM.kept ok hf2 h32⟩)⟩)
theorem frM_0 {S : aS} : frM scM scF S (si S 1000 0 0) := frM_si (by unfold scF; omega)
theorem MM_0 {g : zG} {S : aS} (hg : okG g) (h : MM g S) : MM g (si S 1000 0 0) := h.kept hg frM_0 (fun _ _ => rfl)
theorem tie_strip : ok_strip Rel := by
  intro a
  refine tie_q (fun g t ok hT => ⟨pStrip g.2.1.1 a, fun S Q h hx => ?_, fun S Q h hx => ?_⟩)
  · exact wX_strip (d := 98) ok.1 ok.2.2.1.1 h.2.2.1.1 (hx S frY.rf)
  · exact wM_strip (d := 99) ok.1 ok.2.2.1.1 h.2.1.1 (hx _ frM_0 (fun _ _ => rfl))
theorem tie_spike : ok_spike Rel := by
  intro a b
  refine tie_q (fun g t ok hT => ⟨pSpike g.1 g.2.1.1 a b, fun S Q h hx => ?_, fun S Q h hx => ?_⟩)
  · exact wX_spike (d := 97) ok.1 ok.2.2.1.1 h.1.2.1 hT.re h.2.1.1 h.2.2.1.1 (hx S frY.rf)
  · exact wM_spike (d := 99) ok.1 ok.2.2.1.1 h.1.1 h.2.1.1 (hx _ frM_0 (fun _ _ => rfl))
