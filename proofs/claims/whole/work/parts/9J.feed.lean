/-! the tie: feed, both -/
def tmC (i : Nat) : Prop := i = 1001
def tmF (k : Nat) : Prop := k = 0 ∨ k = 1
def fdB (a b c : Int64) (k : Nat) : Nat := byN (if 8 ≤ k then (if 16 ≤ k then c else b) else a) (56 - 8 * (k % 8))
theorem tN_cat {tp : List Nat} {b b2 : Nat → Nat} {n : Nat} : ∀ m, (∀ k, k < m → b2 k = b (n + k)) → tN (tN tp b n) b2 m = tN tp b (n + m)
  | 0, _ => rfl
  | m + 1, h => by
    show pushB (tN (tN tp b n) b2 m) (b2 m) = pushB (tN tp b (n + m)) (b (n + m))
    rw [tN_cat m (fun k hk => h k (by omega)), h m (by omega)]
section
variable {d : Nat} {Q : Value → aS → Prop} {S : aS}
theorem wM_feed {a b c : Int64} {tp : List Nat} (ht : okT tp) (hs : tpM tp S) (h : ∀ S', frM tmC tmF S S' → tpM (tN tp (fdB a b c) 24) S' → Q (.int (nI (tN tp (fdB a b c) 24).length)) S') : aWM (d + 1) 4 [.ref 1000, .long a, .long b, .long c] S Q := by
  refine mM_feed ?_
  have loop : ∀ n m T, m + n = 24 → frM tmC tmF S T → tpM (tN tp (fdB a b c) m) T → aBM d 4 Q 5 [some (.ref 1000), some (.long a), none, some (.long b), none, some (.long c), none, some (.int (nI m)), none, none, none] [] T := by
    intro n
    induction n with
    | zero =>
      intro m T hm h1 h2
      obtain rfl : m = 24 := by omega
      refine bM_feed_5 ⟨fun _ => ?_, fun q => absurd (show (24 : Int32) ≤ nI 24 by decide) q⟩
      rw [h2.1]
      exact h T h1 h2
    | succ n ih =>
      intro m T hm h1 h2
      have okm := okT_N (b := fdB a b c) ht m
      have hok := okm.1
      have go : ∀ w, (if 8 ≤ m then (if 16 ≤ m then c else b) else a) = w → aBM d 4 Q 19 [some (.ref 1000), some (.long a), none, some (.long b), none, some (.long c), none, some (.int (nI m)), none, none, none] [.long w] T := by
        intro w ew
        have eb : fdB a b c m = byN w (56 - 8 * (m % 8)) := by unfold fdB; rw [ew]
        have hb : byN w (56 - 8 * (m % 8)) < 256 := Nat.mod_lt _ (by decide)
        have same : ¬ ((tN tp (fdB a b c) m).length < 1000 ∧ okC (fdB a b c m)) → aBM d 4 Q 5 [some (.ref 1000), some (.long a), none, some (.long b), none, some (.long c), none, some (.int (nI m + 1)), none, none, none] [] T := fun q => by
          rw [nI_1]
          refine ih (m + 1) T (by omega) h1 ?_
          show tpM (pushB _ _) T
          unfold pushB
          rw [if_neg q]
          exact h2
        refine bM_feed_19 ?_
        rw [byM (by omega), h2.1, show (1000 : Int32) = nI 1000 from rfl, nI_leI (by decide) (by omega)]
        refine ⟨fun q => same (fun q2 => by omega), fun q => ?_⟩
        refine okC_iff hb (fun cc => ⟨nI_in (by omega) (by omega), ?_⟩) (fun cc => same (fun q2 => cc (eb ▸ q2.2)))
        rw [nI_clamp (by omega), nI_1 m]
        refine ih (m + 1) _ (by omega) (frM.tr (frM.tr h1 (frM_sa (C := tmC) (F := tmF) rfl)) (frM_si (Or.inr rfl))) ?_
        show tpM (pushB _ _) _
        unfold pushB
        rw [eb, if_pos ⟨by omega, cc⟩]
        refine ⟨?_, fun k x hk => ?_⟩
        · rw [gi_si, if_pos ⟨rfl, rfl⟩, gi_sa, h2.1, nI_1, List.length_append]
          rfl
        · rw [ga_si, ga_sa]
          by_cases ck : k = (tN tp (fdB a b c) m).length
          · subst ck
            rw [List.getElem?_append_right (Nat.le_refl _), Nat.sub_self] at hk
            cases hk
            rw [if_pos ⟨rfl, rfl⟩]
          · rw [if_neg (fun q => ck q.2)]
            have hlt := (List.getElem?_eq_some_iff.mp hk).1
            rw [List.length_append] at hlt
            rw [List.getElem?_append_left (by rw [List.length_singleton] at hlt; omega)] at hk
            exact h2.2 k x hk
      refine bM_feed_5 ⟨fun q => absurd q (nI_ge (a := m) (b := 24) (by omega) (by decide)), fun _ => ?_⟩
      rw [show (8 : Int32) = nI 8 from rfl, show (16 : Int32) = nI 16 from rfl, nI_leI (by decide) (by omega), nI_leI (by decide) (by omega)]
      exact ⟨fun c8 => ⟨fun c16 => go c (by rw [if_pos c8, if_pos c16]), fun c16 => go b (by rw [if_pos c8, if_neg c16])⟩, fun c8 => go a (by rw [if_neg c8])⟩
  exact loop 24 0 _ rfl (frM_si (Or.inl rfl)) hs
theorem wX_feed {a b c : Int64} {tp : List Nat} (ht : okT tp) (hs : tpX tp S) (h : ∀ S', frX tpC S S' → tpX (tN tp (fdB a b c) 24) S' → Q (.int (nI (tN tp (fdB a b c) 24).length)) S') : aWX (d + 2) 116 [.ref 0, .long a, .long b, .long c] S Q := by
  refine mX_FoldedRealm_feed ?_
  have cat0 : tN tp (fun m => byN a (56 - 8 * m)) 8 = tN tp (fdB a b c) 8 := by
    have := tN_cat (tp := tp) (b := fdB a b c) (b2 := fun m => byN a (56 - 8 * m)) (n := 0) 8 (fun k hk => by
      unfold fdB
      rw [if_neg (by omega), show (0 + k) % 8 = k by omega])
    exact this
  have cat1 : tN (tN tp (fdB a b c) 8) (fun m => byN b (56 - 8 * m)) 8 = tN tp (fdB a b c) 16 := tN_cat 8 (fun k hk => by
      unfold fdB
      rw [if_pos (by omega), if_neg (by omega), show (8 + k) % 8 = k by omega])
  have cat2 : tN (tN tp (fdB a b c) 16) (fun m => byN c (56 - 8 * m)) 8 = tN tp (fdB a b c) 24 := tN_cat 8 (fun k hk => by
      unfold fdB
      rw [if_pos (by omega), if_pos (by omega), show (16 + k) % 8 = k by omega])
  refine wX_append ht hs (fun S1 f1 t1 => ?_)
  rw [cat0] at t1
  refine wX_append (okT_N ht 8) t1 (fun S2 f2 t2 => ?_)
  rw [cat1] at t2
  refine wX_append (okT_N ht 16) t2 (fun S3 f3 t3 => ?_)
  rw [cat2] at t3
  show Q (.int (gi S3 1 1)) S3
  rw [t3.1]
  exact h S3 (frX.tr (frX.tr f1 f2) f3) t3
end
def tapeG (g : zG) (tp : List Nat) : zG := (g.1, g.2.1, g.2.2.1, g.2.2.2.1, tp)
theorem XX.tape {g : zG} {t : Nat} {S S' : aS} {tp : List Nat} (h : XX g t S) (hf : frX tpC S S') (h2 : tpX tp S') : XX (tapeG g tp) t S' := by
  obtain ⟨⟨hT, g2, g3, g4⟩, k1, k2, k3, k4, k5⟩ := h
  refine ⟨⟨hT, (hf.Y.gr 0 2).trans g2, (hf.Y.gr 0 3).trans g3, g4.kept hf.Y (fun i hi => by unfold tpC; omega)⟩, k1.kept hT hf.Y (fun i hi => ?_), k2.kept hf.Y (fun i a b => ?_) st_pg, k3.kept hf (fun i hi => ?_), k4.kept hf.Y (fun i a b => ?_), h2⟩
  · unfold rcX at hi
    unfold tpC
    rcases hT with rfl | rfl <;> omega
  · unfold tpC; omega
  · unfold hC at hi; unfold tpC; omega
  · unfold tpC; omega
theorem MM.tape {g : zG} {S S' : aS} {tp : List Nat} (h : MM g S) (hf : frM tmC tmF S S') (h2 : tpM tp S') : MM (tapeG g tp) S' := by
  obtain ⟨k1, ⟨k2, k3, k4⟩, k5, k6, k7⟩ := h
  have a : ∀ i, i ≠ 1001 → ∀ k, ga S' i k = ga S i k := fun i hi k => hf.1 i k hi
  have ar : ∀ i, 1027 ≤ i → i ≤ 1031 → ∀ k, ga S' i k = ga S i k := fun i h1 h2 => a i (by omega)
  have e : ga S' 1032 = ga S 1032 := funext (a 1032 (by decide))
  exact ⟨k1.kept hf (fun i hi => by unfold tmC at hi; omega), ⟨by rw [e]; exact k2, k3.kept ar, k4.kept ar⟩, k5.kept hf (by unfold tmC; decide) (by unfold tmF; decide), k6.kept ar (a 1034 (by decide)) (a 1036 (by decide)), h2⟩
theorem tie_feed : ok_feed Rel := by
  rintro a b c SX SM ⟨g, t, ok, hX, hM⟩
  have okt := okT_N (b := fdB a b c) ok.2.2.2 24
  generalize e24 : (24 : Nat) = n24 at okt
  refine wX_feed (d := 98) ok.2.2.2 hX.2.2.2.2.2 (fun S1 f1 t1 => ⟨_, rfl, ?_⟩)
  rw [e24] at t1
  refine wM_feed (d := 99) ok.2.2.2 hM.2.2.2.2 (fun S2 f2 t2 => ?_)
  rw [e24] at t2
  exact ⟨rfl, tapeG g (tN g.2.2.2.2 (fdB a b c) n24), t, ⟨ok.1, ok.2.1, ok.2.2.1, okt⟩, hX.tape f1 t1, hM.tape f2 t2⟩
