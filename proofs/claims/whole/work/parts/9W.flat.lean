/-! an E read by the reference: after a part -/
section
variable {d : Nat} {Q : Value → aS → Prop} {S : aS} {tp : List Nat} {q c D B : Nat} {w : Bool}
theorem rw0_at (ht : okT tp) (hl : plT tp q) (hs : tkM tp q S) (h107 : srT tp q = 29 ∨ srT tp q = 30 ∨ srT tp q = 31 → aBM (d + 2) 12 Q 107 [some (.ref 1000), some (.int (nI D)), none, none, none, none] [] S) (h133 : srT tp q = 27 ∨ srT tp q = 28 → aBM (d + 2) 12 Q 133 [some (.ref 1000), some (.int (nI D)), some (.int 0), none, none, none] [] S) (h155 : ¬ (27 ≤ srT tp q ∧ srT tp q ≤ 31) → aBM (d + 2) 12 Q 155 [some (.ref 1000), some (.int (nI D)), some (.int 0), none, none, none] [] S) : rw0 d Q D S := by
  refine bM_reads_9 ⟨fun _ => ?_, fun q => absurd rfl q⟩
  refine sg_is (k := 29) ht hs hl (by decide) (by decide) rfl (fun c => ⟨fun _ => h107 (by omega), fun q => absurd q (by decide)⟩) (fun n29 => ⟨fun q => absurd rfl q, fun _ => ?_⟩)
  refine sg_is (k := 30) ht hs hl (by decide) (by decide) rfl (fun c => ⟨fun _ => h107 (by omega), fun q => absurd q (by decide)⟩) (fun n30 => ⟨fun q => absurd rfl q, fun _ => ?_⟩)
  refine sg_is (k := 31) ht hs hl (by decide) (by decide) rfl (fun c => ⟨fun q => absurd q (by decide), fun _ => h107 (by omega)⟩) (fun n31 => ⟨fun _ => ?_, fun q => absurd rfl q⟩)
  refine sg_is (k := 27) ht hs hl (by decide) (by decide) rfl (fun c => ⟨fun _ => h133 (by omega), fun q => absurd q (by decide)⟩) (fun n27 => ⟨fun q => absurd rfl q, fun _ => ?_⟩)
  exact sg_is (k := 28) ht hs hl (by decide) (by decide) rfl (fun c => ⟨fun q => absurd q (by decide), fun _ => h133 (by omega)⟩) (fun n28 => ⟨fun _ => h155 (by omega), fun q => absurd rfl q⟩)
/-- plus, minus, times -/
theorem rw_arith {v : Int32} (ht : okT tp) (hl : plT tp q) (hM : MS tp w q c D B S) (hc : c < 2000) (hv : (srT tp q = 29 ∧ v = 20) ∨ (srT tp q = 30 ∧ v = 21) ∨ (srT tp q = 31 ∧ v = 22)) (h : ∀ S', frR c D (D + 1) S S' → MS tp w (nxT tp q) (c + 1) D B S' → ga S' 1014 c = v → rw1 d Q D S') : rw0 d Q D S := by
  refine rw0_at ht hl hM.1 (fun _ => ?_) (fun c => by omega) (fun c => by omega)
  refine bM_reads_107 ?_
  refine sg_is (k := 29) ht hM.1 hl (by decide) (by decide) rfl (fun c1 => ⟨fun q => absurd q (by decide), fun _ => ?_⟩) (fun n1 => ⟨fun _ => ?_, fun q => absurd rfl q⟩)
  · have : v = 20 := by rcases hv with a | a | a <;> first | exact a.2 | omega
    subst this
    exact rw_put ht hl hM hc h
  · refine sg_is (k := 30) ht hM.1 hl (by decide) (by decide) rfl (fun c1 => ⟨fun q => absurd q (by decide), fun _ => ?_⟩) (fun n2 => ⟨fun _ => ?_, fun q => absurd rfl q⟩)
    · have : v = 21 := by rcases hv with a | a | a <;> first | exact a.2 | omega
      subst this
      exact rw_put ht hl hM hc h
    · have : v = 22 := by rcases hv with a | a | a <;> first | exact a.2 | omega
      subst this
      exact rw_put ht hl hM hc h
/-- a code laid, then whether it was compared, the next token -/
theorem rw_putc {v x : Int32} {P : aS → Prop} (ht : okT tp) (hl : plT tp q) (hM : MS tp w q c D B S) (hD : D < 7) (hc : c < 2000) (h : ∀ S', frR c D D S S' → MS tp w (nxT tp q) (c + 1) D B S' → ga S' 1014 c = v → ga S' 1016 D = x → P S') : aWM (d + 2) 10 [.ref 1000, .int v] S (fun v1 S2 => aV v1 (vp_in (nI D) 7 ∧ aWM (d + 2) 6 [.ref 1000] (sa S2 1016 (nI D).toNatClampNeg x) (fun v2 S3 => aV v2 (P S3)))) := by
  refine wM_puts hM.2.1 hc ⟨nI_in (by omega) (by omega), ?_⟩
  rw [nI_clamp (by omega)]
  have t1 : tkM tp q (sa (si (sa S 1014 c v) 1000 23 (nI (c + 1))) 1016 D x) := tk_sa (tk_si (tk_sa hM.1 (by decide)) (by decide)) (by decide)
  refine wM_nx ht t1 hl (fun S' f1 t2 => ?_)
  have f : frR c D D S S' := ((frR_put (Nat.le_refl _)).tr (frR_cm (Nat.le_refl _))).tr (frR_tk f1)
  refine h S' f (hM.step f t2 ?_) ?_ ?_
  · rw [gi_tk f1 (by unfold tkF; omega), gi_sa, gi_si, if_pos ⟨rfl, rfl⟩]
  · rw [f1.1 1014 c (fun q => q), ga_sa, if_neg (by omega), ga_si, ga_sa, if_pos ⟨rfl, rfl⟩]
  · rw [f1.1 1016 D (fun q => q), ga_sa, if_pos ⟨rfl, rfl⟩]
theorem rw_cmp {v : Int32} (ht : okT tp) (hl : plT tp q) (hM : MS tp w q c D B S) (hD : D < 7) (hc : c < 2000) (h0 : ga S 1016 D = 0) (hv : (srT tp q = 27 ∧ v = 24) ∨ (srT tp q = 28 ∧ v = 25)) (h : ∀ S', frR c D D S S' → MS tp w (nxT tp q) (c + 1) D B S' → ga S' 1014 c = v → ga S' 1016 D = 1 → rw1 d Q D S') : rw0 d Q D S := by
  refine rw0_at ht hl hM.1 (fun c => by omega) (fun _ => ?_) (fun c => by omega)
  refine bM_reads_133 ⟨nI_in (by omega) (by omega), ?_⟩
  rw [nI_clamp (by omega), h0]
  refine ⟨fun q => absurd rfl q, fun _ => ?_⟩
  have e : (vp_nar .boolean 1) = (1 : Int32) := rfl
  have hcl : (nI D).toNatClampNeg = D := nI_clamp (by omega)
  refine sg_is (k := 27) ht hM.1 hl (by decide) (by decide) rfl (fun c1 => ⟨fun q => absurd q (by decide), fun _ => ?_⟩) (fun n1 => ⟨fun _ => ?_, fun q => absurd rfl q⟩)
  · have : v = 24 := by rcases hv with a | a <;> first | exact a.2 | omega
    subst this
    have := rw_putc (d := d) (x := 1) ht hl hM hD hc h
    rw [hcl] at this
    exact this
  · have : v = 25 := by rcases hv with a | a <;> first | exact a.2 | omega
    subst this
    have := rw_putc (d := d) (x := 1) ht hl hM hD hc h
    rw [hcl] at this
    exact this
theorem rw_join {v : Int32} (ht : okT tp) (hl : plT tp q) (hM : MS tp w q c D B S) (hD : D < 7) (hc : c < 2000) (hv : (srT tp q = 23 ∧ v = 26) ∨ (srT tp q = 24 ∧ v = 27)) (h : ∀ S', frR c D D S S' → MS tp w (nxT tp q) (c + 1) D B S' → ga S' 1014 c = v → ga S' 1016 D = 0 → rw1 d Q D S') : rw0 d Q D S := by
  have go : aBM (d + 2) 12 Q 163 [some (.ref 1000), some (.int (nI D)), none, none, none, none] [] S := by
    refine bM_reads_163 ?_
    refine wd_is (k := 23) ht hM.1 hl (by decide) (by decide) rfl (fun c1 => ⟨fun q => absurd q (by decide), fun _ => ?_⟩) (fun n1 => ⟨fun _ => ?_, fun q => absurd rfl q⟩)
    · have : v = 26 := by rcases hv with a | a <;> first | exact a.2 | omega
      subst this
      exact rw_putc (d := d) (x := 0) ht hl hM hD hc h
    · have : v = 27 := by rcases hv with a | a <;> first | exact a.2 | omega
      subst this
      exact rw_putc (d := d) (x := 0) ht hl hM hD hc h
  refine rw0_at ht hl hM.1 (fun c => by omega) (fun c => by omega) (fun _ => bM_reads_155 ?_)
  exact wd_is (k := 23) ht hM.1 hl (by decide) (by decide) rfl (fun c1 => ⟨fun _ => go, fun q => absurd q (by decide)⟩) (fun n1 => ⟨fun q => absurd rfl q, fun _ => wd_is (k := 24) ht hM.1 hl (by decide) (by decide) rfl (fun c1 => ⟨fun q => absurd q (by decide), fun _ => go⟩) (fun n2 => by omega)⟩)
/-- where no sign goes on with what was read -/
def isEnd (tp : List Nat) (q : Nat) : Prop := srT tp q ≠ 29 ∧ srT tp q ≠ 30 ∧ srT tp q ≠ 31 ∧ srT tp q ≠ 23 ∧ srT tp q ≠ 24
theorem rw0_end (ht : okT tp) (hl : plT tp q) (hM : MS tp w q c D B S) (hD : D < 7) (he : isEnd tp q) (hcm : srT tp q = 27 ∨ srT tp q = 28 → ga S 1016 D ≠ 0) (h1 : srT tp q = 26 → 0 < D → aWM (d + 2) 10 [.ref 1000, .int 29] S (fun v10 S11 => aV v10 (aBM (d + 2) 12 Q 190 [some (.ref 1000), some (.int (nI D + -1)), some (.int 0), none, none, none] [] S11))) (h2 : ¬ (srT tp q = 26 ∧ 0 < D) → aBM (d + 2) 12 Q 200 [some (.ref 1000), some (.int (nI D)), none, none, none, none] [] S) : rw0 d Q D S := by
  obtain ⟨a1, a2, a3, a4, a5⟩ := he
  have go : aBM (d + 2) 12 Q 155 [some (.ref 1000), some (.int (nI D)), some (.int 0), none, none, none] [] S := by
    refine bM_reads_155 ?_
    refine wd_is (k := 23) ht hM.1 hl (by decide) (by decide) rfl (fun c1 => absurd c1 a4) (fun n1 => ⟨fun q => absurd rfl q, fun _ => ?_⟩)
    refine wd_is (k := 24) ht hM.1 hl (by decide) (by decide) rfl (fun c1 => absurd c1 a5) (fun n2 => ⟨fun _ => ?_, fun q => absurd rfl q⟩)
    refine sg_is (k := 26) ht hM.1 hl (by decide) (by decide) rfl (fun c1 => ⟨fun q => absurd q (by decide), fun _ => ?_⟩) (fun n3 => ⟨fun _ => h2 (fun q => n3 q.1), fun q => absurd rfl q⟩)
    rw [nI_le0 (by omega)]
    exact ⟨fun c2 => h2 (by omega), fun c2 => h1 c1 (by omega)⟩
  refine rw0_at ht hl hM.1 (fun c => by omega) (fun c => bM_reads_133 ⟨nI_in (by omega) (by omega), ?_⟩) (fun _ => go)
  rw [nI_clamp (by omega)]
  exact ⟨fun _ => go, fun q => absurd q (hcm c)⟩
/-- a close sign -/
theorem rw_close {B' : Nat} (ht : okT tp) (hl : plT tp q) (hM : MS tp w q c (D + 1) (D + 1) S) (hD : D < 6) (hc : c < 2000) (hB : B' ≤ D) (h5 : ∀ j, B' < j → j ≤ D → ga S 1015 j = 1) (h6 : B' = 0 ∨ ga S 1015 B' = 2) (hk : srT tp q = 26) (h : ∀ S', frR c (D + 1) (D + 2) S S' → MS tp w (nxT tp q) (c + 1) B' B' S' → ga S' 1014 c = 29 → rw0 d Q B' S') : rw0 d Q (D + 1) S := by
  refine rw0_end ht hl hM (by omega) ⟨by omega, by omega, by omega, by omega, by omega⟩ (fun c => by omega) (fun _ _ => ?_) (fun c => absurd ⟨hk, by omega⟩ c)
  refine wM_puts hM.2.1 hc ?_
  show aBM (d + 2) 12 Q 190 _ [] (si (sa S 1014 c 29) 1000 23 (nI (c + 1)))
  have t1 : tkM tp q (si (sa S 1014 c 29) 1000 23 (nI (c + 1))) := tk_si (tk_sa hM.1 (by decide)) (by decide)
  have f0 : frR c (D + 1) (D + 2) S (si (sa S 1014 c 29) 1000 23 (nI (c + 1))) := frR_put (Nat.le_refl _)
  have e : nI (D + 1) + -1 = nI D := by
    have : ∀ D, D < 6 → nI (D + 1) + -1 = nI D := by decide +kernel
    exact this D hD
  rw [e]
  refine rw_pop190 ht hl t1 (by omega) hB (fun j a b => (f0.2.2.1 j (by omega)).trans (h5 j a b)) (h6.imp_right (fun e => (f0.2.2.1 B' (by omega)).trans e)) (fun S' f1 t2 => ?_)
  have f : frR c (D + 1) (D + 2) S S' := f0.tr (frR_tk f1)
  refine h S' f ⟨t2, ?_, (f.1.2.2.1 24 (by unfold flF; omega)).trans hM.2.2.1, Nat.le_refl _, fun j a b => absurd a (by omega), h6.imp_right (fun e => (f.2.2.1 B' (by omega)).trans e)⟩ ?_
  · rw [gi_tk f1 (by unfold tkF; omega), gi_si, if_pos ⟨rfl, rfl⟩]
  · rw [f1.1 1014 c (fun q => q), ga_si, ga_sa, if_pos ⟨rfl, rfl⟩]
/-- no close sign where one is wanted -/
theorem rw_noclose (ht : okT tp) (hl : plT tp q) (hM : MS tp w q c (D + 1) (D + 1) S) (hD : D < 6) (he : isEnd tp q) (hcm : srT tp q = 27 ∨ srT tp q = 28 → ga S 1016 (D + 1) ≠ 0) (hk : ¬ srT tp q = 26) (h : ∀ S', frR c (D + 1) (D + 1) S S' → gi S' 1000 9 = 1 + 16 * nI q → Q (.int 0) S') : rw0 d Q (D + 1) S := by
  refine rw0_end ht hl hM (by omega) he hcm (fun c _ => absurd c hk) (fun _ => bM_reads_200 ⟨fun _ => rw_err hM.1 h, fun c => ?_⟩)
  rw [nI_eq0 (by omega)] at c
  omega
/-- the end of the law -/
theorem rw_stop (ht : okT tp) (hl : plT tp q) (hM : MS tp w q c 0 0 S) (he : isEnd tp q) (hcm : srT tp q = 27 ∨ srT tp q = 28 → ga S 1016 0 ≠ 0) (h1 : srT tp q = 32 → ∀ S', frM noC tkF S S' → tkM tp (nxT tp q) S' → Q (.int 1) S') (h0 : ¬ srT tp q = 32 → ∀ S', frR c 0 0 S S' → gi S' 1000 9 = 1 + 16 * nI q → Q (.int 0) S') : rw0 d Q 0 S := by
  refine rw0_end ht hl hM (by omega) he hcm (fun _ c => absurd c (by omega)) (fun _ => bM_reads_200 ⟨fun c => absurd rfl c, fun _ => ?_⟩)
  refine sg_is (k := 32) ht hM.1 hl (by decide) (by decide) rfl (fun c1 => ⟨fun q => absurd q (by decide), fun _ => ?_⟩) (fun n1 => ⟨fun _ => rw_err hM.1 (h0 n1), fun q => absurd rfl q⟩)
  exact wM_nx ht hM.1 hl (fun S' f t => ⟨Or.inr rfl, h1 c1 S' f t⟩)
end
