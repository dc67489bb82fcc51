/-! steps that are calls of Math.max and Math.min -/
def pxm (e : aE) (ls : aLs) (st : List Value) (S : aS) : aT := pII st fun x y r => cond (Nat.beq e.2.2.2.2.1 5000) (aok ls (.int (if x < y then y else x) :: r) S) (cond (Nat.beq e.2.2.2.2.1 5001) (aok ls (.int (if y < x then y else x) :: r) S) none)
/-- a call's rest: what lies below the arguments is small -/
def acr (st : List Value) (k : Nat) : Bool := Nat.ble (acs (st.drop k)) 8
def pxM (e : aE) (ls : aLs) (st : List Value) (S : aS) : aT := match e.2.1 with
  | .invokestatic _ => cond (acr st 2) (pxm e ls st S) none
  | _ => none
theorem lmax_0 : Cond.methodLink (aCN 0) 48 Lib.Math.max.name ∈ aWS := aW_t 812 (by decide +kernel) (by decide +kernel)
theorem lmax_1 : Cond.methodLink (aCN 4) 50 Lib.Math.max.name ∈ aWS := aW_t 739 (by decide +kernel) (by decide +kernel)
theorem lmax_2 : Cond.methodLink (aCN 5) 209 Lib.Math.max.name ∈ aWS := aW_t 612 (by decide +kernel) (by decide +kernel)
theorem lmax_3 : Cond.methodLink (aCN 6) 107 Lib.Math.max.name ∈ aWS := aW_t 813 (by decide +kernel) (by decide +kernel)
theorem lmax_4 : Cond.methodLink (aCN 11) 360 Lib.Math.max.name ∈ aWS := aW_t 1660 (by decide +kernel) (by decide +kernel)
def lmaxT : List (Nat × Nat) := [(0, 48), (4, 50), (5, 209), (6, 107), (11, 360)]
theorem lmaxT_ok : ∀ q ∈ lmaxT, Cond.methodLink (aCN q.1) q.2 Lib.Math.max.name ∈ aWS := List.forall_mem_cons.mpr ⟨lmax_0, List.forall_mem_cons.mpr ⟨lmax_1, List.forall_mem_cons.mpr ⟨lmax_2, List.forall_mem_cons.mpr ⟨lmax_3, List.forall_mem_cons.mpr ⟨lmax_4, fun _ h => absurd h List.not_mem_nil⟩⟩⟩⟩⟩
theorem lmin_0 : Cond.methodLink (aCN 0) 42 Lib.Math.min.name ∈ aWS := aW_t 811 (by decide +kernel) (by decide +kernel)
theorem lmin_1 : Cond.methodLink (aCN 4) 44 Lib.Math.min.name ∈ aWS := aW_t 736 (by decide +kernel) (by decide +kernel)
theorem lmin_2 : Cond.methodLink (aCN 6) 115 Lib.Math.min.name ∈ aWS := aW_t 871 (by decide +kernel) (by decide +kernel)
theorem lmin_3 : Cond.methodLink (aCN 8) 85 Lib.Math.min.name ∈ aWS := aW_t 906 (by decide +kernel) (by decide +kernel)
theorem lmin_4 : Cond.methodLink (aCN 11) 400 Lib.Math.min.name ∈ aWS := aW_t 1716 (by decide +kernel) (by decide +kernel)
def lminT : List (Nat × Nat) := [(0, 42), (4, 44), (6, 115), (8, 85), (11, 400)]
theorem lminT_ok : ∀ q ∈ lminT, Cond.methodLink (aCN q.1) q.2 Lib.Math.min.name ∈ aWS := List.forall_mem_cons.mpr ⟨lmin_0, List.forall_mem_cons.mpr ⟨lmin_1, List.forall_mem_cons.mpr ⟨lmin_2, List.forall_mem_cons.mpr ⟨lmin_3, List.forall_mem_cons.mpr ⟨lmin_4, fun _ h => absurd h List.not_mem_nil⟩⟩⟩⟩⟩
def ckpM (on : Nat) (n : aE) : Bool := match n.2.1 with
  | .invokestatic i => decide ((n.2.2.2.2.1 = 5000 ∧ (on, i) ∈ lmaxT) ∨ (n.2.2.2.2.1 = 5001 ∧ (on, i) ∈ lminT))
  | _ => false
section
variable {p : Program} {l : Launch} {e : Env} {s : State} {m : MethodId} {args : Array Value} {below : List Frame} {meth : Method} {c : Code} {cc : ByteArray} {nL on : Nat} {ad : Nat → Nat} {cy : Nat → ClassId} {D : va_G} {ids : List Nat} {A : Nat → Prop} {rk : Nat → Bool} {Zc : State → Prop} {Qs : State → Prop} {d : Nat}
theorem pxm_ok (X : aCx p s m args c cc nL on ad cy D ids A rk Zc) {pc i len cut a b : Nat} {v : Int32} {w : Int64} {ls : aLs} {st : List Value} {S : aS} {Z : aLs → List Value → aS → Prop} (hd : decode cc pc = .ok (.invokestatic i, len)) (hlen : len = 3) (hk : (a = 5000 ∧ (on, i) ∈ lmaxT) ∨ (a = 5001 ∧ (on, i) ∈ lminT)) (hs : acs (st.drop 2) ≤ 100)
    (h : aTP (pxm (pc, .invokestatic i, len, cut, a, b, v, w) ls st S) Z) (hgo : ∀ ls' st' S', Z ls' st' S' → aWg p l e (aRm (d + 1)) s m args below meth c nL ad cy D ids A Qs (pc + len) ls' st' S') : aWg p l e (aRm (d + 1)) s m args below meth c nL ad cy D ids A Qs pc ls st S := by
  have hx := X.1
  have hb := X.2.1
  have hml := X.2.2.1
  have hown := X.2.2.2.1
  have hts := X.2.2.2.2.1
  subst hlen
  obtain ⟨x, y, r, rfl, h⟩ := pII_inv h
  intro B H locs hl hP hS
  have hlo : ((r.map (atv ad)).map fun v => v.category).sum + 13 ≤ (aRm (d + 1)).locals := by
    rw [acs_map]
    have : acs r ≤ 100 := hs
    show acs r + 13 ≤ 120 * (d + 1 + 5)
    omega
  have hfr : 1 ≤ (aRm (d + 1)).frames := by show 1 ≤ d + 1 + 5; omega
  have hB : c.maxLocals = B.size := hml.trans hl.2.1.symm
  rcases hk with ⟨rfl, hk⟩ | ⟨rfl, hk⟩
  · exact va_mmax hx hb hB hown (hts _ (lmaxT_ok _ hk)) (hts _ aM_max_s) (hts _ aM_i) (hts _ aM_max_c) hfr hlo (Nat.zero_le _) (Nat.zero_le _) hd (hgo _ _ _ h B H locs hl hP hS)
  · exact va_mmin hx hb hB hown (hts _ (lminT_ok _ hk)) (hts _ aM_min_s) (hts _ aM_i) (hts _ aM_min_c) hfr hlo (Nat.zero_le _) (Nat.zero_le _) hd (hgo _ _ _ h B H locs hl hP hS)
theorem pxM_ok (X : aCx p s m args c cc nL on ad cy D ids A rk Zc) : aPx pxM ckpM p l e (aRm (d + 1)) s m args below meth c cc nL on ad cy D ids A Qs := by
  intro n ls st S Z hd hlen h5 hk h hgo
  obtain ⟨pc, i, len, cut, a, b, v, w⟩ := n
  dsimp only at hd hlen h5 hgo ⊢
  cases i with
  | invokestatic i =>
    have hk := of_decide_eq_true hk
    have h : aTP (cond (acr st 2) (pxm (pc, .invokestatic i, len, cut, a, b, v, w) ls st S) none) Z := h
    cases hc : acr st 2 with
    | true => rw [hc] at h; exact pxm_ok X hd hlen hk (Nat.le_trans (Nat.le_of_ble_eq_true hc) (by decide)) h hgo
    | false => rw [hc] at h; exact h.elim
  | _ => cases hk
end

def rkM (k : Nat) : Bool := Nat.beq k 11 || (Nat.ble 30 k && Nat.ble k 39)
