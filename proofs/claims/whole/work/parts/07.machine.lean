/-! the small machine: more where less is asked -/
theorem aG_mono {g : Option Prop} {X Y : Prop} (h : X → Y) (x : aG g X) : aG g Y := by
  cases g with
  | none => exact h x
  | some P => exact ⟨x.1, h x.2⟩
theorem cond_mono {b : Bool} {X Y X' Y' : Prop} (hX : X → X') (hY : Y → Y') (h : cond b X Y) : cond b X' Y' := by
  cases b <;> first | exact hY h | exact hX h
theorem abr_mono {c : ClassFile.Cond} {x y : Int32} {T F T' F' : Prop} (hT : T → T') (hF : F → F') (h : abr c x y T F) : abr c x y T' F' := by
  cases c <;> exact ⟨fun z => hT (h.1 z), fun z => hF (h.2 z)⟩
theorem aba_mono {c : ClassFile.ACond} {x y : Nat} {T F T' F' : Prop} (hT : T → T') (hF : F → F') (h : aba c x y T F) : aba c x y T' F' := by
  cases c <;> exact ⟨fun z => hT (h.1 z), fun z => hF (h.2 z)⟩
theorem aI_mono {v : Value} {k k' : Int32 → Prop} (h : ∀ x, k x → k' x) (x : aI v k) : aI v k' := by
  cases v <;> first | exact h _ x | exact x
theorem aL_mono {v : Value} {k k' : Int64 → Prop} (h : ∀ x, k x → k' x) (x : aL v k) : aL v k' := by
  cases v <;> first | exact h _ x | exact x
theorem aA_mono {v : Value} {k k' : Nat → Prop} (h : ∀ x, k x → k' x) (x : aA v k) : aA v k' := by
  cases v <;> first | exact h _ x | exact x
theorem aV_mono {v : Value} {X Y : Prop} (h : X → Y) (x : aV v X) : aV v Y := by
  cases v <;> first | exact h x | exact x
theorem arv_mono {n : Nat} {v : Value} {k k' : List Value → Prop} (h : ∀ l, k l → k' l) (x : arv n v k) : arv n v k' := by
  match n with
  | 0 => exact aV_mono (h _) x
  | 1 => exact aI_mono (fun _ => h _) x
  | 2 => exact aL_mono (fun _ => h _) x
  | n + 3 => exact aA_mono (fun _ => h _) x
theorem asw_mono {x : Int32} {d : Nat} {k k' : Nat → Prop} (h : ∀ t, k t → k' t) : ∀ l : List (Int32 × Nat), asw x d k l → asw x d k' l
  | [], z => h _ z
  | (_, _) :: r, z => ⟨fun e => h _ (z.1 e), fun e => asw_mono h r (z.2 e)⟩
section
variable {px : aE → aLs → List Value → aS → aT} {tb : Nat → List (Int32 × Nat)} {cl cl' : Nat → List Value → aS → (Value → aS → Prop) → Prop} {Q Q' : Value → aS → Prop} {nx nx' : Nat → aLs → List Value → aS → Prop} {go go' : Nat → aLs → List Value → aS → Prop}
theorem ajp_mono (hn : ∀ q l s S, nx q l s S → nx' q l s S) (hg : ∀ k l s S, go k l s S → go' k l s S) {e : aE} {ls : aLs} {st : List Value} {S : aS} (h : ajp e nx go ls st S) : ajp e nx' go' ls st S := by
  unfold ajp at h ⊢
  split at h
  · exact hg _ _ _ _ h
  · exact hn _ _ _ _ h
theorem apw_mono (hg : ∀ k l s S, go k l s S → go' k l s S) {e : aE} {ls : aLs} {st : List Value} {S : aS} (h : apw px e go ls st S) : apw px e go' ls st S := by
  unfold apw at h ⊢
  split at h
  · exact aG_mono (aG_mono (hg _ _ _ _)) h
  · exact h
theorem acl_mono (hc : ∀ j a S R R', (∀ v S, R v S → R' v S) → cl j a S R → cl' j a S R') (hg : ∀ k l s S, go k l s S → go' k l s S) {e : aE} {ls : aLs} {st : List Value} {S : aS} (h : acl cl e go ls st S) : acl cl' e go' ls st S := by
  unfold acl at h ⊢
  split at h
  · exact hc _ _ _ _ _ (fun v S => arv_mono fun l => hg _ _ _ _) h
  · exact h
theorem astp_mono (hc : ∀ j a S R R', (∀ v S, R v S → R' v S) → cl j a S R → cl' j a S R') (hQ : ∀ v S, Q v S → Q' v S) (hn : ∀ q l s S, nx q l s S → nx' q l s S) (hg : ∀ k l s S, go k l s S → go' k l s S)
    {e : aE} {ls : aLs} {st : List Value} {S : aS} (h : astp px tb cl Q nx e go ls st S) : astp px tb cl' Q' nx' e go' ls st S := by
  unfold astp at h ⊢
  split at h
  · split at h
    · exact abr_mono (ajp_mono hn hg) (hg _ _ _ _) h
    · exact h
  · split at h
    · exact abr_mono (ajp_mono hn hg) (hg _ _ _ _) h
    · exact h
  · split at h
    · exact aG_mono (aG_mono (aba_mono (ajp_mono hn hg) (hg _ _ _ _))) h
    · exact h
  · exact ajp_mono hn hg h
  · split at h
    · exact asw_mono (fun t => hn _ _ _ _) _ h
    · exact h
  · split at h
    · split at h
      · exact hQ _ _ h
      · exact ⟨h.1, hQ _ _ h.2⟩
    · exact h
  · split at h
    · exact hQ _ _ h
    · exact h
  · split at h
    · exact hQ _ _ h
    · exact h
  · split at h
    · exact hQ _ _ h
    · exact h
  · exact cond_mono (apw_mono hg) (acl_mono hc hg) h
  · exact cond_mono (apw_mono hg) (acl_mono hc hg) h
  · exact cond_mono (apw_mono hg) (acl_mono hc hg) h
  · exact apw_mono hg h
theorem awp_mono (hc : ∀ j a S R R', (∀ v S, R v S → R' v S) → cl j a S R → cl' j a S R') (hQ : ∀ v S, Q v S → Q' v S) (hn : ∀ q l s S, nx q l s S → nx' q l s S) :
    ∀ (code : List aE) (k : Nat) (f : Bool) (ls : aLs) (st : List Value) (S : aS), awp px tb cl Q nx code k f ls st S → awp px tb cl' Q' nx' code k f ls st S := by
  intro code
  induction code with
  | nil => intro k f ls st S h; exact h
  | cons e t ih =>
    intro k f ls st S h
    cases k with
    | succ k => exact ih k f ls st S h
    | zero =>
      have h : cond (f || Nat.beq e.2.2.2.1 0) (astp px tb cl Q nx e (fun k => awp px tb cl Q nx t k false) ls st S) (nx (e.2.2.2.1 - 1) ls st S) := h
      show cond (f || Nat.beq e.2.2.2.1 0) (astp px tb cl' Q' nx' e (fun k => awp px tb cl' Q' nx' t k false) ls st S) (nx' (e.2.2.2.1 - 1) ls st S)
      cases hb : (f || Nat.beq e.2.2.2.1 0) with
      | true => rw [hb] at h; exact astp_mono hc hQ hn (fun k => ih k false) h
      | false => rw [hb] at h; exact hn _ _ _ _ h
end
section
variable {px : aE → aLs → List Value → aS → aT} {tb : Nat → List (Int32 × Nat)} {cl cl' : Nat → List Value → aS → (Value → aS → Prop) → Prop} {mk : Nat → Nat} {Q Q' : Value → aS → Prop} {code : List aE}
/-- a cut: the row of instructions behind it, each further cut likewise -/
theorem aP_go (hc : ∀ j a S R R', (∀ v S, R v S → R' v S) → cl j a S R → cl j a S R') {q : Nat} {ls : aLs} {st : List Value} {S : aS} (h : awp px tb cl Q (fun q ls => aP px tb cl mk code Q q (amk (mk q) ls)) (code.drop q) 0 true ls st S) : aP px tb cl mk code Q q ls st S := by
  intro I hI
  exact hI _ _ _ _ (awp_mono hc (fun _ _ h => h) (fun q l s S (z : aP px tb cl mk code Q q (amk (mk q) l) s S) => z I hI) _ _ _ _ _ _ h)
theorem aP_mono (hc : ∀ j a S R R', (∀ v S, R v S → R' v S) → cl j a S R → cl' j a S R') (hQ : ∀ v S, Q v S → Q' v S) {q : Nat} {ls : aLs} {st : List Value} {S : aS} (h : aP px tb cl mk code Q q ls st S) : aP px tb cl' mk code Q' q ls st S := by
  intro I hI
  exact h I fun q ls st S z => hI _ _ _ _ (awp_mono hc hQ (fun _ _ _ _ z => z) _ _ _ _ _ _ z)
end
