/-! the law's loop -/
/-- one call on both sides: the same answer, and both go on alike -/
def lOK (Rel : aS → aS → Prop) (j1 j2 : Nat) (av : List Value) : Prop := ∀ SX SM, Rel SX SM → aWX dd j1 (.ref 0 :: av) SX (fun v SX1 => ∃ n, v = .int n ∧ aWM dd j2 (.ref 1000 :: av) SM (fun v SM1 => v = .int n ∧ Rel SX1 SM1))
/-- all calls but rests -/
def ok_feed (Rel : aS → aS → Prop) : Prop := (∀ a b c : Int64, lOK Rel 116 4 [.long a, .long b, .long c])
def ok_realm (Rel : aS → aS → Prop) : Prop := lOK Rel 117 40 []
def ok_sundays (Rel : aS → aS → Prop) : Prop := lOK Rel 118 41 []
def ok_writer (Rel : aS → aS → Prop) : Prop := (∀ a b : Int32, lOK Rel 119 50 [.int a, .int b])
def ok_word (Rel : aS → aS → Prop) : Prop := (∀ a b : Int32, lOK Rel 120 51 [.int a, .int b])
def ok_strip (Rel : aS → aS → Prop) : Prop := (∀ a : Int32, lOK Rel 122 52 [.int a])
def ok_spike (Rel : aS → aS → Prop) : Prop := (∀ a b : Int32, lOK Rel 123 53 [.int a, .int b])
def ok_write (Rel : aS → aS → Prop) : Prop := (∀ a : Int32, lOK Rel 124 61 [.int a])
def ok_pass (Rel : aS → aS → Prop) : Prop := lOK Rel 125 62 []
def ok_burn (Rel : aS → aS → Prop) : Prop := (∀ a : Int32, lOK Rel 126 63 [.int a])
def ok_undo (Rel : aS → aS → Prop) : Prop := lOK Rel 127 64 []
def ok_judged (Rel : aS → aS → Prop) : Prop := (∀ a : Int32, lOK Rel 128 71 [.int a])
def ok_comes (Rel : aS → aS → Prop) : Prop := (∀ a : Int32, lOK Rel 129 74 [.int a])
def ok_best (Rel : aS → aS → Prop) : Prop := (∀ a : Int32, lOK Rel 130 78 [.int a])
def ok_worst (Rel : aS → aS → Prop) : Prop := lOK Rel 131 79 []
def ok_mean (Rel : aS → aS → Prop) : Prop := lOK Rel 132 80 []
def ok_aim (Rel : aS → aS → Prop) : Prop := (∀ a b : Int32, lOK Rel 133 85 [.int a, .int b])
def ok_meet (Rel : aS → aS → Prop) : Prop := (∀ a b c : Int32, lOK Rel 134 86 [.int a, .int b, .int c])
def ok_clashes (Rel : aS → aS → Prop) : Prop := lOK Rel 136 87 []
def ok_fire (Rel : aS → aS → Prop) : Prop := lOK Rel 137 88 []
def ok_read (Rel : aS → aS → Prop) : Prop := (∀ a : Int32, lOK Rel 139 89 [.int a])
def ok_began (Rel : aS → aS → Prop) : Prop := lOK Rel 140 92 []
def ok_sure (Rel : aS → aS → Prop) : Prop := lOK Rel 141 93 []
def ok_ask (Rel : aS → aS → Prop) : Prop := lOK Rel 142 95 []
def ok_spent (Rel : aS → aS → Prop) : Prop := lOK Rel 144 96 []
def ok_generations (Rel : aS → aS → Prop) : Prop := (∀ a b c : Int32, lOK Rel 147 101 [.int a, .int b, .int c])
def ok_mark (Rel : aS → aS → Prop) : Prop := (∀ a b : Int32, (b = 0 ∨ b = 1) → lOK Rel 148 102 [.int a, .int b])
def ok_count (Rel : aS → aS → Prop) : Prop := (∀ a : Int32, lOK Rel 149 104 [.int a])
def LawOK (Rel : aS → aS → Prop) : Prop := ok_feed Rel ∧ ok_realm Rel ∧ ok_sundays Rel ∧ ok_writer Rel ∧ ok_word Rel ∧ ok_strip Rel ∧ ok_spike Rel ∧ ok_write Rel ∧ ok_pass Rel ∧ ok_burn Rel ∧ ok_undo Rel ∧ ok_judged Rel ∧ ok_comes Rel ∧ ok_best Rel ∧ ok_worst Rel ∧ ok_mean Rel ∧ ok_aim Rel ∧ ok_meet Rel ∧ ok_clashes Rel ∧ ok_fire Rel ∧ ok_read Rel ∧ ok_began Rel ∧ ok_sure Rel ∧ ok_ask Rel ∧ ok_spent Rel ∧ ok_generations Rel ∧ ok_mark Rel ∧ ok_count Rel
section
variable {p : Program} {l : Launch} {e : Env} {s : State} {m : MethodId} {args : Array Value} {below : List Frame} {meth : Method} {c : Code} {b L : Nat} {xs : Nat → Int32} {ad : Nat → Nat} {cy : Nat → ClassId} {D : va_G} {q : Nat} {Qs : State → Prop} {cells slots : Nat} {SX SM : aS} {o : Int64} {Rel : aS → aS → Prop}
theorem law_at (Z : lCx p s m args c b L xs ad cy D q) (OK : LawOK Rel) (hr : Rel SX SM) {i : Int32} (hv : ∀ k : Int32, k = 1 ∨ k = 2 ∨ k = 3 ∨ k = 4 ∨ k = 5 ∨ k = 6 → vp_in (i + k) L) (hce : cells ≤ 601024) (hsl : slots ≤ 7293034) (hrest : lG p l e s m args below meth c b ad cy D q Qs cells slots 847 i SX SM o) (next : ∀ SX1 SM1, Rel SX1 SM1 → lG p l e s m args below meth c b ad cy D q Qs cells slots 1066 i SX1 SM1 o) {x : Int32} {j : Nat} (hj : j < 32) (hx0 : x = nI j) {B : Array Slot} {H : Heap} {locs : List Loc} (hl : lv_has B 7 [(0, .ref b), (1, .ref (ad 0)), (2, .ref (ad 1000)), (3, .ref q), (4, .int i)]) (hL : lW ad cy D q SX SM o H) (hS : va_S (lA s) s.heap H locs) : W p l e room_1 s m args below meth c H locs cells slots Qs (F0 m 40 B [.int x]) := by
  obtain ⟨hx, hb, hml, hown, hts⟩ := Z.1
  obtain ⟨o0, o1, o2, o3, o4, o5, o6, o7, o8, o9, o10, o11, o12, o13, o14, o15, o16, o17, o18, o19, o20, o21, o22, o23, o24, o26, o27, o28⟩ := OK
  subst hx0
  have h1 := hv 1 (by decide)
  have h2 := hv 2 (by decide)
  have h3 := hv 3 (by decide)
  have h4 := hv 4 (by decide)
  have h5 := hv 5 (by decide)
  have h6 := hv 6 (by decide)
  match j, hj with
  | 0, _ => exact lv_tableIn (tgt := 172) hx hb dL_40 (by decide) (by decide) rfl rfl (law_0 Z h1 h2 h3 h4 h5 h6 hce hsl (o0 _ _ _ SX SM hr) next B H locs hl hL hS)
  | 1, _ => exact lv_tableIn (tgt := 319) hx hb dL_40 (by decide) (by decide) rfl rfl (law_1 Z  hce hsl (o1 SX SM hr) next B H locs hl hL hS)
  | 2, _ => exact lv_tableIn (tgt := 332) hx hb dL_40 (by decide) (by decide) rfl rfl (law_2 Z  hce hsl (o2 SX SM hr) next B H locs hl hL hS)
  | 3, _ => exact lv_tableIn (tgt := 345) hx hb dL_40 (by decide) (by decide) rfl rfl (law_3 Z h1 h2 hce hsl (o3 _ _ SX SM hr) next B H locs hl hL hS)
  | 4, _ => exact lv_tableIn (tgt := 382) hx hb dL_40 (by decide) (by decide) rfl rfl (law_4 Z h1 h2 hce hsl (o4 _ _ SX SM hr) next B H locs hl hL hS)
  | 5, _ => exact lv_tableIn (tgt := 419) hx hb dL_40 (by decide) (by decide) rfl rfl (law_5 Z h1 hce hsl (o5 _ SX SM hr) next B H locs hl hL hS)
  | 6, _ => exact lv_tableIn (tgt := 444) hx hb dL_40 (by decide) (by decide) rfl rfl (law_6 Z h1 h2 hce hsl (o6 _ _ SX SM hr) next B H locs hl hL hS)
  | 7, _ => exact lv_tableIn (tgt := 481) hx hb dL_40 (by decide) (by decide) rfl rfl (law_7 Z h1 hce hsl (o7 _ SX SM hr) next B H locs hl hL hS)
  | 8, _ => exact lv_tableIn (tgt := 506) hx hb dL_40 (by decide) (by decide) rfl rfl (law_8 Z  hce hsl (o8 SX SM hr) next B H locs hl hL hS)
  | 9, _ => exact lv_tableIn (tgt := 519) hx hb dL_40 (by decide) (by decide) rfl rfl (law_9 Z h1 hce hsl (o9 _ SX SM hr) next B H locs hl hL hS)
  | 10, _ => exact lv_tableIn (tgt := 544) hx hb dL_40 (by decide) (by decide) rfl rfl (law_10 Z  hce hsl (o10 SX SM hr) next B H locs hl hL hS)
  | 11, _ => exact lv_tableIn (tgt := 557) hx hb dL_40 (by decide) (by decide) rfl rfl (law_11 Z h1 hce hsl (o11 _ SX SM hr) next B H locs hl hL hS)
  | 12, _ => exact lv_tableIn (tgt := 582) hx hb dL_40 (by decide) (by decide) rfl rfl (law_12 Z h1 hce hsl (o12 _ SX SM hr) next B H locs hl hL hS)
  | 13, _ => exact lv_tableIn (tgt := 607) hx hb dL_40 (by decide) (by decide) rfl rfl (law_13 Z h1 hce hsl (o13 _ SX SM hr) next B H locs hl hL hS)
  | 14, _ => exact lv_tableIn (tgt := 632) hx hb dL_40 (by decide) (by decide) rfl rfl (law_14 Z  hce hsl (o14 SX SM hr) next B H locs hl hL hS)
  | 15, _ => exact lv_tableIn (tgt := 645) hx hb dL_40 (by decide) (by decide) rfl rfl (law_15 Z  hce hsl (o15 SX SM hr) next B H locs hl hL hS)
  | 16, _ => exact lv_tableIn (tgt := 658) hx hb dL_40 (by decide) (by decide) rfl rfl (law_16 Z h1 h2 hce hsl (o16 _ _ SX SM hr) next B H locs hl hL hS)
  | 17, _ => exact lv_tableIn (tgt := 695) hx hb dL_40 (by decide) (by decide) rfl rfl (law_17 Z h1 h2 h3 hce hsl (o17 _ _ _ SX SM hr) next B H locs hl hL hS)
  | 18, _ => exact lv_tableIn (tgt := 744) hx hb dL_40 (by decide) (by decide) rfl rfl (law_18 Z  hce hsl (o18 SX SM hr) next B H locs hl hL hS)
  | 19, _ => exact lv_tableIn (tgt := 757) hx hb dL_40 (by decide) (by decide) rfl rfl (law_19 Z  hce hsl (o19 SX SM hr) next B H locs hl hL hS)
  | 20, _ => exact lv_tableIn (tgt := 770) hx hb dL_40 (by decide) (by decide) rfl rfl (law_20 Z h1 hce hsl (o20 _ SX SM hr) next B H locs hl hL hS)
  | 21, _ => exact lv_tableIn (tgt := 795) hx hb dL_40 (by decide) (by decide) rfl rfl (law_21 Z  hce hsl (o21 SX SM hr) next B H locs hl hL hS)
  | 22, _ => exact lv_tableIn (tgt := 808) hx hb dL_40 (by decide) (by decide) rfl rfl (law_22 Z  hce hsl (o22 SX SM hr) next B H locs hl hL hS)
  | 23, _ => exact lv_tableIn (tgt := 821) hx hb dL_40 (by decide) (by decide) rfl rfl (law_23 Z  hce hsl (o23 SX SM hr) next B H locs hl hL hS)
  | 24, _ => exact lv_tableIn (tgt := 834) hx hb dL_40 (by decide) (by decide) rfl rfl (law_24 Z  hce hsl (o24 SX SM hr) next B H locs hl hL hS)
  | 25, _ => exact lv_tableIn (tgt := 847) hx hb dL_40 (by decide) (by decide) rfl rfl (hrest B H locs hl hL hS)
  | 26, _ => exact lv_tableIn (tgt := 939) hx hb dL_40 (by decide) (by decide) rfl rfl (law_26 Z h1 h2 h3 hce hsl (o26 _ _ _ SX SM hr) next B H locs hl hL hS)
  | 27, _ => exact lv_tableIn (tgt := 988) hx hb dL_40 (by decide) (by decide) rfl rfl (law_27 Z h1 h2 hce hsl (o27 _ _ (by split <;> simp) SX SM hr) next B H locs hl hL hS)
  | 28, _ => exact lv_tableIn (tgt := 1041) hx hb dL_40 (by decide) (by decide) rfl rfl (law_28 Z h1 hce hsl (o28 _ SX SM hr) next B H locs hl hL hS)
  | 29, _ => exact lv_tableOut (tgt := 1066) hx hb dL_40 (by decide) rfl (next SX SM hr B H locs hl hL hS)
  | 30, _ => exact lv_tableOut (tgt := 1066) hx hb dL_40 (by decide) rfl (next SX SM hr B H locs hl hL hS)
  | 31, _ => exact lv_tableOut (tgt := 1066) hx hb dL_40 (by decide) rfl (next SX SM hr B H locs hl hL hS)
  | n + 32, h => exact absurd h (by omega)
end
