/-! the law whole, out of statements on the small machine alone -/
theorem kf0 : fl[295]? = some (Cond.exactly (.string RX12 342) "java/lang/String") := by decide +kernel
theorem kf1 : fl[316]? = some (Cond.exactly (.string RX12 351) "java/lang/String") := by decide +kernel
theorem kf2 : fl[149]? = some (Cond.isRef (.static Bundle.tN "UNASSIGNED_STACK" Bundle.steD)) := by decide +kernel
theorem kf3 : fl[150]? = some (Cond.isRef (.static Bundle.tN "SUPPRESSED_SENTINEL" Bundle.listD)) := by decide +kernel
theorem kt0 : tables_1[1216]? = some (Cond.stringRef RX12 342 "a prize is 0 to 9") := by decide +kernel
theorem kt1 : tables_1[1245]? = some (Cond.stringRef RX12 351 "no such rest") := by decide +kernel
theorem kt2 : tables_1[1204]? = some (Cond.laysStatic Bundle.tN "UNASSIGNED_STACK" Bundle.steD) := by decide +kernel
theorem kt3 : tables_1[1206]? = some (Cond.laysStatic Bundle.tN "SUPPRESSED_SENTINEL" Bundle.listD) := by decide +kernel
theorem kt4 : tables_1[23]? = some (Cond.initialized Bundle.tN) := by decide +kernel
theorem ns_in : ∀ w ∈ nsL, w ∈ tables_1 := by decide +kernel
theorem entKR {args : Array Value} {s : State} {q : Nat} (hl : ∀ w ∈ fl, w.before args s = true) (ht : ∀ w ∈ tables_1, w.before args s = true) (hq : s.heap.size ≤ q) : kR (fun z => z = q) s := by
  have hA : ∀ a : Nat, a < s.heap.size → ¬ a = q := fun a ha h => by omega
  obtain ⟨a1, c1, cell1, k1, q1, -⟩ := Cond.exactly_spec (args := args) (first := s) (o := none) (s := s) (idx := []) (t := .string RX12 342) (cls := "java/lang/String") (hl _ (fl_mem kf0))
  obtain ⟨a2, c2, cell2, k2, q2, -⟩ := Cond.exactly_spec (args := args) (first := s) (o := none) (s := s) (idx := []) (t := .string RX12 351) (cls := "java/lang/String") (hl _ (fl_mem kf1))
  exact ⟨fun w hw => va_tabs (ns_tb w hw) rfl (ht w (ns_in w hw)), ⟨a1, vk_R.of (ht _ (tb_mem kt0)) q1⟩, ⟨a2, vk_R.of (ht _ (tb_mem kt1)) q2⟩, vx_Zqof (ht _ (tb_mem kt2)) (ht _ (tb_mem kt4)) (hl _ (fl_mem kf2)) hA, vx_Zqof (ht _ (tb_mem kt3)) (ht _ (tb_mem kt4)) (hl _ (fl_mem kf3)) hA⟩
/-- what the mathematics owes: a tie between the two states that holds at the start and that every call keeps, with the same answers -/
def Owed (Rel : aS → aS → Prop) : Prop := LawOK Rel ∧ ok_rests Rel ∧ aWX dd 37 [.ref 40, .ref 6] S0X (fun v SX => v = .null ∧ (∀ i k, gr SX i k < 1000 ∨ 2000 ≤ gr SX i k) ∧ aWM dd 39 [.ref 1000] (sa S0M 1002 2 3) (fun v SM => v = .null ∧ Rel SX SM))
theorem whole_of {Rel : aS → aS → Prop} (hO : Owed Rel) {p : Program} {e : Env} {s : State} {m : MethodId} {below : List Frame} {meth : Method} {c : Code} (l : Launch) (hflags : l.flags = flags0) {b L : Nat} {xs : Nat → Int32} (hL : L ≤ 3584) (C0 : lw_At p s m meth c b L xs) : W p l e room_1 s m #[Value.ref b] below meth c s.heap [] 0 0 (lw_Z below #[Value.ref b] s) (entryFrame m ([Value.ref b] : List Value).toArray 7) := by
  obtain ⟨OK, OKR, h0⟩ := hO
  refine law_start (mcR := 1) (msR := 6) l hL C0 OK (by decide) (by decide) h0 (fun ad cy D q Z cells slots i SX SM o hrel hv hc hs next => law_25 hflags Z (entKR (args := #[Value.ref b]) (flat_of_before _ C0.2.2.2.2.2.2.2.2.2) (fun w hw => C0.2.2.2.2.2.1 w (List.mem_append_right _ hw)) Z.2.2.2.2.2.1.2.2) OKR hrel hv hc hs next)
