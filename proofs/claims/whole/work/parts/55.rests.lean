/-! rests of the class: its contract -/
def nsX : String := "java/util/NoSuchElementException"
def nsN : List String := ["java/lang/RuntimeException", "java/lang/Exception"]
def qR (a b n w : Int32) : Array Value → State → Outcome → State → Prop := va_Qi (S := Unit) (fun r _ => restP a b n w = some r) (fun _ _ => True) (fun _ => False)
def xR (a b n w : Int32) : String → State → State → Prop := vx_X (S := Unit) (fun _ => restP a b n w = none) (fun E _ _ => E = nsX) (fun _ => False)
def kR (A : Nat → Prop) (U : State) : Prop := (∀ w ∈ vx_atS RX12 344 nsX nsN, va_Nw w U) ∧ va_Nw (.classLink RX12 340 nsX) U ∧ va_Nw (.initialized nsX) U ∧ (∃ sa, vk_R RX12 342 "a prize is 0 to 9" sa U) ∧ (∃ sa, vk_R RX12 351 "no such rest" sa U) ∧ vx_Zq Bundle.tN "UNASSIGNED_STACK" Bundle.steD A U U.heap ∧ vx_Zq Bundle.tN "SUPPRESSED_SENTINEL" Bundle.listD A U U.heap
theorem ns_ot : ∀ w ∈ Cond.classLink RX12 340 nsX :: Cond.initialized nsX :: vx_atS RX12 344 nsX nsN, vx_ot w = true := by decide +kernel
theorem ns_tb : ∀ w ∈ Cond.classLink RX12 340 nsX :: Cond.initialized nsX :: vx_atS RX12 344 nsX nsN, w.onTables = true := by decide +kernel
theorem ns_in : ∀ w ∈ Cond.classLink RX12 340 nsX :: Cond.initialized nsX :: vx_atS RX12 344 nsX nsN, w ∈ lw_tbl := by decide +kernel
