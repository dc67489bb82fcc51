/-! the class: its further steps, its methods as rows of the small machine, by a program out of its bytecode -/
def rkX (k : Nat) : Bool := Nat.ble k 10 || (Nat.ble 20 k && Nat.ble k 29)
/-- the texts: how long, their signs -/
def ast (s : Nat) : List Int32 := cond (Nat.ble s 2219) (cond (Nat.ble s 2209) (cond (Nat.ble s 2204) (cond (Nat.ble s 2201) (cond (Nat.ble s 2200) ([]) ([])) (cond (Nat.ble s 2202) ([]) (cond (Nat.ble s 2203) ([]) ([119, 114, 105, 116, 101, 114])))) (cond (Nat.ble s 2206) (cond (Nat.ble s 2205) ([119, 111, 114, 100]) ([102, 111, 108, 100])) (cond (Nat.ble s 2207) ([119, 101, 105, 103, 104, 116]) (cond (Nat.ble s 2208) ([103, 111, 111, 100]) ([108, 101, 102, 116]))))) (cond (Nat.ble s 2214) (cond (Nat.ble s 2211) (cond (Nat.ble s 2210) ([108, 105, 107, 101, 115]) ([99, 108, 97, 115, 104])) (cond (Nat.ble s 2212) ([102, 111, 108, 100, 115]) (cond (Nat.ble s 2213) ([119, 114, 105, 116, 101, 115]) ([100, 111, 101, 115])))) (cond (Nat.ble s 2216) (cond (Nat.ble s 2215) ([119, 114, 105, 116, 101]) ([98, 117, 114, 110])) (cond (Nat.ble s 2217) ([112, 97, 115, 115]) (cond (Nat.ble s 2218) ([112, 108, 97, 105, 110]) ([119, 105, 115, 101])))))) (cond (Nat.ble s 2229) (cond (Nat.ble s 2224) (cond (Nat.ble s 2221) (cond (Nat.ble s 2220) ([119, 105, 108, 100]) ([115, 108, 121])) (cond (Nat.ble s 2222) ([110, 111, 116]) (cond (Nat.ble s 2223) ([97, 110, 100]) ([111, 114])))) (cond (Nat.ble s 2226) (cond (Nat.ble s 2225) ([40]) ([41])) (cond (Nat.ble s 2227) ([60]) (cond (Nat.ble s 2228) ([61]) ([43]))))) (cond (Nat.ble s 2241) (cond (Nat.ble s 2231) (cond (Nat.ble s 2230) ([45]) ([42])) (cond (Nat.ble s 2232) ([59]) (cond (Nat.ble s 2240) ([104, 101, 97, 118, 121]) ([102, 111, 110, 100])))) (cond (Nat.ble s 2244) (cond (Nat.ble s 2242) ([115, 109, 97, 108, 108]) (cond (Nat.ble s 2243) ([109, 111, 114, 101]) ([97, 104, 101, 97, 100]))) (cond (Nat.ble s 2245) ([115, 117, 109]) (cond (Nat.ble s 2246) ([109, 111, 115, 116]) ([115, 112, 105, 107, 101, 100]))))))
def asl (s : Nat) : Nat := (ast s).length
def asc (s k : Nat) : Int32 := (ast s).getD k 0
/-- the switch map -/
def asmL : List Int32 := [0, 0, 0, 0, 1, 2, 0, 0, 0, 0, 3, 4, 5, 6, 7, 0, 0, 0, 8, 9, 10, 11, 0, 0, 0, 0, 0, 0, 0, 0, 0, 0, 0]
def asm (k : Nat) : Int32 := asmL.getD k 0
def gE (x : Nat) : Option Prop := cond (Nat.ble 2000 x && Nat.ble x 2032) none (some (2000 ≤ x ∧ x ≤ 2032))
/-- a part of a row copied to another -/
def scp (S : aS) (x : Nat) (sp : Int32) (y : Nat) (dp n : Int32) : aS := (S.1, S.2.1, S.2.2.1, va_up S.2.2.2.1 y (va_cpy (S.2.2.2.1 x) (S.2.2.2.1 y) sp.toNatClampNeg dp.toNatClampNeg n.toNatClampNeg), S.2.2.2.2)
def acpG (x : Nat) (sp : Int32) (y : Nat) (dp n : Int32) : Prop := akd y = 20 ∧ ¬ sp < 0 ∧ ¬ dp < 0 ∧ ¬ n < 0 ∧ sp.toNatClampNeg + n.toNatClampNeg ≤ aln x ∧ dp.toNatClampNeg + n.toNatClampNeg ≤ aln y
def pcp (st : List Value) (k : Nat → Int32 → Nat → Int32 → Int32 → List Value → aT) : aT := match st with
  | .int n :: .int dp :: .ref y :: .int sp :: .ref x :: r => k x sp y dp n r
  | _ => none
def pxX (e : aE) (ls : aLs) (st : List Value) (S : aS) : aT := match e.2.1 with
  | .invokestatic _ => cond (Nat.beq e.2.2.2.2.1 5002) (cond (acr st 5) (pcp st fun x sp y dp n r => some (gK x 20, some (acpG x sp y dp n), ls, r, scp S x sp y dp n)) none) (cond (acr st 2) (pxm e ls st S) none)
  | .invokevirtual _ => cond (Nat.beq e.2.2.2.2.1 5003) (cond (acr st 1) (pR st fun x r => agd (2200 ≤ x ∧ x ≤ 2299) ls (.int (Int32.ofNat (asl x)) :: r) S) none) (cond (Nat.beq e.2.2.2.2.1 5004) (cond (acr st 2) (pRI st fun x i r => agd ((2200 ≤ x ∧ x ≤ 2299) ∧ vp_in i (asl x)) ls (.int (asc x i.toNatClampNeg) :: r) S) none) (cond (Nat.beq e.2.2.2.2.1 5005) (cond (acr st 1) (pR st fun x r => some (gE x, none, ls, .int (Int32.ofNat (x - 2000)) :: r, S)) none) none))
  | .getstatic _ => aok ls (.ref e.2.2.2.2.2.1 :: st) S
  | .ldc _ => aok ls (.ref e.2.2.2.2.2.1 :: st) S
  | .getfield _ => pR st fun x r => some (gE x, none, ls, .ref (x + 200) :: r, S)
  | .aaload => pRI st fun x i r => cond (Nat.beq x 2100) (agd (vp_in i 33) ls (.ref (2000 + i.toNatClampNeg) :: r) S) none
  | .arraylength => pR st fun x r => cond (Nat.beq x 2100) (aok ls (.int 33 :: r) S) none
  | .iaload => pRI st fun x i r => cond (Nat.beq x 2101) (agd (vp_in i 33) ls (.int (asm i.toNatClampNeg) :: r) S) none
  | _ => none
def lkX : List (Nat × Nat × Nat × Nat) := [(1, 19, 5010, 2023), (1, 31, 5010, 2024), (1, 46, 5010, 2027), (1, 49, 5010, 2028), (1, 55, 5010, 2029), (1, 58, 5010, 2030), (1, 64, 5010, 2031), (1, 78, 5010, 2002), (1, 81, 5010, 2022), (1, 84, 5010, 2025), (1, 104, 5010, 2026), (1, 107, 5010, 2003), (1, 117, 5015, 2240), (1, 123, 5015, 2241), (1, 125, 5015, 2242), (1, 127, 5015, 2243), (1, 129, 5015, 2244), (1, 131, 5015, 2245), (1, 133, 5015, 2246), (1, 135, 5015, 2247), (3, 99, 5002, 0), (4, 53, 5002, 0), (5, 38, 5010, 2000), (5, 48, 5010, 2101), (5, 56, 5005, 0), (5, 91, 5010, 2032), (5, 130, 5010, 2006), (5, 140, 5010, 2007), (5, 146, 5010, 2008), (5, 152, 5010, 2009), (5, 165, 5010, 2003), (5, 228, 5010, 2015), (5, 231, 5010, 2016), (5, 234, 5010, 2017), (5, 239, 5010, 2002), (8, 24, 5002, 0), (9, 15, 5010, 2000), (9, 69, 5010, 2001), (9, 72, 5010, 2002), (9, 75, 5010, 2100), (9, 79, 5011, 0), (9, 87, 5010, 2003), (9, 90, 5003, 0), (9, 95, 5004, 0)]
def ckpX (on : Nat) (n : aE) : Bool := match n.2.1 with
  | .invokestatic i => decide (((n.2.2.2.2.1 = 5000 ∧ (on, i) ∈ lmaxT) ∨ (n.2.2.2.2.1 = 5001 ∧ (on, i) ∈ lminT)) ∨ (n.2.2.2.2.1 = 5002 ∧ (on, i, 5002, 0) ∈ lkX))
  | .invokevirtual i => decide ((on, i, n.2.2.2.2.1, 0) ∈ lkX)
  | .getstatic i => decide (n.2.2.2.2.1 = 5010 ∧ (on, i, 5010, n.2.2.2.2.2.1) ∈ lkX)
  | .ldc i => decide (n.2.2.2.2.1 = 5015 ∧ (on, i, 5015, n.2.2.2.2.2.1) ∈ lkX)
  | .getfield i => decide (n.2.2.2.2.1 = 5011 ∧ (on, i, 5011, 0) ∈ lkX)
  | .aaload => decide (n.2.2.2.2.1 = 5012)
  | .arraylength => decide (n.2.2.2.2.1 = 5013)
  | .iaload => decide (n.2.2.2.2.1 = 5014)
  | _ => false
