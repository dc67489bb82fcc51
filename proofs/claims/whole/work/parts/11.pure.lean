/-! rows of arrays, and all instructions that go on to the next one -/
section
variable {p : Program} {l : Launch} {e : Env} {R : Room} {s : State} {m : MethodId} {args : Array Value} {below : List Frame} {meth : Method} {c : Code} {cc : ByteArray} {nL on : Nat} {ad : Nat → Nat} {cy : Nat → ClassId} {D : va_G} {ids : List Nat} {A : Nat → Prop} {rk : Nat → Bool} {Zc : State → Prop} {Qs : State → Prop} {pc : Nat} {B : Array Slot} {H : Heap} {locs : List Loc} {rest : List Value} {S : aS}
theorem r_iald (X : aCx p s m args c cc nL on ad cy D ids A rk Zc) {a x : Nat} {i : Int32} (hd : decode cc pc = .ok (.iaload, 1)) (h20 : Nat.blt a 20 = false) (hm : a % 10 = 0) (hr : rk a = true) (hx : akd x = a) (hin : vp_in i (aln x)) (hP : va_P D vwCl (aws ad cy ids S) H)
    (kk : W p l e R s m args below meth c H locs 0 0 Qs (F0 m (pc + 1) B (.int (ga S x i.toNatClampNeg) :: rest))) : W p l e R s m args below meth c H locs 0 0 Qs (F0 m pc B (.int i :: .ref (ad x) :: rest)) := by
  obtain ⟨hexec, hb, hml, hown, hts, hnw, hK, hn, hA, hi, hreg, hZ⟩ := X
  obtain ⟨q0, h1, h2⟩ := aws_at (ad := ad) (cy := cy) (S := S) (hreg x a hx hr)
  rw [ace_arr hx h20, arw_I hx (Or.inl hm), hm] at h2
  exact va_iald hexec hb hK hP q0 0 h2 rfl hin hd kk
theorem r_lald (X : aCx p s m args c cc nL on ad cy D ids A rk Zc) {a x : Nat} {i : Int32} (hd : decode cc pc = .ok (.laload, 1)) (h20 : Nat.blt a 20 = false) (hm : a % 10 = 1) (hr : rk a = true) (hx : akd x = a) (hin : vp_in i (aln x)) (hP : va_P D vwCl (aws ad cy ids S) H)
    (kk : W p l e R s m args below meth c H locs 0 0 Qs (F0 m (pc + 1) B (.long (gb S x i.toNatClampNeg) :: rest))) : W p l e R s m args below meth c H locs 0 0 Qs (F0 m pc B (.int i :: .ref (ad x) :: rest)) := by
  obtain ⟨hexec, hb, hml, hown, hts, hnw, hK, hn, hA, hi, hreg, hZ⟩ := X
  obtain ⟨q0, h1, h2⟩ := aws_at (ad := ad) (cy := cy) (S := S) (hreg x a hx hr)
  rw [ace_arr hx h20, arw_L hx hm, hm] at h2
  exact va_lald hexec hb hK hP q0 1 h2 rfl hin hd kk
theorem r_bald (X : aCx p s m args c cc nL on ad cy D ids A rk Zc) {a x : Nat} {i : Int32} (hd : decode cc pc = .ok (.baload, 1)) (h20 : Nat.blt a 20 = false) (hm : a % 10 = 2) (hr : rk a = true) (hx : akd x = a) (hin : vp_in i (aln x)) (hP : va_P D vwCl (aws ad cy ids S) H)
    (kk : W p l e R s m args below meth c H locs 0 0 Qs (F0 m (pc + 1) B (.int (ga S x i.toNatClampNeg) :: rest))) : W p l e R s m args below meth c H locs 0 0 Qs (F0 m pc B (.int i :: .ref (ad x) :: rest)) := by
  obtain ⟨hexec, hb, hml, hown, hts, hnw, hK, hn, hA, hi, hreg, hZ⟩ := X
  obtain ⟨q0, h1, h2⟩ := aws_at (ad := ad) (cy := cy) (S := S) (hreg x a hx hr)
  rw [ace_arr hx h20, arw_I hx (Or.inr (Or.inl hm)), hm] at h2
  exact va_bald hexec hb hK hP q0 2 h2 rfl hin hd kk
theorem r_zald (X : aCx p s m args c cc nL on ad cy D ids A rk Zc) {a x : Nat} {i : Int32} (hd : decode cc pc = .ok (.baload, 1)) (h20 : Nat.blt a 20 = false) (hm : a % 10 = 3) (hr : rk a = true) (hx : akd x = a) (hin : vp_in i (aln x)) (hP : va_P D vwCl (aws ad cy ids S) H)
    (kk : W p l e R s m args below meth c H locs 0 0 Qs (F0 m (pc + 1) B (.int (ga S x i.toNatClampNeg) :: rest))) : W p l e R s m args below meth c H locs 0 0 Qs (F0 m pc B (.int i :: .ref (ad x) :: rest)) := by
  obtain ⟨hexec, hb, hml, hown, hts, hnw, hK, hn, hA, hi, hreg, hZ⟩ := X
  obtain ⟨q0, h1, h2⟩ := aws_at (ad := ad) (cy := cy) (S := S) (hreg x a hx hr)
  rw [ace_arr hx h20, arw_I hx (Or.inr (Or.inr hm)), hm] at h2
  exact va_zald hexec hb hK hP q0 3 h2 rfl hin hd kk
theorem r_pald (X : aCx p s m args c cc nL on ad cy D ids A rk Zc) {a x : Nat} {i : Int32} (hd : decode cc pc = .ok (.aaload, 1)) (h20 : Nat.blt a 20 = false) (hm : a % 10 = 4) (hr : rk a = true) (hx : akd x = a) (hin : vp_in i (aln x)) (hP : va_P D vwCl (aws ad cy ids S) H)
    (kk : W p l e R s m args below meth c H locs 0 0 Qs (F0 m (pc + 1) B (.ref (ad (ara x i.toNatClampNeg)) :: rest))) : W p l e R s m args below meth c H locs 0 0 Qs (F0 m pc B (.int i :: .ref (ad x) :: rest)) := by
  obtain ⟨hexec, hb, hml, hown, hts, hnw, hK, hn, hA, hi, hreg, hZ⟩ := X
  obtain ⟨q0, h1, h2⟩ := aws_at (ad := ad) (cy := cy) (S := S) (hreg x a hx hr)
  rw [ace_arr hx h20, arw_R hx (Or.inl hm), hm] at h2
  exact va_aldq hexec hb hK hP q0 4 h2 rfl hin hd kk
theorem r_sald (X : aCx p s m args c cc nL on ad cy D ids A rk Zc) {a x : Nat} {i : Int32} (hd : decode cc pc = .ok (.aaload, 1)) (h20 : Nat.blt a 20 = false) (hm : a % 10 = 5) (hr : rk a = true) (hx : akd x = a) (hin : vp_in i (aln x)) (hP : va_P D vwCl (aws ad cy ids S) H)
    (kk : W p l e R s m args below meth c H locs 0 0 Qs (F0 m (pc + 1) B (.ref (ad (ara x i.toNatClampNeg)) :: rest))) : W p l e R s m args below meth c H locs 0 0 Qs (F0 m pc B (.int i :: .ref (ad x) :: rest)) := by
  obtain ⟨hexec, hb, hml, hown, hts, hnw, hK, hn, hA, hi, hreg, hZ⟩ := X
  obtain ⟨q0, h1, h2⟩ := aws_at (ad := ad) (cy := cy) (S := S) (hreg x a hx hr)
  rw [ace_arr hx h20, arw_R hx (Or.inr hm), hm] at h2
  exact va_aldq hexec hb hK hP q0 5 h2 rfl hin hd kk
theorem r_iast (X : aCx p s m args c cc nL on ad cy D ids A rk Zc) {a x : Nat} {i : Int32} {v : Int32} (hd : decode cc pc = .ok (.iastore, 1)) (h20 : Nat.blt a 20 = false) (hm : a % 10 = 0) (hr : rk a = true) (hx : akd x = a) (hin : vp_in i (aln x)) (hP : va_P D vwCl (aws ad cy ids S) H) (hS : va_S A s.heap H locs)
    (kk : ∀ (H1 : Heap) (locs1 : List Loc), va_P D vwCl (aws ad cy ids (sa S x i.toNatClampNeg v)) H1 → va_S A s.heap H1 locs1 → W p l e R s m args below meth c H1 locs1 0 0 Qs (F0 m (pc + 1) B rest)) : W p l e R s m args below meth c H locs 0 0 Qs (F0 m pc B (.int v :: .int i :: .ref (ad x) :: rest)) := by
  obtain ⟨hexec, hb, hml, hown, hts, hnw, hK, hn, hA, hi, hreg, hZ⟩ := X
  obtain ⟨q0, h1, h2⟩ := aws_at (ad := ad) (cy := cy) (S := S) (hreg x a hx hr)
  rw [ace_arr hx h20, arw_I hx (Or.inl hm), hm] at h2
  have hset := aws_set (ad := ad) (cy := cy) (S := S) (S' := sa S x i.toNatClampNeg v) hn h1 (fun j hj => ace_sa j hj)
  rw [ace_arr hx h20, arw_I hx (Or.inl hm), hm] at hset
  have hu : (sa S x i.toNatClampNeg v).2.2.2.1 x = upd (S.2.2.2.1 x) i.toNatClampNeg v := by simp only [sa, va_up, if_pos]
  rw [hu] at hset
  exact va_iast hexec hb hK hP (aws_D hn hA hi) hS q0 0 h2 rfl hin hd (fun H1 locs1 q1 _ q3 => kk H1 locs1 (hset ▸ q1) q3)
theorem r_bast (X : aCx p s m args c cc nL on ad cy D ids A rk Zc) {a x : Nat} {i : Int32} {v : Int32} (hd : decode cc pc = .ok (.bastore, 1)) (h20 : Nat.blt a 20 = false) (hm : a % 10 = 2) (hr : rk a = true) (hx : akd x = a) (hin : vp_in i (aln x)) (hP : va_P D vwCl (aws ad cy ids S) H) (hS : va_S A s.heap H locs)
    (kk : ∀ (H1 : Heap) (locs1 : List Loc), va_P D vwCl (aws ad cy ids (sa S x i.toNatClampNeg (vp_nar .byte v))) H1 → va_S A s.heap H1 locs1 → W p l e R s m args below meth c H1 locs1 0 0 Qs (F0 m (pc + 1) B rest)) : W p l e R s m args below meth c H locs 0 0 Qs (F0 m pc B (.int v :: .int i :: .ref (ad x) :: rest)) := by
  obtain ⟨hexec, hb, hml, hown, hts, hnw, hK, hn, hA, hi, hreg, hZ⟩ := X
  obtain ⟨q0, h1, h2⟩ := aws_at (ad := ad) (cy := cy) (S := S) (hreg x a hx hr)
  rw [ace_arr hx h20, arw_I hx (Or.inr (Or.inl hm)), hm] at h2
  have hset := aws_set (ad := ad) (cy := cy) (S := S) (S' := sa S x i.toNatClampNeg (vp_nar .byte v)) hn h1 (fun j hj => ace_sa j hj)
  rw [ace_arr hx h20, arw_I hx (Or.inr (Or.inl hm)), hm] at hset
  have hu : (sa S x i.toNatClampNeg (vp_nar .byte v)).2.2.2.1 x = upd (S.2.2.2.1 x) i.toNatClampNeg (vp_nar .byte v) := by simp only [sa, va_up, if_pos]
  rw [hu] at hset
  exact va_bast hexec hb hK hP (aws_D hn hA hi) hS q0 2 h2 rfl hin hd (fun H1 locs1 q1 _ q3 => kk H1 locs1 (hset ▸ q1) q3)
theorem r_zast (X : aCx p s m args c cc nL on ad cy D ids A rk Zc) {a x : Nat} {i : Int32} {v : Int32} (hd : decode cc pc = .ok (.bastore, 1)) (h20 : Nat.blt a 20 = false) (hm : a % 10 = 3) (hr : rk a = true) (hx : akd x = a) (hin : vp_in i (aln x)) (hP : va_P D vwCl (aws ad cy ids S) H) (hS : va_S A s.heap H locs)
    (kk : ∀ (H1 : Heap) (locs1 : List Loc), va_P D vwCl (aws ad cy ids (sa S x i.toNatClampNeg (vp_nar .boolean v))) H1 → va_S A s.heap H1 locs1 → W p l e R s m args below meth c H1 locs1 0 0 Qs (F0 m (pc + 1) B rest)) : W p l e R s m args below meth c H locs 0 0 Qs (F0 m pc B (.int v :: .int i :: .ref (ad x) :: rest)) := by
  obtain ⟨hexec, hb, hml, hown, hts, hnw, hK, hn, hA, hi, hreg, hZ⟩ := X
  obtain ⟨q0, h1, h2⟩ := aws_at (ad := ad) (cy := cy) (S := S) (hreg x a hx hr)
  rw [ace_arr hx h20, arw_I hx (Or.inr (Or.inr hm)), hm] at h2
  have hset := aws_set (ad := ad) (cy := cy) (S := S) (S' := sa S x i.toNatClampNeg (vp_nar .boolean v)) hn h1 (fun j hj => ace_sa j hj)
  rw [ace_arr hx h20, arw_I hx (Or.inr (Or.inr hm)), hm] at hset
  have hu : (sa S x i.toNatClampNeg (vp_nar .boolean v)).2.2.2.1 x = upd (S.2.2.2.1 x) i.toNatClampNeg (vp_nar .boolean v) := by simp only [sa, va_up, if_pos]
  rw [hu] at hset
  exact va_zast hexec hb hK hP (aws_D hn hA hi) hS q0 3 h2 rfl hin hd (fun H1 locs1 q1 _ q3 => kk H1 locs1 (hset ▸ q1) q3)
theorem r_last (X : aCx p s m args c cc nL on ad cy D ids A rk Zc) {a x : Nat} {i : Int32} {v : Int64} (hd : decode cc pc = .ok (.lastore, 1)) (h20 : Nat.blt a 20 = false) (hm : a % 10 = 1) (hr : rk a = true) (hx : akd x = a) (hin : vp_in i (aln x)) (hP : va_P D vwCl (aws ad cy ids S) H) (hS : va_S A s.heap H locs)
    (kk : ∀ (H1 : Heap) (locs1 : List Loc), va_P D vwCl (aws ad cy ids (sb S x i.toNatClampNeg v)) H1 → va_S A s.heap H1 locs1 → W p l e R s m args below meth c H1 locs1 0 0 Qs (F0 m (pc + 1) B rest)) : W p l e R s m args below meth c H locs 0 0 Qs (F0 m pc B (.long v :: .int i :: .ref (ad x) :: rest)) := by
  obtain ⟨hexec, hb, hml, hown, hts, hnw, hK, hn, hA, hi, hreg, hZ⟩ := X
  obtain ⟨q0, h1, h2⟩ := aws_at (ad := ad) (cy := cy) (S := S) (hreg x a hx hr)
  rw [ace_arr hx h20, arw_L hx hm, hm] at h2
  have hset := aws_set (ad := ad) (cy := cy) (S := S) (S' := sb S x i.toNatClampNeg v) hn h1 (fun j hj => ace_sb j hj)
  rw [ace_arr hx h20, arw_L hx hm, hm] at hset
  have hu : (sb S x i.toNatClampNeg v).2.2.2.2 x = vp_updL (S.2.2.2.2 x) i.toNatClampNeg v := by simp only [sb, va_up, if_pos]
  rw [hu] at hset
  exact va_last hexec hb hK hP (aws_D hn hA hi) hS q0 1 h2 rfl hin hd (fun H1 locs1 q1 _ q3 => kk H1 locs1 (hset ▸ q1) q3)
theorem atys_at (cy : Nat → ClassId) {a : Nat} (h : a < 6) : ∃ ty, (atys cy)[a]? = some (cy a, ty) := by
  match a, h with
  | 0, _ => exact ⟨_, rfl⟩
  | 1, _ => exact ⟨_, rfl⟩
  | 2, _ => exact ⟨_, rfl⟩
  | 3, _ => exact ⟨_, rfl⟩
  | 4, _ => exact ⟨_, rfl⟩
  | 5, _ => exact ⟨_, rfl⟩
theorem r_alen (X : aCx p s m args c cc nL on ad cy D ids A rk Zc) {a x : Nat} (hd : decode cc pc = .ok (.arraylength, 1)) (h20 : Nat.blt a 20 = false) (hm : a % 10 < 6) (hr : rk a = true) (hx : akd x = a) (hP : va_P D vwCl (aws ad cy ids S) H)
    (kk : W p l e R s m args below meth c H locs 0 0 Qs (F0 m (pc + 1) B (.int (Int32.ofNat (aln x)) :: rest))) : W p l e R s m args below meth c H locs 0 0 Qs (F0 m pc B (.ref (ad x) :: rest)) := by
  obtain ⟨hexec, hb, hml, hown, hts, hnw, hK, hn, hA, hi, hreg, hZ⟩ := X
  obtain ⟨q0, h1, h2⟩ := aws_at (ad := ad) (cy := cy) (S := S) (hreg x a hx hr)
  rw [ace_arr hx h20] at h2
  obtain ⟨ty, ht⟩ := atys_at cy hm
  exact va_alen hexec hb hK hP q0 (a % 10) h2 ht rfl hd kk
end
def alen1 (i : ClassFile.Instr) : Nat := match i with
  | .bipush _ => 2
  | .ldc _ => 2
  | .iload _ => 2
  | .lload _ => 2
  | .aload _ => 2
  | .istore _ => 2
  | .lstore _ => 2
  | .astore _ => 2
  | .sipush _ => 3
  | .ldc_w _ => 3
  | .ldc2_w _ => 3
  | .iinc _ _ => 3
  | .getfield _ => 3
  | .putfield _ => 3
  | .getstatic _ => 3
  | .invokevirtual _ => 3
  | .invokespecial _ => 3
  | .invokestatic _ => 3
  | .ifCond _ _ => 3
  | .if_icmp _ _ => 3
  | .if_acmp _ _ => 3
  | .goto _ => 3
  | _ => 1
/-- what a program checks of an instruction: its numbers are those of the code -/
def ackX (on : Nat) (rk : Nat → Bool) (e : aE) : Bool := match e.2.1 with
  | .iconst n => decide (Int32.ofInt n = e.2.2.2.2.2.2.1)
  | .bipush n => decide ((Int8.ofInt n).toInt32 = e.2.2.2.2.2.2.1)
  | .sipush n => decide ((Int16.ofInt n).toInt32 = e.2.2.2.2.2.2.1)
  | .ldc i => decide ((on, i, e.2.2.2.2.2.2.1) ∈ aCT)
  | .ldc_w i => decide ((on, i, e.2.2.2.2.2.2.1) ∈ aCT)
  | .lconst n => decide (Int64.ofNat (n : Nat) = e.2.2.2.2.2.2.2)
  | .ldc2_w i => decide ((on, i, e.2.2.2.2.2.2.2) ∈ aC2)
  | .iinc _ n => decide (Int32.ofInt n = e.2.2.2.2.2.2.1)
  | .getfield i => decide ((on, i, e.2.2.2.2.1, e.2.2.2.2.2.1) ∈ aLT ∨ (on, i, e.2.2.2.2.1, e.2.2.2.2.2.1) ∈ aLN) && rk e.2.2.2.2.1
  | .putfield i => decide ((on, i, e.2.2.2.2.1, e.2.2.2.2.2.1) ∈ aPT ∨ (on, i, e.2.2.2.2.1, e.2.2.2.2.2.1) ∈ aPN) && rk e.2.2.2.2.1
  | .iaload => decide (Nat.blt e.2.2.2.2.1 20 = false ∧ e.2.2.2.2.1 % 10 = 0) && rk e.2.2.2.2.1
  | .iastore => decide (Nat.blt e.2.2.2.2.1 20 = false ∧ e.2.2.2.2.1 % 10 = 0) && rk e.2.2.2.2.1
  | .laload => decide (Nat.blt e.2.2.2.2.1 20 = false ∧ e.2.2.2.2.1 % 10 = 1) && rk e.2.2.2.2.1
  | .lastore => decide (Nat.blt e.2.2.2.2.1 20 = false ∧ e.2.2.2.2.1 % 10 = 1) && rk e.2.2.2.2.1
  | .baload => decide (e.2.2.2.2.1 = 22 ∨ Nat.blt e.2.2.2.2.1 20 = false ∧ e.2.2.2.2.1 % 10 = 3) && rk e.2.2.2.2.1
  | .bastore => decide (e.2.2.2.2.1 = 22 ∨ Nat.blt e.2.2.2.2.1 20 = false ∧ e.2.2.2.2.1 % 10 = 3) && rk e.2.2.2.2.1
  | .aaload => decide (Nat.blt e.2.2.2.2.1 20 = false ∧ (e.2.2.2.2.1 % 10 = 4 ∨ e.2.2.2.2.1 % 10 = 5)) && rk e.2.2.2.2.1
  | .arraylength => decide (Nat.blt e.2.2.2.2.1 20 = false ∧ e.2.2.2.2.1 % 10 < 6) && rk e.2.2.2.2.1
  | _ => true
theorem acat1 {v : Value} (h : acat2 v = false) : v.category = 1 := by
  cases v <;> first | rfl | cases h
section
variable {p : Program} {l : Launch} {e : Env} {R : Room} {s : State} {m : MethodId} {args : Array Value} {below : List Frame} {meth : Method} {c : Code} {cc : ByteArray} {nL on : Nat} {ad : Nat → Nat} {cy : Nat → ClassId} {D : va_G} {ids : List Nat} {A : Nat → Prop} {rk : Nat → Bool} {Zc : State → Prop} {Qs : State → Prop}
set_option maxHeartbeats 4000000 in
theorem apw_ok (X : aCx p s m args c cc nL on ad cy D ids A rk Zc) {n : aE} {go : Nat → aLs → List Value → aS → Prop} {ls : aLs} {st : List Value} {S : aS} (hd : decode cc n.1 = .ok (n.2.1, n.2.2.1)) (hlen : n.2.2.1 = alen1 n.2.1) (hk : ackX on rk n = true) (h : aTP (apu n ls st S) (go 0))
    (hgo : ∀ ls' st' S', go 0 ls' st' S' → aWg p l e R s m args below meth c nL ad cy D ids A Qs (n.1 + n.2.2.1) ls' st' S') : aWg p l e R s m args below meth c nL ad cy D ids A Qs n.1 ls st S := by
  have hx := X.1
  have hb := X.2.1
  have hown := X.2.2.2.1
  have hts := X.2.2.2.2.1
  obtain ⟨pc, i, len, cut, a, b, v, w⟩ := n
  dsimp only at hd hlen hgo hk ⊢
  intro B H locs hl hP hS
  cases i with
  | iconst n =>
    obtain rfl : len = 1 := hlen
    exact lv_iconst hx hb hd (of_decide_eq_true hk) (hgo _ _ _ h B H locs hl hP hS)
  | bipush n =>
    obtain rfl : len = 2 := hlen
    exact lv_bipush hx hb hd (of_decide_eq_true hk) (hgo _ _ _ h B H locs hl hP hS)
  | sipush n =>
    obtain rfl : len = 3 := hlen
    exact lv_sipush hx hb hd (of_decide_eq_true hk) (hgo _ _ _ h B H locs hl hP hS)
  | ldc n =>
    obtain rfl : len = 2 := hlen
    exact lv_ldc hx hb hown (hts _ (aCT_ok _ (of_decide_eq_true hk))) hd (hgo _ _ _ h B H locs hl hP hS)
  | ldc_w n =>
    obtain rfl : len = 3 := hlen
    exact lv_ldcw hx hb hown (hts _ (aCT_ok _ (of_decide_eq_true hk))) hd (hgo _ _ _ h B H locs hl hP hS)
  | lconst n =>
    obtain rfl : len = 1 := hlen
    exact lv_lconst hx hb hd (of_decide_eq_true hk) (hgo _ _ _ h B H locs hl hP hS)
  | ldc2_w n =>
    obtain rfl : len = 3 := hlen
    exact lv_ldc2 hx hb hown (hts _ (aC2_ok _ (of_decide_eq_true hk))) hd (hgo _ _ _ h B H locs hl hP hS)
  | iload_n n =>
    obtain rfl : len = 1 := hlen
    obtain ⟨x, h1, h⟩ := aldI_inv h
    exact lv_iload_n hx hb hd rfl (hl.at h1) (hgo _ _ _ h B H locs hl hP hS)
  | iload n =>
    obtain rfl : len = 2 := hlen
    obtain ⟨x, h1, h⟩ := aldI_inv h
    exact lv_iload hx hb hd (hl.at h1) (hgo _ _ _ h B H locs hl hP hS)
  | lload_n n =>
    obtain rfl : len = 1 := hlen
    obtain ⟨x, h1, h⟩ := aldL_inv h
    exact lv_lload_n hx hb hd rfl (hl.at h1) (hgo _ _ _ h B H locs hl hP hS)
  | lload n =>
    obtain rfl : len = 2 := hlen
    obtain ⟨x, h1, h⟩ := aldL_inv h
    exact lv_lload hx hb hd (hl.at h1) (hgo _ _ _ h B H locs hl hP hS)
  | aload_n n =>
    obtain rfl : len = 1 := hlen
    obtain ⟨x, h1, h⟩ := aldR_inv h
    exact lv_aload_n hx hb hd rfl (hl.at h1) (hgo _ _ _ h B H locs hl hP hS)
  | aload n =>
    obtain rfl : len = 2 := hlen
    obtain ⟨x, h1, h⟩ := aldR_inv h
    exact lv_aload hx hb hd (hl.at h1) (hgo _ _ _ h B H locs hl hP hS)
  | istore_n n =>
    obtain rfl : len = 1 := hlen
    obtain ⟨x, r, rfl, h⟩ := pI_inv h
    obtain ⟨h1, h⟩ := aput_inv h
    exact lv_istore_n hx hb hd rfl hl.2 (by rw [← hl.1]; exact h1) rfl (fun B1 q => hgo _ _ _ h B1 H locs (hl.st1 q) hP hS)
  | istore n =>
    obtain rfl : len = 2 := hlen
    obtain ⟨x, r, rfl, h⟩ := pI_inv h
    obtain ⟨h1, h⟩ := aput_inv h
    exact lv_istore hx hb hd hl.2 (by rw [← hl.1]; exact h1) rfl (fun B1 q => hgo _ _ _ h B1 H locs (hl.st1 q) hP hS)
  | astore_n n =>
    obtain rfl : len = 1 := hlen
    obtain ⟨x, r, rfl, h⟩ := pR_inv h
    obtain ⟨h1, h⟩ := aput_inv h
    exact lv_astore_n hx hb hd rfl hl.2 (by rw [← hl.1]; exact h1) rfl (fun B1 q => hgo _ _ _ h B1 H locs (hl.st1 q) hP hS)
  | astore n =>
    obtain rfl : len = 2 := hlen
    obtain ⟨x, r, rfl, h⟩ := pR_inv h
    obtain ⟨h1, h⟩ := aput_inv h
    exact lv_astore hx hb hd hl.2 (by rw [← hl.1]; exact h1) rfl (fun B1 q => hgo _ _ _ h B1 H locs (hl.st1 q) hP hS)
  | lstore_n n =>
    obtain rfl : len = 1 := hlen
    obtain ⟨x, r, rfl, h⟩ := pL_inv h
    obtain ⟨h1, h⟩ := aput_inv h
    exact lv_lstore_n hx hb hd rfl hl.2 (by rw [← hl.1]; exact h1) rfl (fun B1 q => hgo _ _ _ h B1 H locs (hl.st2 q) hP hS)
  | lstore n =>
    obtain rfl : len = 2 := hlen
    obtain ⟨x, r, rfl, h⟩ := pL_inv h
    obtain ⟨h1, h⟩ := aput_inv h
    exact lv_lstore hx hb hd hl.2 (by rw [← hl.1]; exact h1) rfl (fun B1 q => hgo _ _ _ h B1 H locs (hl.st2 q) hP hS)
  | iinc n k =>
    obtain rfl : len = 3 := hlen
    obtain ⟨x, h1, h⟩ := aldI_inv h
    obtain ⟨h2, h⟩ := aput_inv h
    obtain ⟨k0, hk0⟩ := List.getElem?_of_mem ((apr_mem (ad := ad) ls 0 (n, .int x)).mpr ⟨n, .int x, h1, by rw [Nat.zero_add]; rfl⟩)
    exact lv_iinc hx hb hd hl.2 hk0 (by rw [of_decide_eq_true hk]) (by rw [← hl.1]; exact h2) rfl (fun B1 q => hgo _ _ _ h B1 H locs (hl.st1 q) hP hS)
  | iadd =>
    obtain rfl : len = 1 := hlen
    obtain ⟨x, y, r, rfl, h⟩ := pII_inv h
    exact lv_iadd hx hb hd (hgo _ _ _ h B H locs hl hP hS)
  | isub =>
    obtain rfl : len = 1 := hlen
    obtain ⟨x, y, r, rfl, h⟩ := pII_inv h
    exact lv_isub hx hb hd (hgo _ _ _ h B H locs hl hP hS)
  | imul =>
    obtain rfl : len = 1 := hlen
    obtain ⟨x, y, r, rfl, h⟩ := pII_inv h
    exact lv_imul hx hb hd (hgo _ _ _ h B H locs hl hP hS)
  | iand =>
    obtain rfl : len = 1 := hlen
    obtain ⟨x, y, r, rfl, h⟩ := pII_inv h
    exact lv_iand hx hb hd (hgo _ _ _ h B H locs hl hP hS)
  | ior =>
    obtain rfl : len = 1 := hlen
    obtain ⟨x, y, r, rfl, h⟩ := pII_inv h
    exact lv_ior hx hb hd (hgo _ _ _ h B H locs hl hP hS)
  | ixor =>
    obtain rfl : len = 1 := hlen
    obtain ⟨x, y, r, rfl, h⟩ := pII_inv h
    exact lv_ixor hx hb hd (hgo _ _ _ h B H locs hl hP hS)
  | ishl =>
    obtain rfl : len = 1 := hlen
    obtain ⟨x, y, r, rfl, h⟩ := pII_inv h
    exact lv_ishl hx hb hd (hgo _ _ _ h B H locs hl hP hS)
  | ishr =>
    obtain rfl : len = 1 := hlen
    obtain ⟨x, y, r, rfl, h⟩ := pII_inv h
    exact lv_ishr hx hb hd (hgo _ _ _ h B H locs hl hP hS)
  | idiv =>
    obtain rfl : len = 1 := hlen
    obtain ⟨x, y, r, rfl, h⟩ := pII_inv h
    exact lv_idiv hx hb hd h.1 (hgo _ _ _ h.2 B H locs hl hP hS)
  | irem =>
    obtain rfl : len = 1 := hlen
    obtain ⟨x, y, r, rfl, h⟩ := pII_inv h
    exact lv_irem hx hb hd h.1 (hgo _ _ _ h.2 B H locs hl hP hS)
  | iushr =>
    obtain rfl : len = 1 := hlen
    obtain ⟨x, y, r, rfl, h⟩ := pII_inv h
    exact lv_iushr hx hb hd rfl (hgo _ _ _ h B H locs hl hP hS)
  | ladd =>
    obtain rfl : len = 1 := hlen
    obtain ⟨x, y, r, rfl, h⟩ := pLL_inv h
    exact lv_ladd hx hb hd (hgo _ _ _ h B H locs hl hP hS)
  | lsub =>
    obtain rfl : len = 1 := hlen
    obtain ⟨x, y, r, rfl, h⟩ := pLL_inv h
    exact lv_lsub hx hb hd (hgo _ _ _ h B H locs hl hP hS)
  | lmul =>
    obtain rfl : len = 1 := hlen
    obtain ⟨x, y, r, rfl, h⟩ := pLL_inv h
    exact lv_lmul hx hb hd (hgo _ _ _ h B H locs hl hP hS)
  | land =>
    obtain rfl : len = 1 := hlen
    obtain ⟨x, y, r, rfl, h⟩ := pLL_inv h
    exact lv_land hx hb hd (hgo _ _ _ h B H locs hl hP hS)
  | lor =>
    obtain rfl : len = 1 := hlen
    obtain ⟨x, y, r, rfl, h⟩ := pLL_inv h
    exact lv_lor hx hb hd (hgo _ _ _ h B H locs hl hP hS)
  | ldiv =>
    obtain rfl : len = 1 := hlen
    obtain ⟨x, y, r, rfl, h⟩ := pLL_inv h
    exact lv_ldiv hx hb hd h.1 (hgo _ _ _ h.2 B H locs hl hP hS)
  | lrem =>
    obtain rfl : len = 1 := hlen
    obtain ⟨x, y, r, rfl, h⟩ := pLL_inv h
    exact lv_lrem hx hb hd h.1 (hgo _ _ _ h.2 B H locs hl hP hS)
  | lcmp =>
    obtain rfl : len = 1 := hlen
    obtain ⟨x, y, r, rfl, h⟩ := pLL_inv h
    exact W.lcmp hx hb hd (hgo _ _ _ h B H locs hl hP hS)
  | lshl =>
    obtain rfl : len = 1 := hlen
    obtain ⟨x, y, r, rfl, h⟩ := pLI_inv h
    exact lv_lshl hx hb hd rfl (hgo _ _ _ h B H locs hl hP hS)
  | lushr =>
    obtain rfl : len = 1 := hlen
    obtain ⟨x, y, r, rfl, h⟩ := pLI_inv h
    exact lv_lushr hx hb hd rfl (hgo _ _ _ h B H locs hl hP hS)
  | i2l =>
    obtain rfl : len = 1 := hlen
    obtain ⟨x, r, rfl, h⟩ := pI_inv h
    exact lv_i2l hx hb hd rfl (hgo _ _ _ h B H locs hl hP hS)
  | l2i =>
    obtain rfl : len = 1 := hlen
    obtain ⟨x, r, rfl, h⟩ := pL_inv h
    exact lv_l2i hx hb hd rfl (hgo _ _ _ h B H locs hl hP hS)
  | i2b =>
    obtain rfl : len = 1 := hlen
    obtain ⟨x, r, rfl, h⟩ := pI_inv h
    exact lv_i2b hx hb hd rfl (hgo _ _ _ h B H locs hl hP hS)
  | i2c =>
    obtain rfl : len = 1 := hlen
    obtain ⟨x, r, rfl, h⟩ := pI_inv h
    exact lv_i2c hx hb hd rfl (hgo _ _ _ h B H locs hl hP hS)
  | dup =>
    obtain rfl : len = 1 := hlen
    cases st with
    | nil => exact h.elim
    | cons x r =>
      cases hc : acat2 x with
      | true => simp only [apu, hc] at h; exact h.elim
      | false =>
        simp only [apu, hc] at h
        exact lv_dup hx hb hd ((atv_cat ad x).trans (acat1 hc)) (hgo _ _ _ h B H locs hl hP hS)
  | pop =>
    obtain rfl : len = 1 := hlen
    cases st with
    | nil => exact h.elim
    | cons x r =>
      cases hc : acat2 x with
      | true => simp only [apu, hc] at h; exact h.elim
      | false =>
        simp only [apu, hc] at h
        exact lv_pop hx hb hd ((atv_cat ad x).trans (acat1 hc)) (hgo _ _ _ h B H locs hl hP hS)
  | dup2 =>
    obtain rfl : len = 1 := hlen
    cases st with
    | nil => exact h.elim
    | cons x r =>
      cases r with
      | nil => exact h.elim
      | cons y r =>
        cases hc : acat2 x with
        | true =>
          simp only [apu, hc] at h
          exact lv_dup2_2 hx hb hd (by rw [atv_cat]; rw [acat2_cat] at hc; exact eq_of_beq hc) (hgo _ _ _ h B H locs hl hP hS)
        | false =>
          cases hc2 : acat2 y with
          | true => simp only [apu, hc, hc2] at h; exact h.elim
          | false =>
            simp only [apu, hc, hc2] at h
            exact lv_dup2_11 hx hb hd ((atv_cat ad x).trans (acat1 hc)) ((atv_cat ad y).trans (acat1 hc2)) (hgo _ _ _ h B H locs hl hP hS)
  | getfield n =>
    obtain rfl : len = 3 := hlen
    obtain ⟨x, r, rfl, h⟩ := pR_inv h
    obtain ⟨k1, k2⟩ := (Bool.and_eq_true _ _).mp hk
    have k1 : (on, n, a, b) ∈ aLT ∨ (on, n, a, b) ∈ aLN := of_decide_eq_true k1
    have h : aTP (afg S x a b fun v => some (gK x a, none, ls, v :: r, S)) (go 0) := h
    unfold afg at h
    split at h
    · rename_i ht
      obtain ⟨h1, h⟩ := aGK h
      exact r_get X hd k1 k2 ht h1 hP (hgo _ _ _ h B H locs hl hP hS)
    · rename_i ht
      obtain ⟨h1, h⟩ := aGK h
      exact r_get X hd k1 k2 ht h1 hP (hgo _ _ _ h B H locs hl hP hS)
    · rename_i ht
      obtain ⟨h1, h⟩ := aGK h
      exact r_get X hd k1 k2 ht h1 hP (hgo _ _ _ h B H locs hl hP hS)
    · rename_i ht
      obtain ⟨h1, h⟩ := aGK h
      exact r_get X hd k1 k2 ht h1 hP (hgo _ _ _ h B H locs hl hP hS)
    · rename_i ht
      obtain ⟨h1, h⟩ := aGK h
      exact r_get X hd k1 k2 ht h1 hP (hgo _ _ _ h B H locs hl hP hS)
    · exact h.elim
  | putfield n =>
    obtain rfl : len = 3 := hlen
    obtain ⟨k1, k2⟩ := (Bool.and_eq_true _ _).mp hk
    have k1 := of_decide_eq_true k1
    have h : aTP (afp S a b ls st) (go 0) := h
    unfold afp at h
    split at h
    · rename_i ht
      obtain ⟨x, y, r, rfl, h⟩ := pRI_inv h
      obtain ⟨h1, h⟩ := aGK h
      refine r_put (S' := si S x b y) X hd k1 k2 ht h1 hP hS (fun ty q => by cases ty <;> first | exact ⟨rfl, rfl⟩ | cases q) (by simp [afv, gi, gl, gr, si, va_up, atv]) (fun t' k' hne => by simp [afv, gi, gl, gr, si, va_up, hne]) (fun j hj => ace_si j hj) (fun H1 locs1 q1 q2 => hgo _ _ _ h B H1 locs1 hl q1 q2)
    · rename_i ht
      obtain ⟨x, y, r, rfl, h⟩ := pRI_inv h
      obtain ⟨h1, h⟩ := aGK h
      refine r_put (S' := si S x b y) X hd k1 k2 ht h1 hP hS (fun ty q => by rcases h.1 with z | z <;> subst z <;> cases ty <;> first | exact ⟨rfl, rfl⟩ | cases q) (by simp [afv, gi, gl, gr, si, va_up, atv]) (fun t' k' hne => by simp [afv, gi, gl, gr, si, va_up, hne]) (fun j hj => ace_si j hj) (fun H1 locs1 q1 q2 => hgo _ _ _ h.2 B H1 locs1 hl q1 q2)
    · rename_i ht
      obtain ⟨x, y, r, rfl, h⟩ := pRL_inv h
      obtain ⟨h1, h⟩ := aGK h
      refine r_put (S' := sl S x b y) X hd k1 k2 ht h1 hP hS (fun ty q => by cases ty <;> first | exact ⟨rfl, rfl⟩ | cases q) (by simp [afv, gi, gl, gr, sl, va_up, atv]) (fun t' k' hne => by simp [afv, gi, gl, gr, sl, va_up, hne]) (fun j hj => ace_sl j hj) (fun H1 locs1 q1 q2 => hgo _ _ _ h B H1 locs1 hl q1 q2)
    · rename_i ht
      obtain ⟨x, y, r, rfl, h⟩ := pRR_inv h
      obtain ⟨h1, h⟩ := aGK h
      refine r_put (S' := sr S x b y) X hd k1 k2 ht h1 hP hS (fun ty q => by cases ty <;> first | exact ⟨rfl, rfl⟩ | cases q) (by simp [afv, gi, gl, gr, sr, va_up, atv]) (fun t' k' hne => by simp [afv, gi, gl, gr, sr, va_up, hne]) (fun j hj => ace_sr j hj) (fun H1 locs1 q1 q2 => hgo _ _ _ h B H1 locs1 hl q1 q2)
    · exact h.elim
  | iaload =>
    obtain rfl : len = 1 := hlen
    obtain ⟨x, y, r, rfl, h⟩ := pRI_inv h
    obtain ⟨k1, k2⟩ := (Bool.and_eq_true _ _).mp hk
    have k1 := of_decide_eq_true k1
    obtain ⟨h1, h2, h⟩ := aGK h
    exact r_iald X hd k1.1 k1.2 k2 h1 h2 hP (hgo _ _ _ h B H locs hl hP hS)
  | laload =>
    obtain rfl : len = 1 := hlen
    obtain ⟨x, y, r, rfl, h⟩ := pRI_inv h
    obtain ⟨k1, k2⟩ := (Bool.and_eq_true _ _).mp hk
    have k1 := of_decide_eq_true k1
    obtain ⟨h1, h2, h⟩ := aGK h
    exact r_lald X hd k1.1 k1.2 k2 h1 h2 hP (hgo _ _ _ h B H locs hl hP hS)
  | baload =>
    obtain rfl : len = 1 := hlen
    obtain ⟨x, y, r, rfl, h⟩ := pRI_inv h
    obtain ⟨k1, k2⟩ := (Bool.and_eq_true _ _).mp hk
    have k1 := of_decide_eq_true k1
    have k1 : a = 22 ∨ Nat.blt a 20 = false ∧ a % 10 = 3 := k1
    have k2 : rk a = true := k2
    have h : aTP (cond (Nat.beq a 22) (some (gK x a, some (vp_in y (aln x)), ls, .int (ga S x y.toNatClampNeg) :: r, S)) (some (gK x a, some (vp_in y (aln x)), ls, .int (ga S x y.toNatClampNeg) :: r, S))) (go 0) := h
    rcases k1 with k1 | k1
    · subst k1
      obtain ⟨h1, h2, h⟩ := aGK h
      exact r_bald X hd rfl rfl k2 h1 h2 hP (hgo _ _ _ h B H locs hl hP hS)
    · have hne : Nat.beq a 22 = false := by
        cases hb9 : Nat.beq a 22 with
        | false => rfl
        | true => have := Nat.eq_of_beq_eq_true hb9; omega
      simp only [hne, cond_false] at h
      obtain ⟨h1, h2, h⟩ := aGK h
      exact r_zald X hd k1.1 k1.2 k2 h1 h2 hP (hgo _ _ _ h B H locs hl hP hS)
  | aaload =>
    obtain rfl : len = 1 := hlen
    obtain ⟨x, y, r, rfl, h⟩ := pRI_inv h
    obtain ⟨k1, k2⟩ := (Bool.and_eq_true _ _).mp hk
    have k1 := of_decide_eq_true k1
    obtain ⟨h1, h2, h⟩ := aGK h
    rcases k1.2 with z | z
    · exact r_pald X hd k1.1 z k2 h1 h2 hP (hgo _ _ _ h B H locs hl hP hS)
    · exact r_sald X hd k1.1 z k2 h1 h2 hP (hgo _ _ _ h B H locs hl hP hS)
  | iastore =>
    obtain rfl : len = 1 := hlen
    obtain ⟨x, y, z, r, rfl, h⟩ := pRII_inv h
    obtain ⟨k1, k2⟩ := (Bool.and_eq_true _ _).mp hk
    have k1 := of_decide_eq_true k1
    obtain ⟨h1, h2, h⟩ := aGK h
    exact r_iast X hd k1.1 k1.2 k2 h1 h2 hP hS (fun H1 locs1 q1 q2 => hgo _ _ _ h B H1 locs1 hl q1 q2)
  | lastore =>
    obtain rfl : len = 1 := hlen
    obtain ⟨x, y, z, r, rfl, h⟩ := pRIL_inv h
    obtain ⟨k1, k2⟩ := (Bool.and_eq_true _ _).mp hk
    have k1 := of_decide_eq_true k1
    obtain ⟨h1, h2, h⟩ := aGK h
    exact r_last X hd k1.1 k1.2 k2 h1 h2 hP hS (fun H1 locs1 q1 q2 => hgo _ _ _ h B H1 locs1 hl q1 q2)
  | bastore =>
    obtain rfl : len = 1 := hlen
    obtain ⟨x, y, z, r, rfl, h⟩ := pRII_inv h
    obtain ⟨k1, k2⟩ := (Bool.and_eq_true _ _).mp hk
    have k1 := of_decide_eq_true k1
    have k1 : a = 22 ∨ Nat.blt a 20 = false ∧ a % 10 = 3 := k1
    have k2 : rk a = true := k2
    have h : aTP (cond (Nat.beq a 22) (some (gK x a, some (vp_in y (aln x)), ls, r, sa S x y.toNatClampNeg (vp_nar .byte z))) (some (gK x a, some (vp_in y (aln x)), ls, r, sa S x y.toNatClampNeg (vp_nar .boolean z)))) (go 0) := h
    rcases k1 with k1 | k1
    · subst k1
      obtain ⟨h1, h2, h⟩ := aGK h
      exact r_bast X hd rfl rfl k2 h1 h2 hP hS (fun H1 locs1 q1 q2 => hgo _ _ _ h B H1 locs1 hl q1 q2)
    · have hne : Nat.beq a 22 = false := by
        cases hb9 : Nat.beq a 22 with
        | false => rfl
        | true => have := Nat.eq_of_beq_eq_true hb9; omega
      simp only [hne, cond_false] at h
      obtain ⟨h1, h2, h⟩ := aGK h
      exact r_zast X hd k1.1 k1.2 k2 h1 h2 hP hS (fun H1 locs1 q1 q2 => hgo _ _ _ h B H1 locs1 hl q1 q2)
  | arraylength =>
    obtain rfl : len = 1 := hlen
    obtain ⟨x, r, rfl, h⟩ := pR_inv h
    obtain ⟨k1, k2⟩ := (Bool.and_eq_true _ _).mp hk
    have k1 := of_decide_eq_true k1
    obtain ⟨h1, h⟩ := aGK h
    exact r_alen X hd k1.1 k1.2 k2 h1 hP (hgo _ _ _ h B H locs hl hP hS)
  | _ => exact h.elim
end
