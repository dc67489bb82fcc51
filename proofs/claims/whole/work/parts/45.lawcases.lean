/-! the law, call by call -/
theorem lc19 : Cond.constantLong (aCN 12) 19 4294967295 ∈ aWS := aW_t 1898 (by decide +kernel) (by decide +kernel)
theorem lk_21 : Cond.methodLink (aCN 12) 21 (miX 116).1 ∈ aWS := aW_t 391 (by decide +kernel) (by decide +kernel)
theorem lk_25 : Cond.methodLink (aCN 12) 25 (miM 4).1 ∈ aWS := aW_t 1451 (by decide +kernel) (by decide +kernel)
theorem law_0 {p : Program} {l : Launch} {e : Env} {s : State} {m : MethodId} {args : Array Value} {below : List Frame} {meth : Method} {c : Code} {b L : Nat} {xs : Nat → Int32} {ad : Nat → Nat} {cy : Nat → ClassId} {D : va_G} {q : Nat} {Qs : State → Prop} {cells slots : Nat} {SX SM : aS} {o : Int64} {Rel : aS → aS → Prop} (Z : lCx p s m args c b L xs ad cy D q) {i : Int32} (h1 : vp_in (i + 1) L) (h2 : vp_in (i + 2) L) (h3 : vp_in (i + 3) L) (h4 : vp_in (i + 4) L) (h5 : vp_in (i + 5) L) (h6 : vp_in (i + 6) L) (hce : cells ≤ 601024) (hsl : slots ≤ 7293034) (h : aWX dd 116 [.ref 0, .long ((((xs (i + 1).toNatClampNeg).toInt64 <<< ((32 : Int32).toInt64 &&& 63)) ||| (((xs (i + 2).toNatClampNeg).toInt64 &&& 4294967295)))), .long ((((xs (i + 3).toNatClampNeg).toInt64 <<< ((32 : Int32).toInt64 &&& 63)) ||| (((xs (i + 4).toNatClampNeg).toInt64 &&& 4294967295)))), .long ((((xs (i + 5).toNatClampNeg).toInt64 <<< ((32 : Int32).toInt64 &&& 63)) ||| (((xs (i + 6).toNatClampNeg).toInt64 &&& 4294967295))))] SX (fun v SX1 => ∃ n, v = .int n ∧ aWM dd 4 [.ref 1000, .long ((((xs (i + 1).toNatClampNeg).toInt64 <<< ((32 : Int32).toInt64 &&& 63)) ||| (((xs (i + 2).toNatClampNeg).toInt64 &&& 4294967295)))), .long ((((xs (i + 3).toNatClampNeg).toInt64 <<< ((32 : Int32).toInt64 &&& 63)) ||| (((xs (i + 4).toNatClampNeg).toInt64 &&& 4294967295)))), .long ((((xs (i + 5).toNatClampNeg).toInt64 <<< ((32 : Int32).toInt64 &&& 63)) ||| (((xs (i + 6).toNatClampNeg).toInt64 &&& 4294967295))))] SM (fun v SM1 => v = .int n ∧ Rel SX1 SM1))) (next : ∀ SX1 SM1, Rel SX1 SM1 → lG p l e s m args below meth c b ad cy D q Qs cells slots 1066 i SX1 SM1 o) : lG p l e s m args below meth c b ad cy D q Qs cells slots 172 i SX SM o := by
  obtain ⟨hx, hb, hml, hown, hts⟩ := Z.1
  have hX := Z.2.2.2.2.2.2.2.1
  have hbl := Z.2.2.2.2.2.2.2.2
  have hbA : ¬ lA s b := Nat.not_le.mpr hbl
  intro B H locs hl hL hS
  refine lv_aload_n hx hb dL_172 rfl (lv_at hl 1 rfl) ?_
  refine lv_aload_n hx hb dL_173 rfl (lv_at hl 0 rfl) ?_
  refine lv_iload hx hb dL_174 (lv_at hl 4 rfl) ?_
  refine lv_iconst (v := 1) hx hb dL_176 rfl ?_
  refine lv_iadd hx hb dL_177 ?_
  refine va_sld hx hb hX hbl hbA hS h1 dL_178 ?_
  refine lv_i2l hx hb dL_179 rfl ?_
  refine lv_bipush (v := 32) hx hb dL_180 rfl ?_
  refine lv_lshl hx hb dL_182 rfl ?_
  refine lv_aload_n hx hb dL_183 rfl (lv_at hl 0 rfl) ?_
  refine lv_iload hx hb dL_184 (lv_at hl 4 rfl) ?_
  refine lv_iconst (v := 2) hx hb dL_186 rfl ?_
  refine lv_iadd hx hb dL_187 ?_
  refine va_sld hx hb hX hbl hbA hS h2 dL_188 ?_
  refine lv_i2l hx hb dL_189 rfl ?_
  refine lv_ldc2 hx hb hown (hts _ lc19) dL_190 ?_
  refine lv_land hx hb dL_193 ?_
  refine lv_lor hx hb dL_194 ?_
  refine lv_aload_n hx hb dL_195 rfl (lv_at hl 0 rfl) ?_
  refine lv_iload hx hb dL_196 (lv_at hl 4 rfl) ?_
  refine lv_iconst (v := 3) hx hb dL_198 rfl ?_
  refine lv_iadd hx hb dL_199 ?_
  refine va_sld hx hb hX hbl hbA hS h3 dL_200 ?_
  refine lv_i2l hx hb dL_201 rfl ?_
  refine lv_bipush (v := 32) hx hb dL_202 rfl ?_
  refine lv_lshl hx hb dL_204 rfl ?_
  refine lv_aload_n hx hb dL_205 rfl (lv_at hl 0 rfl) ?_
  refine lv_iload hx hb dL_206 (lv_at hl 4 rfl) ?_
  refine lv_iconst (v := 4) hx hb dL_208 rfl ?_
  refine lv_iadd hx hb dL_209 ?_
  refine va_sld hx hb hX hbl hbA hS h4 dL_210 ?_
  refine lv_i2l hx hb dL_211 rfl ?_
  refine lv_ldc2 hx hb hown (hts _ lc19) dL_212 ?_
  refine lv_land hx hb dL_215 ?_
  refine lv_lor hx hb dL_216 ?_
  refine lv_aload_n hx hb dL_217 rfl (lv_at hl 0 rfl) ?_
  refine lv_iload hx hb dL_218 (lv_at hl 4 rfl) ?_
  refine lv_iconst (v := 5) hx hb dL_220 rfl ?_
  refine lv_iadd hx hb dL_221 ?_
  refine va_sld hx hb hX hbl hbA hS h5 dL_222 ?_
  refine lv_i2l hx hb dL_223 rfl ?_
  refine lv_bipush (v := 32) hx hb dL_224 rfl ?_
  refine lv_lshl hx hb dL_226 rfl ?_
  refine lv_aload_n hx hb dL_227 rfl (lv_at hl 0 rfl) ?_
  refine lv_iload hx hb dL_228 (lv_at hl 4 rfl) ?_
  refine lv_bipush (v := 6) hx hb dL_230 rfl ?_
  refine lv_iadd hx hb dL_232 ?_
  refine va_sld hx hb hX hbl hbA hS h6 dL_233 ?_
  refine lv_i2l hx hb dL_234 rfl ?_
  refine lv_ldc2 hx hb hown (hts _ lc19) dL_235 ?_
  refine lv_land hx hb dL_238 ?_
  refine lv_lor hx hb dL_239 ?_
  refine lX (j := 116) (i := 21) (As := [.long ((((xs (i + 1).toNatClampNeg).toInt64 <<< ((32 : Int32).toInt64 &&& 63)) ||| (((xs (i + 2).toNatClampNeg).toInt64 &&& 4294967295)))), .long ((((xs (i + 3).toNatClampNeg).toInt64 <<< ((32 : Int32).toInt64 &&& 63)) ||| (((xs (i + 4).toNatClampNeg).toInt64 &&& 4294967295)))), .long ((((xs (i + 5).toNatClampNeg).toInt64 <<< ((32 : Int32).toInt64 &&& 63)) ||| (((xs (i + 6).toNatClampNeg).toInt64 &&& 4294967295))))]) (rest := []) Z (by decide) rfl lk_21 rfl h dL_240 (Nat.zero_le _) hce hsl hl.1 hL hS (fun v SX1 H1 locs1 hq hL1 hS1 => ?_)
  obtain ⟨n, rfl, hq⟩ := hq
  show W p l e room_1 s m args below meth c H1 locs1 cells slots Qs (F0 m 243 B [.int n])
  refine lv_aload_n hx hb dL_243 rfl (lv_at hl 2 rfl) ?_
  refine lv_aload_n hx hb dL_244 rfl (lv_at hl 0 rfl) ?_
  refine lv_iload hx hb dL_245 (lv_at hl 4 rfl) ?_
  refine lv_iconst (v := 1) hx hb dL_247 rfl ?_
  refine lv_iadd hx hb dL_248 ?_
  refine va_sld hx hb hX hbl hbA hS1 h1 dL_249 ?_
  refine lv_i2l hx hb dL_250 rfl ?_
  refine lv_bipush (v := 32) hx hb dL_251 rfl ?_
  refine lv_lshl hx hb dL_253 rfl ?_
  refine lv_aload_n hx hb dL_254 rfl (lv_at hl 0 rfl) ?_
  refine lv_iload hx hb dL_255 (lv_at hl 4 rfl) ?_
  refine lv_iconst (v := 2) hx hb dL_257 rfl ?_
  refine lv_iadd hx hb dL_258 ?_
  refine va_sld hx hb hX hbl hbA hS1 h2 dL_259 ?_
  refine lv_i2l hx hb dL_260 rfl ?_
  refine lv_ldc2 hx hb hown (hts _ lc19) dL_261 ?_
  refine lv_land hx hb dL_264 ?_
  refine lv_lor hx hb dL_265 ?_
  refine lv_aload_n hx hb dL_266 rfl (lv_at hl 0 rfl) ?_
  refine lv_iload hx hb dL_267 (lv_at hl 4 rfl) ?_
  refine lv_iconst (v := 3) hx hb dL_269 rfl ?_
  refine lv_iadd hx hb dL_270 ?_
  refine va_sld hx hb hX hbl hbA hS1 h3 dL_271 ?_
  refine lv_i2l hx hb dL_272 rfl ?_
  refine lv_bipush (v := 32) hx hb dL_273 rfl ?_
  refine lv_lshl hx hb dL_275 rfl ?_
  refine lv_aload_n hx hb dL_276 rfl (lv_at hl 0 rfl) ?_
  refine lv_iload hx hb dL_277 (lv_at hl 4 rfl) ?_
  refine lv_iconst (v := 4) hx hb dL_279 rfl ?_
  refine lv_iadd hx hb dL_280 ?_
  refine va_sld hx hb hX hbl hbA hS1 h4 dL_281 ?_
  refine lv_i2l hx hb dL_282 rfl ?_
  refine lv_ldc2 hx hb hown (hts _ lc19) dL_283 ?_
  refine lv_land hx hb dL_286 ?_
  refine lv_lor hx hb dL_287 ?_
  refine lv_aload_n hx hb dL_288 rfl (lv_at hl 0 rfl) ?_
  refine lv_iload hx hb dL_289 (lv_at hl 4 rfl) ?_
  refine lv_iconst (v := 5) hx hb dL_291 rfl ?_
  refine lv_iadd hx hb dL_292 ?_
  refine va_sld hx hb hX hbl hbA hS1 h5 dL_293 ?_
  refine lv_i2l hx hb dL_294 rfl ?_
  refine lv_bipush (v := 32) hx hb dL_295 rfl ?_
  refine lv_lshl hx hb dL_297 rfl ?_
  refine lv_aload_n hx hb dL_298 rfl (lv_at hl 0 rfl) ?_
  refine lv_iload hx hb dL_299 (lv_at hl 4 rfl) ?_
  refine lv_bipush (v := 6) hx hb dL_301 rfl ?_
  refine lv_iadd hx hb dL_303 ?_
  refine va_sld hx hb hX hbl hbA hS1 h6 dL_304 ?_
  refine lv_i2l hx hb dL_305 rfl ?_
  refine lv_ldc2 hx hb hown (hts _ lc19) dL_306 ?_
  refine lv_land hx hb dL_309 ?_
  refine lv_lor hx hb dL_310 ?_
  refine lM (j := 4) (i := 25) (As := [.long ((((xs (i + 1).toNatClampNeg).toInt64 <<< ((32 : Int32).toInt64 &&& 63)) ||| (((xs (i + 2).toNatClampNeg).toInt64 &&& 4294967295)))), .long ((((xs (i + 3).toNatClampNeg).toInt64 <<< ((32 : Int32).toInt64 &&& 63)) ||| (((xs (i + 4).toNatClampNeg).toInt64 &&& 4294967295)))), .long ((((xs (i + 5).toNatClampNeg).toInt64 <<< ((32 : Int32).toInt64 &&& 63)) ||| (((xs (i + 6).toNatClampNeg).toInt64 &&& 4294967295))))]) (rest := [.int n]) Z (by decide) rfl lk_25 rfl hq dL_311 (show (1 : Nat) ≤ 8 by decide) hce hsl hl.1 hL1 hS1 (fun v SM1 H2 locs2 hq2 hL2 hS2 => ?_)
  obtain ⟨rfl, hq2⟩ := hq2
  show W p l e room_1 s m args below meth c H2 locs2 cells slots Qs (F0 m 314 B [.int n, .int n])
  refine lv_icmp_eq (tgt := 1066) hx hb dL_314 rfl (fun _ => ?_) (fun z => absurd rfl z)
  exact next SX1 SM1 hq2 B H2 locs2 hl hL2 hS2
theorem lk_26 : Cond.methodLink (aCN 12) 26 (miX 117).1 ∈ aWS := aW_t 399 (by decide +kernel) (by decide +kernel)
theorem lk_30 : Cond.methodLink (aCN 12) 30 (miM 40).1 ∈ aWS := aW_t 1456 (by decide +kernel) (by decide +kernel)
theorem law_1 {p : Program} {l : Launch} {e : Env} {s : State} {m : MethodId} {args : Array Value} {below : List Frame} {meth : Method} {c : Code} {b L : Nat} {xs : Nat → Int32} {ad : Nat → Nat} {cy : Nat → ClassId} {D : va_G} {q : Nat} {Qs : State → Prop} {cells slots : Nat} {SX SM : aS} {o : Int64} {Rel : aS → aS → Prop} (Z : lCx p s m args c b L xs ad cy D q) {i : Int32}  (hce : cells ≤ 601024) (hsl : slots ≤ 7293034) (h : aWX dd 117 [.ref 0] SX (fun v SX1 => ∃ n, v = .int n ∧ aWM dd 40 [.ref 1000] SM (fun v SM1 => v = .int n ∧ Rel SX1 SM1))) (next : ∀ SX1 SM1, Rel SX1 SM1 → lG p l e s m args below meth c b ad cy D q Qs cells slots 1066 i SX1 SM1 o) : lG p l e s m args below meth c b ad cy D q Qs cells slots 319 i SX SM o := by
  obtain ⟨hx, hb, hml, hown, hts⟩ := Z.1
  have hX := Z.2.2.2.2.2.2.2.1
  have hbl := Z.2.2.2.2.2.2.2.2
  have hbA : ¬ lA s b := Nat.not_le.mpr hbl
  intro B H locs hl hL hS
  refine lv_aload_n hx hb dL_319 rfl (lv_at hl 1 rfl) ?_
  refine lX (j := 117) (i := 26) (As := []) (rest := []) Z (by decide) rfl lk_26 rfl h dL_320 (Nat.zero_le _) hce hsl hl.1 hL hS (fun v SX1 H1 locs1 hq hL1 hS1 => ?_)
  obtain ⟨n, rfl, hq⟩ := hq
  show W p l e room_1 s m args below meth c H1 locs1 cells slots Qs (F0 m 323 B [.int n])
  refine lv_aload_n hx hb dL_323 rfl (lv_at hl 2 rfl) ?_
  refine lM (j := 40) (i := 30) (As := []) (rest := [.int n]) Z (by decide) rfl lk_30 rfl hq dL_324 (show (1 : Nat) ≤ 8 by decide) hce hsl hl.1 hL1 hS1 (fun v SM1 H2 locs2 hq2 hL2 hS2 => ?_)
  obtain ⟨rfl, hq2⟩ := hq2
  show W p l e room_1 s m args below meth c H2 locs2 cells slots Qs (F0 m 327 B [.int n, .int n])
  refine lv_icmp_eq (tgt := 1066) hx hb dL_327 rfl (fun _ => ?_) (fun z => absurd rfl z)
  exact next SX1 SM1 hq2 B H2 locs2 hl hL2 hS2
theorem lk_31 : Cond.methodLink (aCN 12) 31 (miX 118).1 ∈ aWS := aW_t 714 (by decide +kernel) (by decide +kernel)
theorem lk_34 : Cond.methodLink (aCN 12) 34 (miM 41).1 ∈ aWS := aW_t 1597 (by decide +kernel) (by decide +kernel)
theorem law_2 {p : Program} {l : Launch} {e : Env} {s : State} {m : MethodId} {args : Array Value} {below : List Frame} {meth : Method} {c : Code} {b L : Nat} {xs : Nat → Int32} {ad : Nat → Nat} {cy : Nat → ClassId} {D : va_G} {q : Nat} {Qs : State → Prop} {cells slots : Nat} {SX SM : aS} {o : Int64} {Rel : aS → aS → Prop} (Z : lCx p s m args c b L xs ad cy D q) {i : Int32}  (hce : cells ≤ 601024) (hsl : slots ≤ 7293034) (h : aWX dd 118 [.ref 0] SX (fun v SX1 => ∃ n, v = .int n ∧ aWM dd 41 [.ref 1000] SM (fun v SM1 => v = .int n ∧ Rel SX1 SM1))) (next : ∀ SX1 SM1, Rel SX1 SM1 → lG p l e s m args below meth c b ad cy D q Qs cells slots 1066 i SX1 SM1 o) : lG p l e s m args below meth c b ad cy D q Qs cells slots 332 i SX SM o := by
  obtain ⟨hx, hb, hml, hown, hts⟩ := Z.1
  have hX := Z.2.2.2.2.2.2.2.1
  have hbl := Z.2.2.2.2.2.2.2.2
  have hbA : ¬ lA s b := Nat.not_le.mpr hbl
  intro B H locs hl hL hS
  refine lv_aload_n hx hb dL_332 rfl (lv_at hl 1 rfl) ?_
  refine lX (j := 118) (i := 31) (As := []) (rest := []) Z (by decide) rfl lk_31 rfl h dL_333 (Nat.zero_le _) hce hsl hl.1 hL hS (fun v SX1 H1 locs1 hq hL1 hS1 => ?_)
  obtain ⟨n, rfl, hq⟩ := hq
  show W p l e room_1 s m args below meth c H1 locs1 cells slots Qs (F0 m 336 B [.int n])
  refine lv_aload_n hx hb dL_336 rfl (lv_at hl 2 rfl) ?_
  refine lM (j := 41) (i := 34) (As := []) (rest := [.int n]) Z (by decide) rfl lk_34 rfl hq dL_337 (show (1 : Nat) ≤ 8 by decide) hce hsl hl.1 hL1 hS1 (fun v SM1 H2 locs2 hq2 hL2 hS2 => ?_)
  obtain ⟨rfl, hq2⟩ := hq2
  show W p l e room_1 s m args below meth c H2 locs2 cells slots Qs (F0 m 340 B [.int n, .int n])
  refine lv_icmp_eq (tgt := 1066) hx hb dL_340 rfl (fun _ => ?_) (fun z => absurd rfl z)
  exact next SX1 SM1 hq2 B H2 locs2 hl hL2 hS2
theorem lk_35 : Cond.methodLink (aCN 12) 35 (miX 119).1 ∈ aWS := aW_t 741 (by decide +kernel) (by decide +kernel)
theorem lk_39 : Cond.methodLink (aCN 12) 39 (miM 50).1 ∈ aWS := aW_t 1609 (by decide +kernel) (by decide +kernel)
theorem law_3 {p : Program} {l : Launch} {e : Env} {s : State} {m : MethodId} {args : Array Value} {below : List Frame} {meth : Method} {c : Code} {b L : Nat} {xs : Nat → Int32} {ad : Nat → Nat} {cy : Nat → ClassId} {D : va_G} {q : Nat} {Qs : State → Prop} {cells slots : Nat} {SX SM : aS} {o : Int64} {Rel : aS → aS → Prop} (Z : lCx p s m args c b L xs ad cy D q) {i : Int32} (h1 : vp_in (i + 1) L) (h2 : vp_in (i + 2) L) (hce : cells ≤ 601024) (hsl : slots ≤ 7293034) (h : aWX dd 119 [.ref 0, .int (xs (i + 1).toNatClampNeg), .int (xs (i + 2).toNatClampNeg)] SX (fun v SX1 => ∃ n, v = .int n ∧ aWM dd 50 [.ref 1000, .int (xs (i + 1).toNatClampNeg), .int (xs (i + 2).toNatClampNeg)] SM (fun v SM1 => v = .int n ∧ Rel SX1 SM1))) (next : ∀ SX1 SM1, Rel SX1 SM1 → lG p l e s m args below meth c b ad cy D q Qs cells slots 1066 i SX1 SM1 o) : lG p l e s m args below meth c b ad cy D q Qs cells slots 345 i SX SM o := by
  obtain ⟨hx, hb, hml, hown, hts⟩ := Z.1
  have hX := Z.2.2.2.2.2.2.2.1
  have hbl := Z.2.2.2.2.2.2.2.2
  have hbA : ¬ lA s b := Nat.not_le.mpr hbl
  intro B H locs hl hL hS
  refine lv_aload_n hx hb dL_345 rfl (lv_at hl 1 rfl) ?_
  refine lv_aload_n hx hb dL_346 rfl (lv_at hl 0 rfl) ?_
  refine lv_iload hx hb dL_347 (lv_at hl 4 rfl) ?_
  refine lv_iconst (v := 1) hx hb dL_349 rfl ?_
  refine lv_iadd hx hb dL_350 ?_
  refine va_sld hx hb hX hbl hbA hS h1 dL_351 ?_
  refine lv_aload_n hx hb dL_352 rfl (lv_at hl 0 rfl) ?_
  refine lv_iload hx hb dL_353 (lv_at hl 4 rfl) ?_
  refine lv_iconst (v := 2) hx hb dL_355 rfl ?_
  refine lv_iadd hx hb dL_356 ?_
  refine va_sld hx hb hX hbl hbA hS h2 dL_357 ?_
  refine lX (j := 119) (i := 35) (As := [.int (xs (i + 1).toNatClampNeg), .int (xs (i + 2).toNatClampNeg)]) (rest := []) Z (by decide) rfl lk_35 rfl h dL_358 (Nat.zero_le _) hce hsl hl.1 hL hS (fun v SX1 H1 locs1 hq hL1 hS1 => ?_)
  obtain ⟨n, rfl, hq⟩ := hq
  show W p l e room_1 s m args below meth c H1 locs1 cells slots Qs (F0 m 361 B [.int n])
  refine lv_aload_n hx hb dL_361 rfl (lv_at hl 2 rfl) ?_
  refine lv_aload_n hx hb dL_362 rfl (lv_at hl 0 rfl) ?_
  refine lv_iload hx hb dL_363 (lv_at hl 4 rfl) ?_
  refine lv_iconst (v := 1) hx hb dL_365 rfl ?_
  refine lv_iadd hx hb dL_366 ?_
  refine va_sld hx hb hX hbl hbA hS1 h1 dL_367 ?_
  refine lv_aload_n hx hb dL_368 rfl (lv_at hl 0 rfl) ?_
  refine lv_iload hx hb dL_369 (lv_at hl 4 rfl) ?_
  refine lv_iconst (v := 2) hx hb dL_371 rfl ?_
  refine lv_iadd hx hb dL_372 ?_
  refine va_sld hx hb hX hbl hbA hS1 h2 dL_373 ?_
  refine lM (j := 50) (i := 39) (As := [.int (xs (i + 1).toNatClampNeg), .int (xs (i + 2).toNatClampNeg)]) (rest := [.int n]) Z (by decide) rfl lk_39 rfl hq dL_374 (show (1 : Nat) ≤ 8 by decide) hce hsl hl.1 hL1 hS1 (fun v SM1 H2 locs2 hq2 hL2 hS2 => ?_)
  obtain ⟨rfl, hq2⟩ := hq2
  show W p l e room_1 s m args below meth c H2 locs2 cells slots Qs (F0 m 377 B [.int n, .int n])
  refine lv_icmp_eq (tgt := 1066) hx hb dL_377 rfl (fun _ => ?_) (fun z => absurd rfl z)
  exact next SX1 SM1 hq2 B H2 locs2 hl hL2 hS2
theorem lk_40 : Cond.methodLink (aCN 12) 40 (miX 120).1 ∈ aWS := aW_t 751 (by decide +kernel) (by decide +kernel)
theorem lk_43 : Cond.methodLink (aCN 12) 43 (miM 51).1 ∈ aWS := aW_t 1617 (by decide +kernel) (by decide +kernel)
theorem law_4 {p : Program} {l : Launch} {e : Env} {s : State} {m : MethodId} {args : Array Value} {below : List Frame} {meth : Method} {c : Code} {b L : Nat} {xs : Nat → Int32} {ad : Nat → Nat} {cy : Nat → ClassId} {D : va_G} {q : Nat} {Qs : State → Prop} {cells slots : Nat} {SX SM : aS} {o : Int64} {Rel : aS → aS → Prop} (Z : lCx p s m args c b L xs ad cy D q) {i : Int32} (h1 : vp_in (i + 1) L) (h2 : vp_in (i + 2) L) (hce : cells ≤ 601024) (hsl : slots ≤ 7293034) (h : aWX dd 120 [.ref 0, .int (xs (i + 1).toNatClampNeg), .int (xs (i + 2).toNatClampNeg)] SX (fun v SX1 => ∃ n, v = .int n ∧ aWM dd 51 [.ref 1000, .int (xs (i + 1).toNatClampNeg), .int (xs (i + 2).toNatClampNeg)] SM (fun v SM1 => v = .int n ∧ Rel SX1 SM1))) (next : ∀ SX1 SM1, Rel SX1 SM1 → lG p l e s m args below meth c b ad cy D q Qs cells slots 1066 i SX1 SM1 o) : lG p l e s m args below meth c b ad cy D q Qs cells slots 382 i SX SM o := by
  obtain ⟨hx, hb, hml, hown, hts⟩ := Z.1
  have hX := Z.2.2.2.2.2.2.2.1
  have hbl := Z.2.2.2.2.2.2.2.2
  have hbA : ¬ lA s b := Nat.not_le.mpr hbl
  intro B H locs hl hL hS
  refine lv_aload_n hx hb dL_382 rfl (lv_at hl 1 rfl) ?_
  refine lv_aload_n hx hb dL_383 rfl (lv_at hl 0 rfl) ?_
  refine lv_iload hx hb dL_384 (lv_at hl 4 rfl) ?_
  refine lv_iconst (v := 1) hx hb dL_386 rfl ?_
  refine lv_iadd hx hb dL_387 ?_
  refine va_sld hx hb hX hbl hbA hS h1 dL_388 ?_
  refine lv_aload_n hx hb dL_389 rfl (lv_at hl 0 rfl) ?_
  refine lv_iload hx hb dL_390 (lv_at hl 4 rfl) ?_
  refine lv_iconst (v := 2) hx hb dL_392 rfl ?_
  refine lv_iadd hx hb dL_393 ?_
  refine va_sld hx hb hX hbl hbA hS h2 dL_394 ?_
  refine lX (j := 120) (i := 40) (As := [.int (xs (i + 1).toNatClampNeg), .int (xs (i + 2).toNatClampNeg)]) (rest := []) Z (by decide) rfl lk_40 rfl h dL_395 (Nat.zero_le _) hce hsl hl.1 hL hS (fun v SX1 H1 locs1 hq hL1 hS1 => ?_)
  obtain ⟨n, rfl, hq⟩ := hq
  show W p l e room_1 s m args below meth c H1 locs1 cells slots Qs (F0 m 398 B [.int n])
  refine lv_aload_n hx hb dL_398 rfl (lv_at hl 2 rfl) ?_
  refine lv_aload_n hx hb dL_399 rfl (lv_at hl 0 rfl) ?_
  refine lv_iload hx hb dL_400 (lv_at hl 4 rfl) ?_
  refine lv_iconst (v := 1) hx hb dL_402 rfl ?_
  refine lv_iadd hx hb dL_403 ?_
  refine va_sld hx hb hX hbl hbA hS1 h1 dL_404 ?_
  refine lv_aload_n hx hb dL_405 rfl (lv_at hl 0 rfl) ?_
  refine lv_iload hx hb dL_406 (lv_at hl 4 rfl) ?_
  refine lv_iconst (v := 2) hx hb dL_408 rfl ?_
  refine lv_iadd hx hb dL_409 ?_
  refine va_sld hx hb hX hbl hbA hS1 h2 dL_410 ?_
  refine lM (j := 51) (i := 43) (As := [.int (xs (i + 1).toNatClampNeg), .int (xs (i + 2).toNatClampNeg)]) (rest := [.int n]) Z (by decide) rfl lk_43 rfl hq dL_411 (show (1 : Nat) ≤ 8 by decide) hce hsl hl.1 hL1 hS1 (fun v SM1 H2 locs2 hq2 hL2 hS2 => ?_)
  obtain ⟨rfl, hq2⟩ := hq2
  show W p l e room_1 s m args below meth c H2 locs2 cells slots Qs (F0 m 414 B [.int n, .int n])
  refine lv_icmp_eq (tgt := 1066) hx hb dL_414 rfl (fun _ => ?_) (fun z => absurd rfl z)
  exact next SX1 SM1 hq2 B H2 locs2 hl hL2 hS2
theorem lk_44 : Cond.methodLink (aCN 12) 44 (miX 122).1 ∈ aWS := aW_t 822 (by decide +kernel) (by decide +kernel)
theorem lk_48 : Cond.methodLink (aCN 12) 48 (miM 52).1 ∈ aWS := aW_t 1661 (by decide +kernel) (by decide +kernel)
theorem law_5 {p : Program} {l : Launch} {e : Env} {s : State} {m : MethodId} {args : Array Value} {below : List Frame} {meth : Method} {c : Code} {b L : Nat} {xs : Nat → Int32} {ad : Nat → Nat} {cy : Nat → ClassId} {D : va_G} {q : Nat} {Qs : State → Prop} {cells slots : Nat} {SX SM : aS} {o : Int64} {Rel : aS → aS → Prop} (Z : lCx p s m args c b L xs ad cy D q) {i : Int32} (h1 : vp_in (i + 1) L) (hce : cells ≤ 601024) (hsl : slots ≤ 7293034) (h : aWX dd 122 [.ref 0, .int (xs (i + 1).toNatClampNeg)] SX (fun v SX1 => ∃ n, v = .int n ∧ aWM dd 52 [.ref 1000, .int (xs (i + 1).toNatClampNeg)] SM (fun v SM1 => v = .int n ∧ Rel SX1 SM1))) (next : ∀ SX1 SM1, Rel SX1 SM1 → lG p l e s m args below meth c b ad cy D q Qs cells slots 1066 i SX1 SM1 o) : lG p l e s m args below meth c b ad cy D q Qs cells slots 419 i SX SM o := by
  obtain ⟨hx, hb, hml, hown, hts⟩ := Z.1
  have hX := Z.2.2.2.2.2.2.2.1
  have hbl := Z.2.2.2.2.2.2.2.2
  have hbA : ¬ lA s b := Nat.not_le.mpr hbl
  intro B H locs hl hL hS
  refine lv_aload_n hx hb dL_419 rfl (lv_at hl 1 rfl) ?_
  refine lv_aload_n hx hb dL_420 rfl (lv_at hl 0 rfl) ?_
  refine lv_iload hx hb dL_421 (lv_at hl 4 rfl) ?_
  refine lv_iconst (v := 1) hx hb dL_423 rfl ?_
  refine lv_iadd hx hb dL_424 ?_
  refine va_sld hx hb hX hbl hbA hS h1 dL_425 ?_
  refine lX (j := 122) (i := 44) (As := [.int (xs (i + 1).toNatClampNeg)]) (rest := []) Z (by decide) rfl lk_44 rfl h dL_426 (Nat.zero_le _) hce hsl hl.1 hL hS (fun v SX1 H1 locs1 hq hL1 hS1 => ?_)
  obtain ⟨n, rfl, hq⟩ := hq
  show W p l e room_1 s m args below meth c H1 locs1 cells slots Qs (F0 m 429 B [.int n])
  refine lv_aload_n hx hb dL_429 rfl (lv_at hl 2 rfl) ?_
  refine lv_aload_n hx hb dL_430 rfl (lv_at hl 0 rfl) ?_
  refine lv_iload hx hb dL_431 (lv_at hl 4 rfl) ?_
  refine lv_iconst (v := 1) hx hb dL_433 rfl ?_
  refine lv_iadd hx hb dL_434 ?_
  refine va_sld hx hb hX hbl hbA hS1 h1 dL_435 ?_
  refine lM (j := 52) (i := 48) (As := [.int (xs (i + 1).toNatClampNeg)]) (rest := [.int n]) Z (by decide) rfl lk_48 rfl hq dL_436 (show (1 : Nat) ≤ 8 by decide) hce hsl hl.1 hL1 hS1 (fun v SM1 H2 locs2 hq2 hL2 hS2 => ?_)
  obtain ⟨rfl, hq2⟩ := hq2
  show W p l e room_1 s m args below meth c H2 locs2 cells slots Qs (F0 m 439 B [.int n, .int n])
  refine lv_icmp_eq (tgt := 1066) hx hb dL_439 rfl (fun _ => ?_) (fun z => absurd rfl z)
  exact next SX1 SM1 hq2 B H2 locs2 hl hL2 hS2
theorem lk_49 : Cond.methodLink (aCN 12) 49 (miX 123).1 ∈ aWS := aW_t 827 (by decide +kernel) (by decide +kernel)
theorem lk_52 : Cond.methodLink (aCN 12) 52 (miM 53).1 ∈ aWS := aW_t 1665 (by decide +kernel) (by decide +kernel)
theorem law_6 {p : Program} {l : Launch} {e : Env} {s : State} {m : MethodId} {args : Array Value} {below : List Frame} {meth : Method} {c : Code} {b L : Nat} {xs : Nat → Int32} {ad : Nat → Nat} {cy : Nat → ClassId} {D : va_G} {q : Nat} {Qs : State → Prop} {cells slots : Nat} {SX SM : aS} {o : Int64} {Rel : aS → aS → Prop} (Z : lCx p s m args c b L xs ad cy D q) {i : Int32} (h1 : vp_in (i + 1) L) (h2 : vp_in (i + 2) L) (hce : cells ≤ 601024) (hsl : slots ≤ 7293034) (h : aWX dd 123 [.ref 0, .int (xs (i + 1).toNatClampNeg), .int (xs (i + 2).toNatClampNeg)] SX (fun v SX1 => ∃ n, v = .int n ∧ aWM dd 53 [.ref 1000, .int (xs (i + 1).toNatClampNeg), .int (xs (i + 2).toNatClampNeg)] SM (fun v SM1 => v = .int n ∧ Rel SX1 SM1))) (next : ∀ SX1 SM1, Rel SX1 SM1 → lG p l e s m args below meth c b ad cy D q Qs cells slots 1066 i SX1 SM1 o) : lG p l e s m args below meth c b ad cy D q Qs cells slots 444 i SX SM o := by
  obtain ⟨hx, hb, hml, hown, hts⟩ := Z.1
  have hX := Z.2.2.2.2.2.2.2.1
  have hbl := Z.2.2.2.2.2.2.2.2
  have hbA : ¬ lA s b := Nat.not_le.mpr hbl
  intro B H locs hl hL hS
  refine lv_aload_n hx hb dL_444 rfl (lv_at hl 1 rfl) ?_
  refine lv_aload_n hx hb dL_445 rfl (lv_at hl 0 rfl) ?_
  refine lv_iload hx hb dL_446 (lv_at hl 4 rfl) ?_
  refine lv_iconst (v := 1) hx hb dL_448 rfl ?_
  refine lv_iadd hx hb dL_449 ?_
  refine va_sld hx hb hX hbl hbA hS h1 dL_450 ?_
  refine lv_aload_n hx hb dL_451 rfl (lv_at hl 0 rfl) ?_
  refine lv_iload hx hb dL_452 (lv_at hl 4 rfl) ?_
  refine lv_iconst (v := 2) hx hb dL_454 rfl ?_
  refine lv_iadd hx hb dL_455 ?_
  refine va_sld hx hb hX hbl hbA hS h2 dL_456 ?_
  refine lX (j := 123) (i := 49) (As := [.int (xs (i + 1).toNatClampNeg), .int (xs (i + 2).toNatClampNeg)]) (rest := []) Z (by decide) rfl lk_49 rfl h dL_457 (Nat.zero_le _) hce hsl hl.1 hL hS (fun v SX1 H1 locs1 hq hL1 hS1 => ?_)
  obtain ⟨n, rfl, hq⟩ := hq
  show W p l e room_1 s m args below meth c H1 locs1 cells slots Qs (F0 m 460 B [.int n])
  refine lv_aload_n hx hb dL_460 rfl (lv_at hl 2 rfl) ?_
  refine lv_aload_n hx hb dL_461 rfl (lv_at hl 0 rfl) ?_
  refine lv_iload hx hb dL_462 (lv_at hl 4 rfl) ?_
  refine lv_iconst (v := 1) hx hb dL_464 rfl ?_
  refine lv_iadd hx hb dL_465 ?_
  refine va_sld hx hb hX hbl hbA hS1 h1 dL_466 ?_
  refine lv_aload_n hx hb dL_467 rfl (lv_at hl 0 rfl) ?_
  refine lv_iload hx hb dL_468 (lv_at hl 4 rfl) ?_
  refine lv_iconst (v := 2) hx hb dL_470 rfl ?_
  refine lv_iadd hx hb dL_471 ?_
  refine va_sld hx hb hX hbl hbA hS1 h2 dL_472 ?_
  refine lM (j := 53) (i := 52) (As := [.int (xs (i + 1).toNatClampNeg), .int (xs (i + 2).toNatClampNeg)]) (rest := [.int n]) Z (by decide) rfl lk_52 rfl hq dL_473 (show (1 : Nat) ≤ 8 by decide) hce hsl hl.1 hL1 hS1 (fun v SM1 H2 locs2 hq2 hL2 hS2 => ?_)
  obtain ⟨rfl, hq2⟩ := hq2
  show W p l e room_1 s m args below meth c H2 locs2 cells slots Qs (F0 m 476 B [.int n, .int n])
  refine lv_icmp_eq (tgt := 1066) hx hb dL_476 rfl (fun _ => ?_) (fun z => absurd rfl z)
  exact next SX1 SM1 hq2 B H2 locs2 hl hL2 hS2
theorem lk_53 : Cond.methodLink (aCN 12) 53 (miX 124).1 ∈ aWS := aW_t 839 (by decide +kernel) (by decide +kernel)
theorem lk_56 : Cond.methodLink (aCN 12) 56 (miM 61).1 ∈ aWS := aW_t 1669 (by decide +kernel) (by decide +kernel)
theorem law_7 {p : Program} {l : Launch} {e : Env} {s : State} {m : MethodId} {args : Array Value} {below : List Frame} {meth : Method} {c : Code} {b L : Nat} {xs : Nat → Int32} {ad : Nat → Nat} {cy : Nat → ClassId} {D : va_G} {q : Nat} {Qs : State → Prop} {cells slots : Nat} {SX SM : aS} {o : Int64} {Rel : aS → aS → Prop} (Z : lCx p s m args c b L xs ad cy D q) {i : Int32} (h1 : vp_in (i + 1) L) (hce : cells ≤ 601024) (hsl : slots ≤ 7293034) (h : aWX dd 124 [.ref 0, .int (xs (i + 1).toNatClampNeg)] SX (fun v SX1 => ∃ n, v = .int n ∧ aWM dd 61 [.ref 1000, .int (xs (i + 1).toNatClampNeg)] SM (fun v SM1 => v = .int n ∧ Rel SX1 SM1))) (next : ∀ SX1 SM1, Rel SX1 SM1 → lG p l e s m args below meth c b ad cy D q Qs cells slots 1066 i SX1 SM1 o) : lG p l e s m args below meth c b ad cy D q Qs cells slots 481 i SX SM o := by
  obtain ⟨hx, hb, hml, hown, hts⟩ := Z.1
  have hX := Z.2.2.2.2.2.2.2.1
  have hbl := Z.2.2.2.2.2.2.2.2
  have hbA : ¬ lA s b := Nat.not_le.mpr hbl
  intro B H locs hl hL hS
  refine lv_aload_n hx hb dL_481 rfl (lv_at hl 1 rfl) ?_
  refine lv_aload_n hx hb dL_482 rfl (lv_at hl 0 rfl) ?_
  refine lv_iload hx hb dL_483 (lv_at hl 4 rfl) ?_
  refine lv_iconst (v := 1) hx hb dL_485 rfl ?_
  refine lv_iadd hx hb dL_486 ?_
  refine va_sld hx hb hX hbl hbA hS h1 dL_487 ?_
  refine lX (j := 124) (i := 53) (As := [.int (xs (i + 1).toNatClampNeg)]) (rest := []) Z (by decide) rfl lk_53 rfl h dL_488 (Nat.zero_le _) hce hsl hl.1 hL hS (fun v SX1 H1 locs1 hq hL1 hS1 => ?_)
  obtain ⟨n, rfl, hq⟩ := hq
  show W p l e room_1 s m args below meth c H1 locs1 cells slots Qs (F0 m 491 B [.int n])
  refine lv_aload_n hx hb dL_491 rfl (lv_at hl 2 rfl) ?_
  refine lv_aload_n hx hb dL_492 rfl (lv_at hl 0 rfl) ?_
  refine lv_iload hx hb dL_493 (lv_at hl 4 rfl) ?_
  refine lv_iconst (v := 1) hx hb dL_495 rfl ?_
  refine lv_iadd hx hb dL_496 ?_
  refine va_sld hx hb hX hbl hbA hS1 h1 dL_497 ?_
  refine lM (j := 61) (i := 56) (As := [.int (xs (i + 1).toNatClampNeg)]) (rest := [.int n]) Z (by decide) rfl lk_56 rfl hq dL_498 (show (1 : Nat) ≤ 8 by decide) hce hsl hl.1 hL1 hS1 (fun v SM1 H2 locs2 hq2 hL2 hS2 => ?_)
  obtain ⟨rfl, hq2⟩ := hq2
  show W p l e room_1 s m args below meth c H2 locs2 cells slots Qs (F0 m 501 B [.int n, .int n])
  refine lv_icmp_eq (tgt := 1066) hx hb dL_501 rfl (fun _ => ?_) (fun z => absurd rfl z)
  exact next SX1 SM1 hq2 B H2 locs2 hl hL2 hS2
theorem lk_57 : Cond.methodLink (aCN 12) 57 (miX 125).1 ∈ aWS := aW_t 884 (by decide +kernel) (by decide +kernel)
theorem lk_60 : Cond.methodLink (aCN 12) 60 (miM 62).1 ∈ aWS := aW_t 1700 (by decide +kernel) (by decide +kernel)
theorem law_8 {p : Program} {l : Launch} {e : Env} {s : State} {m : MethodId} {args : Array Value} {below : List Frame} {meth : Method} {c : Code} {b L : Nat} {xs : Nat → Int32} {ad : Nat → Nat} {cy : Nat → ClassId} {D : va_G} {q : Nat} {Qs : State → Prop} {cells slots : Nat} {SX SM : aS} {o : Int64} {Rel : aS → aS → Prop} (Z : lCx p s m args c b L xs ad cy D q) {i : Int32}  (hce : cells ≤ 601024) (hsl : slots ≤ 7293034) (h : aWX dd 125 [.ref 0] SX (fun v SX1 => ∃ n, v = .int n ∧ aWM dd 62 [.ref 1000] SM (fun v SM1 => v = .int n ∧ Rel SX1 SM1))) (next : ∀ SX1 SM1, Rel SX1 SM1 → lG p l e s m args below meth c b ad cy D q Qs cells slots 1066 i SX1 SM1 o) : lG p l e s m args below meth c b ad cy D q Qs cells slots 506 i SX SM o := by
  obtain ⟨hx, hb, hml, hown, hts⟩ := Z.1
  have hX := Z.2.2.2.2.2.2.2.1
  have hbl := Z.2.2.2.2.2.2.2.2
  have hbA : ¬ lA s b := Nat.not_le.mpr hbl
  intro B H locs hl hL hS
  refine lv_aload_n hx hb dL_506 rfl (lv_at hl 1 rfl) ?_
  refine lX (j := 125) (i := 57) (As := []) (rest := []) Z (by decide) rfl lk_57 rfl h dL_507 (Nat.zero_le _) hce hsl hl.1 hL hS (fun v SX1 H1 locs1 hq hL1 hS1 => ?_)
  obtain ⟨n, rfl, hq⟩ := hq
  show W p l e room_1 s m args below meth c H1 locs1 cells slots Qs (F0 m 510 B [.int n])
  refine lv_aload_n hx hb dL_510 rfl (lv_at hl 2 rfl) ?_
  refine lM (j := 62) (i := 60) (As := []) (rest := [.int n]) Z (by decide) rfl lk_60 rfl hq dL_511 (show (1 : Nat) ≤ 8 by decide) hce hsl hl.1 hL1 hS1 (fun v SM1 H2 locs2 hq2 hL2 hS2 => ?_)
  obtain ⟨rfl, hq2⟩ := hq2
  show W p l e room_1 s m args below meth c H2 locs2 cells slots Qs (F0 m 514 B [.int n, .int n])
  refine lv_icmp_eq (tgt := 1066) hx hb dL_514 rfl (fun _ => ?_) (fun z => absurd rfl z)
  exact next SX1 SM1 hq2 B H2 locs2 hl hL2 hS2
theorem lk_61 : Cond.methodLink (aCN 12) 61 (miX 126).1 ∈ aWS := aW_t 896 (by decide +kernel) (by decide +kernel)
theorem lk_64 : Cond.methodLink (aCN 12) 64 (miM 63).1 ∈ aWS := aW_t 1708 (by decide +kernel) (by decide +kernel)
theorem law_9 {p : Program} {l : Launch} {e : Env} {s : State} {m : MethodId} {args : Array Value} {below : List Frame} {meth : Method} {c : Code} {b L : Nat} {xs : Nat → Int32} {ad : Nat → Nat} {cy : Nat → ClassId} {D : va_G} {q : Nat} {Qs : State → Prop} {cells slots : Nat} {SX SM : aS} {o : Int64} {Rel : aS → aS → Prop} (Z : lCx p s m args c b L xs ad cy D q) {i : Int32} (h1 : vp_in (i + 1) L) (hce : cells ≤ 601024) (hsl : slots ≤ 7293034) (h : aWX dd 126 [.ref 0, .int (xs (i + 1).toNatClampNeg)] SX (fun v SX1 => ∃ n, v = .int n ∧ aWM dd 63 [.ref 1000, .int (xs (i + 1).toNatClampNeg)] SM (fun v SM1 => v = .int n ∧ Rel SX1 SM1))) (next : ∀ SX1 SM1, Rel SX1 SM1 → lG p l e s m args below meth c b ad cy D q Qs cells slots 1066 i SX1 SM1 o) : lG p l e s m args below meth c b ad cy D q Qs cells slots 519 i SX SM o := by
  obtain ⟨hx, hb, hml, hown, hts⟩ := Z.1
  have hX := Z.2.2.2.2.2.2.2.1
  have hbl := Z.2.2.2.2.2.2.2.2
  have hbA : ¬ lA s b := Nat.not_le.mpr hbl
  intro B H locs hl hL hS
  refine lv_aload_n hx hb dL_519 rfl (lv_at hl 1 rfl) ?_
  refine lv_aload_n hx hb dL_520 rfl (lv_at hl 0 rfl) ?_
  refine lv_iload hx hb dL_521 (lv_at hl 4 rfl) ?_
  refine lv_iconst (v := 1) hx hb dL_523 rfl ?_
  refine lv_iadd hx hb dL_524 ?_
  refine va_sld hx hb hX hbl hbA hS h1 dL_525 ?_
  refine lX (j := 126) (i := 61) (As := [.int (xs (i + 1).toNatClampNeg)]) (rest := []) Z (by decide) rfl lk_61 rfl h dL_526 (Nat.zero_le _) hce hsl hl.1 hL hS (fun v SX1 H1 locs1 hq hL1 hS1 => ?_)
  obtain ⟨n, rfl, hq⟩ := hq
  show W p l e room_1 s m args below meth c H1 locs1 cells slots Qs (F0 m 529 B [.int n])
  refine lv_aload_n hx hb dL_529 rfl (lv_at hl 2 rfl) ?_
  refine lv_aload_n hx hb dL_530 rfl (lv_at hl 0 rfl) ?_
  refine lv_iload hx hb dL_531 (lv_at hl 4 rfl) ?_
  refine lv_iconst (v := 1) hx hb dL_533 rfl ?_
  refine lv_iadd hx hb dL_534 ?_
  refine va_sld hx hb hX hbl hbA hS1 h1 dL_535 ?_
  refine lM (j := 63) (i := 64) (As := [.int (xs (i + 1).toNatClampNeg)]) (rest := [.int n]) Z (by decide) rfl lk_64 rfl hq dL_536 (show (1 : Nat) ≤ 8 by decide) hce hsl hl.1 hL1 hS1 (fun v SM1 H2 locs2 hq2 hL2 hS2 => ?_)
  obtain ⟨rfl, hq2⟩ := hq2
  show W p l e room_1 s m args below meth c H2 locs2 cells slots Qs (F0 m 539 B [.int n, .int n])
  refine lv_icmp_eq (tgt := 1066) hx hb dL_539 rfl (fun _ => ?_) (fun z => absurd rfl z)
  exact next SX1 SM1 hq2 B H2 locs2 hl hL2 hS2
theorem lk_65 : Cond.methodLink (aCN 12) 65 (miX 127).1 ∈ aWS := aW_t 907 (by decide +kernel) (by decide +kernel)
theorem lk_69 : Cond.methodLink (aCN 12) 69 (miM 64).1 ∈ aWS := aW_t 1717 (by decide +kernel) (by decide +kernel)
theorem law_10 {p : Program} {l : Launch} {e : Env} {s : State} {m : MethodId} {args : Array Value} {below : List Frame} {meth : Method} {c : Code} {b L : Nat} {xs : Nat → Int32} {ad : Nat → Nat} {cy : Nat → ClassId} {D : va_G} {q : Nat} {Qs : State → Prop} {cells slots : Nat} {SX SM : aS} {o : Int64} {Rel : aS → aS → Prop} (Z : lCx p s m args c b L xs ad cy D q) {i : Int32}  (hce : cells ≤ 601024) (hsl : slots ≤ 7293034) (h : aWX dd 127 [.ref 0] SX (fun v SX1 => ∃ n, v = .int n ∧ aWM dd 64 [.ref 1000] SM (fun v SM1 => v = .int n ∧ Rel SX1 SM1))) (next : ∀ SX1 SM1, Rel SX1 SM1 → lG p l e s m args below meth c b ad cy D q Qs cells slots 1066 i SX1 SM1 o) : lG p l e s m args below meth c b ad cy D q Qs cells slots 544 i SX SM o := by
  obtain ⟨hx, hb, hml, hown, hts⟩ := Z.1
  have hX := Z.2.2.2.2.2.2.2.1
  have hbl := Z.2.2.2.2.2.2.2.2
  have hbA : ¬ lA s b := Nat.not_le.mpr hbl
  intro B H locs hl hL hS
  refine lv_aload_n hx hb dL_544 rfl (lv_at hl 1 rfl) ?_
  refine lX (j := 127) (i := 65) (As := []) (rest := []) Z (by decide) rfl lk_65 rfl h dL_545 (Nat.zero_le _) hce hsl hl.1 hL hS (fun v SX1 H1 locs1 hq hL1 hS1 => ?_)
  obtain ⟨n, rfl, hq⟩ := hq
  show W p l e room_1 s m args below meth c H1 locs1 cells slots Qs (F0 m 548 B [.int n])
  refine lv_aload_n hx hb dL_548 rfl (lv_at hl 2 rfl) ?_
  refine lM (j := 64) (i := 69) (As := []) (rest := [.int n]) Z (by decide) rfl lk_69 rfl hq dL_549 (show (1 : Nat) ≤ 8 by decide) hce hsl hl.1 hL1 hS1 (fun v SM1 H2 locs2 hq2 hL2 hS2 => ?_)
  obtain ⟨rfl, hq2⟩ := hq2
  show W p l e room_1 s m args below meth c H2 locs2 cells slots Qs (F0 m 552 B [.int n, .int n])
  refine lv_icmp_eq (tgt := 1066) hx hb dL_552 rfl (fun _ => ?_) (fun z => absurd rfl z)
  exact next SX1 SM1 hq2 B H2 locs2 hl hL2 hS2
theorem lk_70 : Cond.methodLink (aCN 12) 70 (miX 128).1 ∈ aWS := aW_t 915 (by decide +kernel) (by decide +kernel)
theorem lk_73 : Cond.methodLink (aCN 12) 73 (miM 71).1 ∈ aWS := aW_t 1721 (by decide +kernel) (by decide +kernel)
theorem law_11 {p : Program} {l : Launch} {e : Env} {s : State} {m : MethodId} {args : Array Value} {below : List Frame} {meth : Method} {c : Code} {b L : Nat} {xs : Nat → Int32} {ad : Nat → Nat} {cy : Nat → ClassId} {D : va_G} {q : Nat} {Qs : State → Prop} {cells slots : Nat} {SX SM : aS} {o : Int64} {Rel : aS → aS → Prop} (Z : lCx p s m args c b L xs ad cy D q) {i : Int32} (h1 : vp_in (i + 1) L) (hce : cells ≤ 601024) (hsl : slots ≤ 7293034) (h : aWX dd 128 [.ref 0, .int (xs (i + 1).toNatClampNeg)] SX (fun v SX1 => ∃ n, v = .int n ∧ aWM dd 71 [.ref 1000, .int (xs (i + 1).toNatClampNeg)] SM (fun v SM1 => v = .int n ∧ Rel SX1 SM1))) (next : ∀ SX1 SM1, Rel SX1 SM1 → lG p l e s m args below meth c b ad cy D q Qs cells slots 1066 i SX1 SM1 o) : lG p l e s m args below meth c b ad cy D q Qs cells slots 557 i SX SM o := by
  obtain ⟨hx, hb, hml, hown, hts⟩ := Z.1
  have hX := Z.2.2.2.2.2.2.2.1
  have hbl := Z.2.2.2.2.2.2.2.2
  have hbA : ¬ lA s b := Nat.not_le.mpr hbl
  intro B H locs hl hL hS
  refine lv_aload_n hx hb dL_557 rfl (lv_at hl 1 rfl) ?_
  refine lv_aload_n hx hb dL_558 rfl (lv_at hl 0 rfl) ?_
  refine lv_iload hx hb dL_559 (lv_at hl 4 rfl) ?_
  refine lv_iconst (v := 1) hx hb dL_561 rfl ?_
  refine lv_iadd hx hb dL_562 ?_
  refine va_sld hx hb hX hbl hbA hS h1 dL_563 ?_
  refine lX (j := 128) (i := 70) (As := [.int (xs (i + 1).toNatClampNeg)]) (rest := []) Z (by decide) rfl lk_70 rfl h dL_564 (Nat.zero_le _) hce hsl hl.1 hL hS (fun v SX1 H1 locs1 hq hL1 hS1 => ?_)
  obtain ⟨n, rfl, hq⟩ := hq
  show W p l e room_1 s m args below meth c H1 locs1 cells slots Qs (F0 m 567 B [.int n])
  refine lv_aload_n hx hb dL_567 rfl (lv_at hl 2 rfl) ?_
  refine lv_aload_n hx hb dL_568 rfl (lv_at hl 0 rfl) ?_
  refine lv_iload hx hb dL_569 (lv_at hl 4 rfl) ?_
  refine lv_iconst (v := 1) hx hb dL_571 rfl ?_
  refine lv_iadd hx hb dL_572 ?_
  refine va_sld hx hb hX hbl hbA hS1 h1 dL_573 ?_
  refine lM (j := 71) (i := 73) (As := [.int (xs (i + 1).toNatClampNeg)]) (rest := [.int n]) Z (by decide) rfl lk_73 rfl hq dL_574 (show (1 : Nat) ≤ 8 by decide) hce hsl hl.1 hL1 hS1 (fun v SM1 H2 locs2 hq2 hL2 hS2 => ?_)
  obtain ⟨rfl, hq2⟩ := hq2
  show W p l e room_1 s m args below meth c H2 locs2 cells slots Qs (F0 m 577 B [.int n, .int n])
  refine lv_icmp_eq (tgt := 1066) hx hb dL_577 rfl (fun _ => ?_) (fun z => absurd rfl z)
  exact next SX1 SM1 hq2 B H2 locs2 hl hL2 hS2
theorem lk_74 : Cond.methodLink (aCN 12) 74 (miX 129).1 ∈ aWS := aW_t 949 (by decide +kernel) (by decide +kernel)
theorem lk_77 : Cond.methodLink (aCN 12) 77 (miM 74).1 ∈ aWS := aW_t 1741 (by decide +kernel) (by decide +kernel)
theorem law_12 {p : Program} {l : Launch} {e : Env} {s : State} {m : MethodId} {args : Array Value} {below : List Frame} {meth : Method} {c : Code} {b L : Nat} {xs : Nat → Int32} {ad : Nat → Nat} {cy : Nat → ClassId} {D : va_G} {q : Nat} {Qs : State → Prop} {cells slots : Nat} {SX SM : aS} {o : Int64} {Rel : aS → aS → Prop} (Z : lCx p s m args c b L xs ad cy D q) {i : Int32} (h1 : vp_in (i + 1) L) (hce : cells ≤ 601024) (hsl : slots ≤ 7293034) (h : aWX dd 129 [.ref 0, .int (xs (i + 1).toNatClampNeg)] SX (fun v SX1 => ∃ n, v = .int n ∧ aWM dd 74 [.ref 1000, .int (xs (i + 1).toNatClampNeg)] SM (fun v SM1 => v = .int n ∧ Rel SX1 SM1))) (next : ∀ SX1 SM1, Rel SX1 SM1 → lG p l e s m args below meth c b ad cy D q Qs cells slots 1066 i SX1 SM1 o) : lG p l e s m args below meth c b ad cy D q Qs cells slots 582 i SX SM o := by
  obtain ⟨hx, hb, hml, hown, hts⟩ := Z.1
  have hX := Z.2.2.2.2.2.2.2.1
  have hbl := Z.2.2.2.2.2.2.2.2
  have hbA : ¬ lA s b := Nat.not_le.mpr hbl
  intro B H locs hl hL hS
  refine lv_aload_n hx hb dL_582 rfl (lv_at hl 1 rfl) ?_
  refine lv_aload_n hx hb dL_583 rfl (lv_at hl 0 rfl) ?_
  refine lv_iload hx hb dL_584 (lv_at hl 4 rfl) ?_
  refine lv_iconst (v := 1) hx hb dL_586 rfl ?_
  refine lv_iadd hx hb dL_587 ?_
  refine va_sld hx hb hX hbl hbA hS h1 dL_588 ?_
  refine lX (j := 129) (i := 74) (As := [.int (xs (i + 1).toNatClampNeg)]) (rest := []) Z (by decide) rfl lk_74 rfl h dL_589 (Nat.zero_le _) hce hsl hl.1 hL hS (fun v SX1 H1 locs1 hq hL1 hS1 => ?_)
  obtain ⟨n, rfl, hq⟩ := hq
  show W p l e room_1 s m args below meth c H1 locs1 cells slots Qs (F0 m 592 B [.int n])
  refine lv_aload_n hx hb dL_592 rfl (lv_at hl 2 rfl) ?_
  refine lv_aload_n hx hb dL_593 rfl (lv_at hl 0 rfl) ?_
  refine lv_iload hx hb dL_594 (lv_at hl 4 rfl) ?_
  refine lv_iconst (v := 1) hx hb dL_596 rfl ?_
  refine lv_iadd hx hb dL_597 ?_
  refine va_sld hx hb hX hbl hbA hS1 h1 dL_598 ?_
  refine lM (j := 74) (i := 77) (As := [.int (xs (i + 1).toNatClampNeg)]) (rest := [.int n]) Z (by decide) rfl lk_77 rfl hq dL_599 (show (1 : Nat) ≤ 8 by decide) hce hsl hl.1 hL1 hS1 (fun v SM1 H2 locs2 hq2 hL2 hS2 => ?_)
  obtain ⟨rfl, hq2⟩ := hq2
  show W p l e room_1 s m args below meth c H2 locs2 cells slots Qs (F0 m 602 B [.int n, .int n])
  refine lv_icmp_eq (tgt := 1066) hx hb dL_602 rfl (fun _ => ?_) (fun z => absurd rfl z)
  exact next SX1 SM1 hq2 B H2 locs2 hl hL2 hS2
theorem lk_78 : Cond.methodLink (aCN 12) 78 (miX 130).1 ∈ aWS := aW_t 984 (by decide +kernel) (by decide +kernel)
theorem lk_81 : Cond.methodLink (aCN 12) 81 (miM 78).1 ∈ aWS := aW_t 1761 (by decide +kernel) (by decide +kernel)
theorem law_13 {p : Program} {l : Launch} {e : Env} {s : State} {m : MethodId} {args : Array Value} {below : List Frame} {meth : Method} {c : Code} {b L : Nat} {xs : Nat → Int32} {ad : Nat → Nat} {cy : Nat → ClassId} {D : va_G} {q : Nat} {Qs : State → Prop} {cells slots : Nat} {SX SM : aS} {o : Int64} {Rel : aS → aS → Prop} (Z : lCx p s m args c b L xs ad cy D q) {i : Int32} (h1 : vp_in (i + 1) L) (hce : cells ≤ 601024) (hsl : slots ≤ 7293034) (h : aWX dd 130 [.ref 0, .int (xs (i + 1).toNatClampNeg)] SX (fun v SX1 => ∃ n, v = .int n ∧ aWM dd 78 [.ref 1000, .int (xs (i + 1).toNatClampNeg)] SM (fun v SM1 => v = .int n ∧ Rel SX1 SM1))) (next : ∀ SX1 SM1, Rel SX1 SM1 → lG p l e s m args below meth c b ad cy D q Qs cells slots 1066 i SX1 SM1 o) : lG p l e s m args below meth c b ad cy D q Qs cells slots 607 i SX SM o := by
  obtain ⟨hx, hb, hml, hown, hts⟩ := Z.1
  have hX := Z.2.2.2.2.2.2.2.1
  have hbl := Z.2.2.2.2.2.2.2.2
  have hbA : ¬ lA s b := Nat.not_le.mpr hbl
  intro B H locs hl hL hS
  refine lv_aload_n hx hb dL_607 rfl (lv_at hl 1 rfl) ?_
  refine lv_aload_n hx hb dL_608 rfl (lv_at hl 0 rfl) ?_
  refine lv_iload hx hb dL_609 (lv_at hl 4 rfl) ?_
  refine lv_iconst (v := 1) hx hb dL_611 rfl ?_
  refine lv_iadd hx hb dL_612 ?_
  refine va_sld hx hb hX hbl hbA hS h1 dL_613 ?_
  refine lX (j := 130) (i := 78) (As := [.int (xs (i + 1).toNatClampNeg)]) (rest := []) Z (by decide) rfl lk_78 rfl h dL_614 (Nat.zero_le _) hce hsl hl.1 hL hS (fun v SX1 H1 locs1 hq hL1 hS1 => ?_)
  obtain ⟨n, rfl, hq⟩ := hq
  show W p l e room_1 s m args below meth c H1 locs1 cells slots Qs (F0 m 617 B [.int n])
  refine lv_aload_n hx hb dL_617 rfl (lv_at hl 2 rfl) ?_
  refine lv_aload_n hx hb dL_618 rfl (lv_at hl 0 rfl) ?_
  refine lv_iload hx hb dL_619 (lv_at hl 4 rfl) ?_
  refine lv_iconst (v := 1) hx hb dL_621 rfl ?_
  refine lv_iadd hx hb dL_622 ?_
  refine va_sld hx hb hX hbl hbA hS1 h1 dL_623 ?_
  refine lM (j := 78) (i := 81) (As := [.int (xs (i + 1).toNatClampNeg)]) (rest := [.int n]) Z (by decide) rfl lk_81 rfl hq dL_624 (show (1 : Nat) ≤ 8 by decide) hce hsl hl.1 hL1 hS1 (fun v SM1 H2 locs2 hq2 hL2 hS2 => ?_)
  obtain ⟨rfl, hq2⟩ := hq2
  show W p l e room_1 s m args below meth c H2 locs2 cells slots Qs (F0 m 627 B [.int n, .int n])
  refine lv_icmp_eq (tgt := 1066) hx hb dL_627 rfl (fun _ => ?_) (fun z => absurd rfl z)
  exact next SX1 SM1 hq2 B H2 locs2 hl hL2 hS2
theorem lk_82 : Cond.methodLink (aCN 12) 82 (miX 131).1 ∈ aWS := aW_t 1018 (by decide +kernel) (by decide +kernel)
theorem lk_85 : Cond.methodLink (aCN 12) 85 (miM 79).1 ∈ aWS := aW_t 1777 (by decide +kernel) (by decide +kernel)
theorem law_14 {p : Program} {l : Launch} {e : Env} {s : State} {m : MethodId} {args : Array Value} {below : List Frame} {meth : Method} {c : Code} {b L : Nat} {xs : Nat → Int32} {ad : Nat → Nat} {cy : Nat → ClassId} {D : va_G} {q : Nat} {Qs : State → Prop} {cells slots : Nat} {SX SM : aS} {o : Int64} {Rel : aS → aS → Prop} (Z : lCx p s m args c b L xs ad cy D q) {i : Int32}  (hce : cells ≤ 601024) (hsl : slots ≤ 7293034) (h : aWX dd 131 [.ref 0] SX (fun v SX1 => ∃ n, v = .int n ∧ aWM dd 79 [.ref 1000] SM (fun v SM1 => v = .int n ∧ Rel SX1 SM1))) (next : ∀ SX1 SM1, Rel SX1 SM1 → lG p l e s m args below meth c b ad cy D q Qs cells slots 1066 i SX1 SM1 o) : lG p l e s m args below meth c b ad cy D q Qs cells slots 632 i SX SM o := by
  obtain ⟨hx, hb, hml, hown, hts⟩ := Z.1
  have hX := Z.2.2.2.2.2.2.2.1
  have hbl := Z.2.2.2.2.2.2.2.2
  have hbA : ¬ lA s b := Nat.not_le.mpr hbl
  intro B H locs hl hL hS
  refine lv_aload_n hx hb dL_632 rfl (lv_at hl 1 rfl) ?_
  refine lX (j := 131) (i := 82) (As := []) (rest := []) Z (by decide) rfl lk_82 rfl h dL_633 (Nat.zero_le _) hce hsl hl.1 hL hS (fun v SX1 H1 locs1 hq hL1 hS1 => ?_)
  obtain ⟨n, rfl, hq⟩ := hq
  show W p l e room_1 s m args below meth c H1 locs1 cells slots Qs (F0 m 636 B [.int n])
  refine lv_aload_n hx hb dL_636 rfl (lv_at hl 2 rfl) ?_
  refine lM (j := 79) (i := 85) (As := []) (rest := [.int n]) Z (by decide) rfl lk_85 rfl hq dL_637 (show (1 : Nat) ≤ 8 by decide) hce hsl hl.1 hL1 hS1 (fun v SM1 H2 locs2 hq2 hL2 hS2 => ?_)
  obtain ⟨rfl, hq2⟩ := hq2
  show W p l e room_1 s m args below meth c H2 locs2 cells slots Qs (F0 m 640 B [.int n, .int n])
  refine lv_icmp_eq (tgt := 1066) hx hb dL_640 rfl (fun _ => ?_) (fun z => absurd rfl z)
  exact next SX1 SM1 hq2 B H2 locs2 hl hL2 hS2
theorem lk_86 : Cond.methodLink (aCN 12) 86 (miX 132).1 ∈ aWS := aW_t 1023 (by decide +kernel) (by decide +kernel)
theorem lk_89 : Cond.methodLink (aCN 12) 89 (miM 80).1 ∈ aWS := aW_t 1781 (by decide +kernel) (by decide +kernel)
theorem law_15 {p : Program} {l : Launch} {e : Env} {s : State} {m : MethodId} {args : Array Value} {below : List Frame} {meth : Method} {c : Code} {b L : Nat} {xs : Nat → Int32} {ad : Nat → Nat} {cy : Nat → ClassId} {D : va_G} {q : Nat} {Qs : State → Prop} {cells slots : Nat} {SX SM : aS} {o : Int64} {Rel : aS → aS → Prop} (Z : lCx p s m args c b L xs ad cy D q) {i : Int32}  (hce : cells ≤ 601024) (hsl : slots ≤ 7293034) (h : aWX dd 132 [.ref 0] SX (fun v SX1 => ∃ n, v = .int n ∧ aWM dd 80 [.ref 1000] SM (fun v SM1 => v = .int n ∧ Rel SX1 SM1))) (next : ∀ SX1 SM1, Rel SX1 SM1 → lG p l e s m args below meth c b ad cy D q Qs cells slots 1066 i SX1 SM1 o) : lG p l e s m args below meth c b ad cy D q Qs cells slots 645 i SX SM o := by
  obtain ⟨hx, hb, hml, hown, hts⟩ := Z.1
  have hX := Z.2.2.2.2.2.2.2.1
  have hbl := Z.2.2.2.2.2.2.2.2
  have hbA : ¬ lA s b := Nat.not_le.mpr hbl
  intro B H locs hl hL hS
  refine lv_aload_n hx hb dL_645 rfl (lv_at hl 1 rfl) ?_
  refine lX (j := 132) (i := 86) (As := []) (rest := []) Z (by decide) rfl lk_86 rfl h dL_646 (Nat.zero_le _) hce hsl hl.1 hL hS (fun v SX1 H1 locs1 hq hL1 hS1 => ?_)
  obtain ⟨n, rfl, hq⟩ := hq
  show W p l e room_1 s m args below meth c H1 locs1 cells slots Qs (F0 m 649 B [.int n])
  refine lv_aload_n hx hb dL_649 rfl (lv_at hl 2 rfl) ?_
  refine lM (j := 80) (i := 89) (As := []) (rest := [.int n]) Z (by decide) rfl lk_89 rfl hq dL_650 (show (1 : Nat) ≤ 8 by decide) hce hsl hl.1 hL1 hS1 (fun v SM1 H2 locs2 hq2 hL2 hS2 => ?_)
  obtain ⟨rfl, hq2⟩ := hq2
  show W p l e room_1 s m args below meth c H2 locs2 cells slots Qs (F0 m 653 B [.int n, .int n])
  refine lv_icmp_eq (tgt := 1066) hx hb dL_653 rfl (fun _ => ?_) (fun z => absurd rfl z)
  exact next SX1 SM1 hq2 B H2 locs2 hl hL2 hS2
theorem lk_90 : Cond.methodLink (aCN 12) 90 (miX 133).1 ∈ aWS := aW_t 1028 (by decide +kernel) (by decide +kernel)
theorem lk_93 : Cond.methodLink (aCN 12) 93 (miM 85).1 ∈ aWS := aW_t 1786 (by decide +kernel) (by decide +kernel)
theorem law_16 {p : Program} {l : Launch} {e : Env} {s : State} {m : MethodId} {args : Array Value} {below : List Frame} {meth : Method} {c : Code} {b L : Nat} {xs : Nat → Int32} {ad : Nat → Nat} {cy : Nat → ClassId} {D : va_G} {q : Nat} {Qs : State → Prop} {cells slots : Nat} {SX SM : aS} {o : Int64} {Rel : aS → aS → Prop} (Z : lCx p s m args c b L xs ad cy D q) {i : Int32} (h1 : vp_in (i + 1) L) (h2 : vp_in (i + 2) L) (hce : cells ≤ 601024) (hsl : slots ≤ 7293034) (h : aWX dd 133 [.ref 0, .int (xs (i + 1).toNatClampNeg), .int (xs (i + 2).toNatClampNeg)] SX (fun v SX1 => ∃ n, v = .int n ∧ aWM dd 85 [.ref 1000, .int (xs (i + 1).toNatClampNeg), .int (xs (i + 2).toNatClampNeg)] SM (fun v SM1 => v = .int n ∧ Rel SX1 SM1))) (next : ∀ SX1 SM1, Rel SX1 SM1 → lG p l e s m args below meth c b ad cy D q Qs cells slots 1066 i SX1 SM1 o) : lG p l e s m args below meth c b ad cy D q Qs cells slots 658 i SX SM o := by
  obtain ⟨hx, hb, hml, hown, hts⟩ := Z.1
  have hX := Z.2.2.2.2.2.2.2.1
  have hbl := Z.2.2.2.2.2.2.2.2
  have hbA : ¬ lA s b := Nat.not_le.mpr hbl
  intro B H locs hl hL hS
  refine lv_aload_n hx hb dL_658 rfl (lv_at hl 1 rfl) ?_
  refine lv_aload_n hx hb dL_659 rfl (lv_at hl 0 rfl) ?_
  refine lv_iload hx hb dL_660 (lv_at hl 4 rfl) ?_
  refine lv_iconst (v := 1) hx hb dL_662 rfl ?_
  refine lv_iadd hx hb dL_663 ?_
  refine va_sld hx hb hX hbl hbA hS h1 dL_664 ?_
  refine lv_aload_n hx hb dL_665 rfl (lv_at hl 0 rfl) ?_
  refine lv_iload hx hb dL_666 (lv_at hl 4 rfl) ?_
  refine lv_iconst (v := 2) hx hb dL_668 rfl ?_
  refine lv_iadd hx hb dL_669 ?_
  refine va_sld hx hb hX hbl hbA hS h2 dL_670 ?_
  refine lX (j := 133) (i := 90) (As := [.int (xs (i + 1).toNatClampNeg), .int (xs (i + 2).toNatClampNeg)]) (rest := []) Z (by decide) rfl lk_90 rfl h dL_671 (Nat.zero_le _) hce hsl hl.1 hL hS (fun v SX1 H1 locs1 hq hL1 hS1 => ?_)
  obtain ⟨n, rfl, hq⟩ := hq
  show W p l e room_1 s m args below meth c H1 locs1 cells slots Qs (F0 m 674 B [.int n])
  refine lv_aload_n hx hb dL_674 rfl (lv_at hl 2 rfl) ?_
  refine lv_aload_n hx hb dL_675 rfl (lv_at hl 0 rfl) ?_
  refine lv_iload hx hb dL_676 (lv_at hl 4 rfl) ?_
  refine lv_iconst (v := 1) hx hb dL_678 rfl ?_
  refine lv_iadd hx hb dL_679 ?_
  refine va_sld hx hb hX hbl hbA hS1 h1 dL_680 ?_
  refine lv_aload_n hx hb dL_681 rfl (lv_at hl 0 rfl) ?_
  refine lv_iload hx hb dL_682 (lv_at hl 4 rfl) ?_
  refine lv_iconst (v := 2) hx hb dL_684 rfl ?_
  refine lv_iadd hx hb dL_685 ?_
  refine va_sld hx hb hX hbl hbA hS1 h2 dL_686 ?_
  refine lM (j := 85) (i := 93) (As := [.int (xs (i + 1).toNatClampNeg), .int (xs (i + 2).toNatClampNeg)]) (rest := [.int n]) Z (by decide) rfl lk_93 rfl hq dL_687 (show (1 : Nat) ≤ 8 by decide) hce hsl hl.1 hL1 hS1 (fun v SM1 H2 locs2 hq2 hL2 hS2 => ?_)
  obtain ⟨rfl, hq2⟩ := hq2
  show W p l e room_1 s m args below meth c H2 locs2 cells slots Qs (F0 m 690 B [.int n, .int n])
  refine lv_icmp_eq (tgt := 1066) hx hb dL_690 rfl (fun _ => ?_) (fun z => absurd rfl z)
  exact next SX1 SM1 hq2 B H2 locs2 hl hL2 hS2
theorem lk_94 : Cond.methodLink (aCN 12) 94 (miX 134).1 ∈ aWS := aW_t 1057 (by decide +kernel) (by decide +kernel)
theorem lk_98 : Cond.methodLink (aCN 12) 98 (miM 86).1 ∈ aWS := aW_t 1807 (by decide +kernel) (by decide +kernel)
theorem law_17 {p : Program} {l : Launch} {e : Env} {s : State} {m : MethodId} {args : Array Value} {below : List Frame} {meth : Method} {c : Code} {b L : Nat} {xs : Nat → Int32} {ad : Nat → Nat} {cy : Nat → ClassId} {D : va_G} {q : Nat} {Qs : State → Prop} {cells slots : Nat} {SX SM : aS} {o : Int64} {Rel : aS → aS → Prop} (Z : lCx p s m args c b L xs ad cy D q) {i : Int32} (h1 : vp_in (i + 1) L) (h2 : vp_in (i + 2) L) (h3 : vp_in (i + 3) L) (hce : cells ≤ 601024) (hsl : slots ≤ 7293034) (h : aWX dd 134 [.ref 0, .int (xs (i + 1).toNatClampNeg), .int (xs (i + 2).toNatClampNeg), .int (xs (i + 3).toNatClampNeg)] SX (fun v SX1 => ∃ n, v = .int n ∧ aWM dd 86 [.ref 1000, .int (xs (i + 1).toNatClampNeg), .int (xs (i + 2).toNatClampNeg), .int (xs (i + 3).toNatClampNeg)] SM (fun v SM1 => v = .int n ∧ Rel SX1 SM1))) (next : ∀ SX1 SM1, Rel SX1 SM1 → lG p l e s m args below meth c b ad cy D q Qs cells slots 1066 i SX1 SM1 o) : lG p l e s m args below meth c b ad cy D q Qs cells slots 695 i SX SM o := by
  obtain ⟨hx, hb, hml, hown, hts⟩ := Z.1
  have hX := Z.2.2.2.2.2.2.2.1
  have hbl := Z.2.2.2.2.2.2.2.2
  have hbA : ¬ lA s b := Nat.not_le.mpr hbl
  intro B H locs hl hL hS
  refine lv_aload_n hx hb dL_695 rfl (lv_at hl 1 rfl) ?_
  refine lv_aload_n hx hb dL_696 rfl (lv_at hl 0 rfl) ?_
  refine lv_iload hx hb dL_697 (lv_at hl 4 rfl) ?_
  refine lv_iconst (v := 1) hx hb dL_699 rfl ?_
  refine lv_iadd hx hb dL_700 ?_
  refine va_sld hx hb hX hbl hbA hS h1 dL_701 ?_
  refine lv_aload_n hx hb dL_702 rfl (lv_at hl 0 rfl) ?_
  refine lv_iload hx hb dL_703 (lv_at hl 4 rfl) ?_
  refine lv_iconst (v := 2) hx hb dL_705 rfl ?_
  refine lv_iadd hx hb dL_706 ?_
  refine va_sld hx hb hX hbl hbA hS h2 dL_707 ?_
  refine lv_aload_n hx hb dL_708 rfl (lv_at hl 0 rfl) ?_
  refine lv_iload hx hb dL_709 (lv_at hl 4 rfl) ?_
  refine lv_iconst (v := 3) hx hb dL_711 rfl ?_
  refine lv_iadd hx hb dL_712 ?_
  refine va_sld hx hb hX hbl hbA hS h3 dL_713 ?_
  refine lX (j := 134) (i := 94) (As := [.int (xs (i + 1).toNatClampNeg), .int (xs (i + 2).toNatClampNeg), .int (xs (i + 3).toNatClampNeg)]) (rest := []) Z (by decide) rfl lk_94 rfl h dL_714 (Nat.zero_le _) hce hsl hl.1 hL hS (fun v SX1 H1 locs1 hq hL1 hS1 => ?_)
  obtain ⟨n, rfl, hq⟩ := hq
  show W p l e room_1 s m args below meth c H1 locs1 cells slots Qs (F0 m 717 B [.int n])
  refine lv_aload_n hx hb dL_717 rfl (lv_at hl 2 rfl) ?_
  refine lv_aload_n hx hb dL_718 rfl (lv_at hl 0 rfl) ?_
  refine lv_iload hx hb dL_719 (lv_at hl 4 rfl) ?_
  refine lv_iconst (v := 1) hx hb dL_721 rfl ?_
  refine lv_iadd hx hb dL_722 ?_
  refine va_sld hx hb hX hbl hbA hS1 h1 dL_723 ?_
  refine lv_aload_n hx hb dL_724 rfl (lv_at hl 0 rfl) ?_
  refine lv_iload hx hb dL_725 (lv_at hl 4 rfl) ?_
  refine lv_iconst (v := 2) hx hb dL_727 rfl ?_
  refine lv_iadd hx hb dL_728 ?_
  refine va_sld hx hb hX hbl hbA hS1 h2 dL_729 ?_
  refine lv_aload_n hx hb dL_730 rfl (lv_at hl 0 rfl) ?_
  refine lv_iload hx hb dL_731 (lv_at hl 4 rfl) ?_
  refine lv_iconst (v := 3) hx hb dL_733 rfl ?_
  refine lv_iadd hx hb dL_734 ?_
  refine va_sld hx hb hX hbl hbA hS1 h3 dL_735 ?_
  refine lM (j := 86) (i := 98) (As := [.int (xs (i + 1).toNatClampNeg), .int (xs (i + 2).toNatClampNeg), .int (xs (i + 3).toNatClampNeg)]) (rest := [.int n]) Z (by decide) rfl lk_98 rfl hq dL_736 (show (1 : Nat) ≤ 8 by decide) hce hsl hl.1 hL1 hS1 (fun v SM1 H2 locs2 hq2 hL2 hS2 => ?_)
  obtain ⟨rfl, hq2⟩ := hq2
  show W p l e room_1 s m args below meth c H2 locs2 cells slots Qs (F0 m 739 B [.int n, .int n])
  refine lv_icmp_eq (tgt := 1066) hx hb dL_739 rfl (fun _ => ?_) (fun z => absurd rfl z)
  exact next SX1 SM1 hq2 B H2 locs2 hl hL2 hS2
theorem lk_99 : Cond.methodLink (aCN 12) 99 (miX 136).1 ∈ aWS := aW_t 1084 (by decide +kernel) (by decide +kernel)
theorem lk_102 : Cond.methodLink (aCN 12) 102 (miM 87).1 ∈ aWS := aW_t 1811 (by decide +kernel) (by decide +kernel)
theorem law_18 {p : Program} {l : Launch} {e : Env} {s : State} {m : MethodId} {args : Array Value} {below : List Frame} {meth : Method} {c : Code} {b L : Nat} {xs : Nat → Int32} {ad : Nat → Nat} {cy : Nat → ClassId} {D : va_G} {q : Nat} {Qs : State → Prop} {cells slots : Nat} {SX SM : aS} {o : Int64} {Rel : aS → aS → Prop} (Z : lCx p s m args c b L xs ad cy D q) {i : Int32}  (hce : cells ≤ 601024) (hsl : slots ≤ 7293034) (h : aWX dd 136 [.ref 0] SX (fun v SX1 => ∃ n, v = .int n ∧ aWM dd 87 [.ref 1000] SM (fun v SM1 => v = .int n ∧ Rel SX1 SM1))) (next : ∀ SX1 SM1, Rel SX1 SM1 → lG p l e s m args below meth c b ad cy D q Qs cells slots 1066 i SX1 SM1 o) : lG p l e s m args below meth c b ad cy D q Qs cells slots 744 i SX SM o := by
  obtain ⟨hx, hb, hml, hown, hts⟩ := Z.1
  have hX := Z.2.2.2.2.2.2.2.1
  have hbl := Z.2.2.2.2.2.2.2.2
  have hbA : ¬ lA s b := Nat.not_le.mpr hbl
  intro B H locs hl hL hS
  refine lv_aload_n hx hb dL_744 rfl (lv_at hl 1 rfl) ?_
  refine lX (j := 136) (i := 99) (As := []) (rest := []) Z (by decide) rfl lk_99 rfl h dL_745 (Nat.zero_le _) hce hsl hl.1 hL hS (fun v SX1 H1 locs1 hq hL1 hS1 => ?_)
  obtain ⟨n, rfl, hq⟩ := hq
  show W p l e room_1 s m args below meth c H1 locs1 cells slots Qs (F0 m 748 B [.int n])
  refine lv_aload_n hx hb dL_748 rfl (lv_at hl 2 rfl) ?_
  refine lM (j := 87) (i := 102) (As := []) (rest := [.int n]) Z (by decide) rfl lk_102 rfl hq dL_749 (show (1 : Nat) ≤ 8 by decide) hce hsl hl.1 hL1 hS1 (fun v SM1 H2 locs2 hq2 hL2 hS2 => ?_)
  obtain ⟨rfl, hq2⟩ := hq2
  show W p l e room_1 s m args below meth c H2 locs2 cells slots Qs (F0 m 752 B [.int n, .int n])
  refine lv_icmp_eq (tgt := 1066) hx hb dL_752 rfl (fun _ => ?_) (fun z => absurd rfl z)
  exact next SX1 SM1 hq2 B H2 locs2 hl hL2 hS2
theorem lk_103 : Cond.methodLink (aCN 12) 103 (miX 137).1 ∈ aWS := aW_t 1093 (by decide +kernel) (by decide +kernel)
theorem lk_106 : Cond.methodLink (aCN 12) 106 (miM 88).1 ∈ aWS := aW_t 1823 (by decide +kernel) (by decide +kernel)
theorem law_19 {p : Program} {l : Launch} {e : Env} {s : State} {m : MethodId} {args : Array Value} {below : List Frame} {meth : Method} {c : Code} {b L : Nat} {xs : Nat → Int32} {ad : Nat → Nat} {cy : Nat → ClassId} {D : va_G} {q : Nat} {Qs : State → Prop} {cells slots : Nat} {SX SM : aS} {o : Int64} {Rel : aS → aS → Prop} (Z : lCx p s m args c b L xs ad cy D q) {i : Int32}  (hce : cells ≤ 601024) (hsl : slots ≤ 7293034) (h : aWX dd 137 [.ref 0] SX (fun v SX1 => ∃ n, v = .int n ∧ aWM dd 88 [.ref 1000] SM (fun v SM1 => v = .int n ∧ Rel SX1 SM1))) (next : ∀ SX1 SM1, Rel SX1 SM1 → lG p l e s m args below meth c b ad cy D q Qs cells slots 1066 i SX1 SM1 o) : lG p l e s m args below meth c b ad cy D q Qs cells slots 757 i SX SM o := by
  obtain ⟨hx, hb, hml, hown, hts⟩ := Z.1
  have hX := Z.2.2.2.2.2.2.2.1
  have hbl := Z.2.2.2.2.2.2.2.2
  have hbA : ¬ lA s b := Nat.not_le.mpr hbl
  intro B H locs hl hL hS
  refine lv_aload_n hx hb dL_757 rfl (lv_at hl 1 rfl) ?_
  refine lX (j := 137) (i := 103) (As := []) (rest := []) Z (by decide) rfl lk_103 rfl h dL_758 (Nat.zero_le _) hce hsl hl.1 hL hS (fun v SX1 H1 locs1 hq hL1 hS1 => ?_)
  obtain ⟨n, rfl, hq⟩ := hq
  show W p l e room_1 s m args below meth c H1 locs1 cells slots Qs (F0 m 761 B [.int n])
  refine lv_aload_n hx hb dL_761 rfl (lv_at hl 2 rfl) ?_
  refine lM (j := 88) (i := 106) (As := []) (rest := [.int n]) Z (by decide) rfl lk_106 rfl hq dL_762 (show (1 : Nat) ≤ 8 by decide) hce hsl hl.1 hL1 hS1 (fun v SM1 H2 locs2 hq2 hL2 hS2 => ?_)
  obtain ⟨rfl, hq2⟩ := hq2
  show W p l e room_1 s m args below meth c H2 locs2 cells slots Qs (F0 m 765 B [.int n, .int n])
  refine lv_icmp_eq (tgt := 1066) hx hb dL_765 rfl (fun _ => ?_) (fun z => absurd rfl z)
  exact next SX1 SM1 hq2 B H2 locs2 hl hL2 hS2
theorem lk_107 : Cond.methodLink (aCN 12) 107 (miX 139).1 ∈ aWS := aW_t 1103 (by decide +kernel) (by decide +kernel)
theorem lk_111 : Cond.methodLink (aCN 12) 111 (miM 89).1 ∈ aWS := aW_t 1827 (by decide +kernel) (by decide +kernel)
theorem law_20 {p : Program} {l : Launch} {e : Env} {s : State} {m : MethodId} {args : Array Value} {below : List Frame} {meth : Method} {c : Code} {b L : Nat} {xs : Nat → Int32} {ad : Nat → Nat} {cy : Nat → ClassId} {D : va_G} {q : Nat} {Qs : State → Prop} {cells slots : Nat} {SX SM : aS} {o : Int64} {Rel : aS → aS → Prop} (Z : lCx p s m args c b L xs ad cy D q) {i : Int32} (h1 : vp_in (i + 1) L) (hce : cells ≤ 601024) (hsl : slots ≤ 7293034) (h : aWX dd 139 [.ref 0, .int (xs (i + 1).toNatClampNeg)] SX (fun v SX1 => ∃ n, v = .int n ∧ aWM dd 89 [.ref 1000, .int (xs (i + 1).toNatClampNeg)] SM (fun v SM1 => v = .int n ∧ Rel SX1 SM1))) (next : ∀ SX1 SM1, Rel SX1 SM1 → lG p l e s m args below meth c b ad cy D q Qs cells slots 1066 i SX1 SM1 o) : lG p l e s m args below meth c b ad cy D q Qs cells slots 770 i SX SM o := by
  obtain ⟨hx, hb, hml, hown, hts⟩ := Z.1
  have hX := Z.2.2.2.2.2.2.2.1
  have hbl := Z.2.2.2.2.2.2.2.2
  have hbA : ¬ lA s b := Nat.not_le.mpr hbl
  intro B H locs hl hL hS
  refine lv_aload_n hx hb dL_770 rfl (lv_at hl 1 rfl) ?_
  refine lv_aload_n hx hb dL_771 rfl (lv_at hl 0 rfl) ?_
  refine lv_iload hx hb dL_772 (lv_at hl 4 rfl) ?_
  refine lv_iconst (v := 1) hx hb dL_774 rfl ?_
  refine lv_iadd hx hb dL_775 ?_
  refine va_sld hx hb hX hbl hbA hS h1 dL_776 ?_
  refine lX (j := 139) (i := 107) (As := [.int (xs (i + 1).toNatClampNeg)]) (rest := []) Z (by decide) rfl lk_107 rfl h dL_777 (Nat.zero_le _) hce hsl hl.1 hL hS (fun v SX1 H1 locs1 hq hL1 hS1 => ?_)
  obtain ⟨n, rfl, hq⟩ := hq
  show W p l e room_1 s m args below meth c H1 locs1 cells slots Qs (F0 m 780 B [.int n])
  refine lv_aload_n hx hb dL_780 rfl (lv_at hl 2 rfl) ?_
  refine lv_aload_n hx hb dL_781 rfl (lv_at hl 0 rfl) ?_
  refine lv_iload hx hb dL_782 (lv_at hl 4 rfl) ?_
  refine lv_iconst (v := 1) hx hb dL_784 rfl ?_
  refine lv_iadd hx hb dL_785 ?_
  refine va_sld hx hb hX hbl hbA hS1 h1 dL_786 ?_
  refine lM (j := 89) (i := 111) (As := [.int (xs (i + 1).toNatClampNeg)]) (rest := [.int n]) Z (by decide) rfl lk_111 rfl hq dL_787 (show (1 : Nat) ≤ 8 by decide) hce hsl hl.1 hL1 hS1 (fun v SM1 H2 locs2 hq2 hL2 hS2 => ?_)
  obtain ⟨rfl, hq2⟩ := hq2
  show W p l e room_1 s m args below meth c H2 locs2 cells slots Qs (F0 m 790 B [.int n, .int n])
  refine lv_icmp_eq (tgt := 1066) hx hb dL_790 rfl (fun _ => ?_) (fun z => absurd rfl z)
  exact next SX1 SM1 hq2 B H2 locs2 hl hL2 hS2
theorem lk_112 : Cond.methodLink (aCN 12) 112 (miX 140).1 ∈ aWS := aW_t 1107 (by decide +kernel) (by decide +kernel)
theorem lk_115 : Cond.methodLink (aCN 12) 115 (miM 92).1 ∈ aWS := aW_t 1831 (by decide +kernel) (by decide +kernel)
theorem law_21 {p : Program} {l : Launch} {e : Env} {s : State} {m : MethodId} {args : Array Value} {below : List Frame} {meth : Method} {c : Code} {b L : Nat} {xs : Nat → Int32} {ad : Nat → Nat} {cy : Nat → ClassId} {D : va_G} {q : Nat} {Qs : State → Prop} {cells slots : Nat} {SX SM : aS} {o : Int64} {Rel : aS → aS → Prop} (Z : lCx p s m args c b L xs ad cy D q) {i : Int32}  (hce : cells ≤ 601024) (hsl : slots ≤ 7293034) (h : aWX dd 140 [.ref 0] SX (fun v SX1 => ∃ n, v = .int n ∧ aWM dd 92 [.ref 1000] SM (fun v SM1 => v = .int n ∧ Rel SX1 SM1))) (next : ∀ SX1 SM1, Rel SX1 SM1 → lG p l e s m args below meth c b ad cy D q Qs cells slots 1066 i SX1 SM1 o) : lG p l e s m args below meth c b ad cy D q Qs cells slots 795 i SX SM o := by
  obtain ⟨hx, hb, hml, hown, hts⟩ := Z.1
  have hX := Z.2.2.2.2.2.2.2.1
  have hbl := Z.2.2.2.2.2.2.2.2
  have hbA : ¬ lA s b := Nat.not_le.mpr hbl
  intro B H locs hl hL hS
  refine lv_aload_n hx hb dL_795 rfl (lv_at hl 1 rfl) ?_
  refine lX (j := 140) (i := 112) (As := []) (rest := []) Z (by decide) rfl lk_112 rfl h dL_796 (Nat.zero_le _) hce hsl hl.1 hL hS (fun v SX1 H1 locs1 hq hL1 hS1 => ?_)
  obtain ⟨n, rfl, hq⟩ := hq
  show W p l e room_1 s m args below meth c H1 locs1 cells slots Qs (F0 m 799 B [.int n])
  refine lv_aload_n hx hb dL_799 rfl (lv_at hl 2 rfl) ?_
  refine lM (j := 92) (i := 115) (As := []) (rest := [.int n]) Z (by decide) rfl lk_115 rfl hq dL_800 (show (1 : Nat) ≤ 8 by decide) hce hsl hl.1 hL1 hS1 (fun v SM1 H2 locs2 hq2 hL2 hS2 => ?_)
  obtain ⟨rfl, hq2⟩ := hq2
  show W p l e room_1 s m args below meth c H2 locs2 cells slots Qs (F0 m 803 B [.int n, .int n])
  refine lv_icmp_eq (tgt := 1066) hx hb dL_803 rfl (fun _ => ?_) (fun z => absurd rfl z)
  exact next SX1 SM1 hq2 B H2 locs2 hl hL2 hS2
theorem lk_116 : Cond.methodLink (aCN 12) 116 (miX 141).1 ∈ aWS := aW_t 1111 (by decide +kernel) (by decide +kernel)
theorem lk_119 : Cond.methodLink (aCN 12) 119 (miM 93).1 ∈ aWS := aW_t 1843 (by decide +kernel) (by decide +kernel)
theorem law_22 {p : Program} {l : Launch} {e : Env} {s : State} {m : MethodId} {args : Array Value} {below : List Frame} {meth : Method} {c : Code} {b L : Nat} {xs : Nat → Int32} {ad : Nat → Nat} {cy : Nat → ClassId} {D : va_G} {q : Nat} {Qs : State → Prop} {cells slots : Nat} {SX SM : aS} {o : Int64} {Rel : aS → aS → Prop} (Z : lCx p s m args c b L xs ad cy D q) {i : Int32}  (hce : cells ≤ 601024) (hsl : slots ≤ 7293034) (h : aWX dd 141 [.ref 0] SX (fun v SX1 => ∃ n, v = .int n ∧ aWM dd 93 [.ref 1000] SM (fun v SM1 => v = .int n ∧ Rel SX1 SM1))) (next : ∀ SX1 SM1, Rel SX1 SM1 → lG p l e s m args below meth c b ad cy D q Qs cells slots 1066 i SX1 SM1 o) : lG p l e s m args below meth c b ad cy D q Qs cells slots 808 i SX SM o := by
  obtain ⟨hx, hb, hml, hown, hts⟩ := Z.1
  have hX := Z.2.2.2.2.2.2.2.1
  have hbl := Z.2.2.2.2.2.2.2.2
  have hbA : ¬ lA s b := Nat.not_le.mpr hbl
  intro B H locs hl hL hS
  refine lv_aload_n hx hb dL_808 rfl (lv_at hl 1 rfl) ?_
  refine lX (j := 141) (i := 116) (As := []) (rest := []) Z (by decide) rfl lk_116 rfl h dL_809 (Nat.zero_le _) hce hsl hl.1 hL hS (fun v SX1 H1 locs1 hq hL1 hS1 => ?_)
  obtain ⟨n, rfl, hq⟩ := hq
  show W p l e room_1 s m args below meth c H1 locs1 cells slots Qs (F0 m 812 B [.int n])
  refine lv_aload_n hx hb dL_812 rfl (lv_at hl 2 rfl) ?_
  refine lM (j := 93) (i := 119) (As := []) (rest := [.int n]) Z (by decide) rfl lk_119 rfl hq dL_813 (show (1 : Nat) ≤ 8 by decide) hce hsl hl.1 hL1 hS1 (fun v SM1 H2 locs2 hq2 hL2 hS2 => ?_)
  obtain ⟨rfl, hq2⟩ := hq2
  show W p l e room_1 s m args below meth c H2 locs2 cells slots Qs (F0 m 816 B [.int n, .int n])
  refine lv_icmp_eq (tgt := 1066) hx hb dL_816 rfl (fun _ => ?_) (fun z => absurd rfl z)
  exact next SX1 SM1 hq2 B H2 locs2 hl hL2 hS2
theorem lk_120 : Cond.methodLink (aCN 12) 120 (miX 142).1 ∈ aWS := aW_t 1116 (by decide +kernel) (by decide +kernel)
theorem lk_123 : Cond.methodLink (aCN 12) 123 (miM 95).1 ∈ aWS := aW_t 1847 (by decide +kernel) (by decide +kernel)
theorem law_23 {p : Program} {l : Launch} {e : Env} {s : State} {m : MethodId} {args : Array Value} {below : List Frame} {meth : Method} {c : Code} {b L : Nat} {xs : Nat → Int32} {ad : Nat → Nat} {cy : Nat → ClassId} {D : va_G} {q : Nat} {Qs : State → Prop} {cells slots : Nat} {SX SM : aS} {o : Int64} {Rel : aS → aS → Prop} (Z : lCx p s m args c b L xs ad cy D q) {i : Int32}  (hce : cells ≤ 601024) (hsl : slots ≤ 7293034) (h : aWX dd 142 [.ref 0] SX (fun v SX1 => ∃ n, v = .int n ∧ aWM dd 95 [.ref 1000] SM (fun v SM1 => v = .int n ∧ Rel SX1 SM1))) (next : ∀ SX1 SM1, Rel SX1 SM1 → lG p l e s m args below meth c b ad cy D q Qs cells slots 1066 i SX1 SM1 o) : lG p l e s m args below meth c b ad cy D q Qs cells slots 821 i SX SM o := by
  obtain ⟨hx, hb, hml, hown, hts⟩ := Z.1
  have hX := Z.2.2.2.2.2.2.2.1
  have hbl := Z.2.2.2.2.2.2.2.2
  have hbA : ¬ lA s b := Nat.not_le.mpr hbl
  intro B H locs hl hL hS
  refine lv_aload_n hx hb dL_821 rfl (lv_at hl 1 rfl) ?_
  refine lX (j := 142) (i := 120) (As := []) (rest := []) Z (by decide) rfl lk_120 rfl h dL_822 (Nat.zero_le _) hce hsl hl.1 hL hS (fun v SX1 H1 locs1 hq hL1 hS1 => ?_)
  obtain ⟨n, rfl, hq⟩ := hq
  show W p l e room_1 s m args below meth c H1 locs1 cells slots Qs (F0 m 825 B [.int n])
  refine lv_aload_n hx hb dL_825 rfl (lv_at hl 2 rfl) ?_
  refine lM (j := 95) (i := 123) (As := []) (rest := [.int n]) Z (by decide) rfl lk_123 rfl hq dL_826 (show (1 : Nat) ≤ 8 by decide) hce hsl hl.1 hL1 hS1 (fun v SM1 H2 locs2 hq2 hL2 hS2 => ?_)
  obtain ⟨rfl, hq2⟩ := hq2
  show W p l e room_1 s m args below meth c H2 locs2 cells slots Qs (F0 m 829 B [.int n, .int n])
  refine lv_icmp_eq (tgt := 1066) hx hb dL_829 rfl (fun _ => ?_) (fun z => absurd rfl z)
  exact next SX1 SM1 hq2 B H2 locs2 hl hL2 hS2
theorem lk_124 : Cond.methodLink (aCN 12) 124 (miX 144).1 ∈ aWS := aW_t 1131 (by decide +kernel) (by decide +kernel)
theorem lk_127 : Cond.methodLink (aCN 12) 127 (miM 96).1 ∈ aWS := aW_t 1855 (by decide +kernel) (by decide +kernel)
theorem law_24 {p : Program} {l : Launch} {e : Env} {s : State} {m : MethodId} {args : Array Value} {below : List Frame} {meth : Method} {c : Code} {b L : Nat} {xs : Nat → Int32} {ad : Nat → Nat} {cy : Nat → ClassId} {D : va_G} {q : Nat} {Qs : State → Prop} {cells slots : Nat} {SX SM : aS} {o : Int64} {Rel : aS → aS → Prop} (Z : lCx p s m args c b L xs ad cy D q) {i : Int32}  (hce : cells ≤ 601024) (hsl : slots ≤ 7293034) (h : aWX dd 144 [.ref 0] SX (fun v SX1 => ∃ n, v = .int n ∧ aWM dd 96 [.ref 1000] SM (fun v SM1 => v = .int n ∧ Rel SX1 SM1))) (next : ∀ SX1 SM1, Rel SX1 SM1 → lG p l e s m args below meth c b ad cy D q Qs cells slots 1066 i SX1 SM1 o) : lG p l e s m args below meth c b ad cy D q Qs cells slots 834 i SX SM o := by
  obtain ⟨hx, hb, hml, hown, hts⟩ := Z.1
  have hX := Z.2.2.2.2.2.2.2.1
  have hbl := Z.2.2.2.2.2.2.2.2
  have hbA : ¬ lA s b := Nat.not_le.mpr hbl
  intro B H locs hl hL hS
  refine lv_aload_n hx hb dL_834 rfl (lv_at hl 1 rfl) ?_
  refine lX (j := 144) (i := 124) (As := []) (rest := []) Z (by decide) rfl lk_124 rfl h dL_835 (Nat.zero_le _) hce hsl hl.1 hL hS (fun v SX1 H1 locs1 hq hL1 hS1 => ?_)
  obtain ⟨n, rfl, hq⟩ := hq
  show W p l e room_1 s m args below meth c H1 locs1 cells slots Qs (F0 m 838 B [.int n])
  refine lv_aload_n hx hb dL_838 rfl (lv_at hl 2 rfl) ?_
  refine lM (j := 96) (i := 127) (As := []) (rest := [.int n]) Z (by decide) rfl lk_127 rfl hq dL_839 (show (1 : Nat) ≤ 8 by decide) hce hsl hl.1 hL1 hS1 (fun v SM1 H2 locs2 hq2 hL2 hS2 => ?_)
  obtain ⟨rfl, hq2⟩ := hq2
  show W p l e room_1 s m args below meth c H2 locs2 cells slots Qs (F0 m 842 B [.int n, .int n])
  refine lv_icmp_eq (tgt := 1066) hx hb dL_842 rfl (fun _ => ?_) (fun z => absurd rfl z)
  exact next SX1 SM1 hq2 B H2 locs2 hl hL2 hS2
theorem lk_137 : Cond.methodLink (aCN 12) 137 (miX 147).1 ∈ aWS := aW_t 1136 (by decide +kernel) (by decide +kernel)
theorem lk_140 : Cond.methodLink (aCN 12) 140 (miM 101).1 ∈ aWS := aW_t 1866 (by decide +kernel) (by decide +kernel)
theorem law_26 {p : Program} {l : Launch} {e : Env} {s : State} {m : MethodId} {args : Array Value} {below : List Frame} {meth : Method} {c : Code} {b L : Nat} {xs : Nat → Int32} {ad : Nat → Nat} {cy : Nat → ClassId} {D : va_G} {q : Nat} {Qs : State → Prop} {cells slots : Nat} {SX SM : aS} {o : Int64} {Rel : aS → aS → Prop} (Z : lCx p s m args c b L xs ad cy D q) {i : Int32} (h1 : vp_in (i + 1) L) (h2 : vp_in (i + 2) L) (h3 : vp_in (i + 3) L) (hce : cells ≤ 601024) (hsl : slots ≤ 7293034) (h : aWX dd 147 [.ref 0, .int (xs (i + 1).toNatClampNeg), .int (xs (i + 2).toNatClampNeg), .int (xs (i + 3).toNatClampNeg)] SX (fun v SX1 => ∃ n, v = .int n ∧ aWM dd 101 [.ref 1000, .int (xs (i + 1).toNatClampNeg), .int (xs (i + 2).toNatClampNeg), .int (xs (i + 3).toNatClampNeg)] SM (fun v SM1 => v = .int n ∧ Rel SX1 SM1))) (next : ∀ SX1 SM1, Rel SX1 SM1 → lG p l e s m args below meth c b ad cy D q Qs cells slots 1066 i SX1 SM1 o) : lG p l e s m args below meth c b ad cy D q Qs cells slots 939 i SX SM o := by
  obtain ⟨hx, hb, hml, hown, hts⟩ := Z.1
  have hX := Z.2.2.2.2.2.2.2.1
  have hbl := Z.2.2.2.2.2.2.2.2
  have hbA : ¬ lA s b := Nat.not_le.mpr hbl
  intro B H locs hl hL hS
  refine lv_aload_n hx hb dL_939 rfl (lv_at hl 1 rfl) ?_
  refine lv_aload_n hx hb dL_940 rfl (lv_at hl 0 rfl) ?_
  refine lv_iload hx hb dL_941 (lv_at hl 4 rfl) ?_
  refine lv_iconst (v := 1) hx hb dL_943 rfl ?_
  refine lv_iadd hx hb dL_944 ?_
  refine va_sld hx hb hX hbl hbA hS h1 dL_945 ?_
  refine lv_aload_n hx hb dL_946 rfl (lv_at hl 0 rfl) ?_
  refine lv_iload hx hb dL_947 (lv_at hl 4 rfl) ?_
  refine lv_iconst (v := 2) hx hb dL_949 rfl ?_
  refine lv_iadd hx hb dL_950 ?_
  refine va_sld hx hb hX hbl hbA hS h2 dL_951 ?_
  refine lv_aload_n hx hb dL_952 rfl (lv_at hl 0 rfl) ?_
  refine lv_iload hx hb dL_953 (lv_at hl 4 rfl) ?_
  refine lv_iconst (v := 3) hx hb dL_955 rfl ?_
  refine lv_iadd hx hb dL_956 ?_
  refine va_sld hx hb hX hbl hbA hS h3 dL_957 ?_
  refine lX (j := 147) (i := 137) (As := [.int (xs (i + 1).toNatClampNeg), .int (xs (i + 2).toNatClampNeg), .int (xs (i + 3).toNatClampNeg)]) (rest := []) Z (by decide) rfl lk_137 rfl h dL_958 (Nat.zero_le _) hce hsl hl.1 hL hS (fun v SX1 H1 locs1 hq hL1 hS1 => ?_)
  obtain ⟨n, rfl, hq⟩ := hq
  show W p l e room_1 s m args below meth c H1 locs1 cells slots Qs (F0 m 961 B [.int n])
  refine lv_aload_n hx hb dL_961 rfl (lv_at hl 2 rfl) ?_
  refine lv_aload_n hx hb dL_962 rfl (lv_at hl 0 rfl) ?_
  refine lv_iload hx hb dL_963 (lv_at hl 4 rfl) ?_
  refine lv_iconst (v := 1) hx hb dL_965 rfl ?_
  refine lv_iadd hx hb dL_966 ?_
  refine va_sld hx hb hX hbl hbA hS1 h1 dL_967 ?_
  refine lv_aload_n hx hb dL_968 rfl (lv_at hl 0 rfl) ?_
  refine lv_iload hx hb dL_969 (lv_at hl 4 rfl) ?_
  refine lv_iconst (v := 2) hx hb dL_971 rfl ?_
  refine lv_iadd hx hb dL_972 ?_
  refine va_sld hx hb hX hbl hbA hS1 h2 dL_973 ?_
  refine lv_aload_n hx hb dL_974 rfl (lv_at hl 0 rfl) ?_
  refine lv_iload hx hb dL_975 (lv_at hl 4 rfl) ?_
  refine lv_iconst (v := 3) hx hb dL_977 rfl ?_
  refine lv_iadd hx hb dL_978 ?_
  refine va_sld hx hb hX hbl hbA hS1 h3 dL_979 ?_
  refine lM (j := 101) (i := 140) (As := [.int (xs (i + 1).toNatClampNeg), .int (xs (i + 2).toNatClampNeg), .int (xs (i + 3).toNatClampNeg)]) (rest := [.int n]) Z (by decide) rfl lk_140 rfl hq dL_980 (show (1 : Nat) ≤ 8 by decide) hce hsl hl.1 hL1 hS1 (fun v SM1 H2 locs2 hq2 hL2 hS2 => ?_)
  obtain ⟨rfl, hq2⟩ := hq2
  show W p l e room_1 s m args below meth c H2 locs2 cells slots Qs (F0 m 983 B [.int n, .int n])
  refine lv_icmp_eq (tgt := 1066) hx hb dL_983 rfl (fun _ => ?_) (fun z => absurd rfl z)
  exact next SX1 SM1 hq2 B H2 locs2 hl hL2 hS2
theorem lk_141 : Cond.methodLink (aCN 12) 141 (miX 148).1 ∈ aWS := aW_t 1148 (by decide +kernel) (by decide +kernel)
theorem lk_145 : Cond.methodLink (aCN 12) 145 (miM 102).1 ∈ aWS := aW_t 1882 (by decide +kernel) (by decide +kernel)
theorem law_27 {p : Program} {l : Launch} {e : Env} {s : State} {m : MethodId} {args : Array Value} {below : List Frame} {meth : Method} {c : Code} {b L : Nat} {xs : Nat → Int32} {ad : Nat → Nat} {cy : Nat → ClassId} {D : va_G} {q : Nat} {Qs : State → Prop} {cells slots : Nat} {SX SM : aS} {o : Int64} {Rel : aS → aS → Prop} (Z : lCx p s m args c b L xs ad cy D q) {i : Int32} (h1 : vp_in (i + 1) L) (h2 : vp_in (i + 2) L) (hce : cells ≤ 601024) (hsl : slots ≤ 7293034) (h : aWX dd 148 [.ref 0, .int (xs (i + 1).toNatClampNeg), .int (if xs (i + 2).toNatClampNeg = 0 then 0 else 1)] SX (fun v SX1 => ∃ n, v = .int n ∧ aWM dd 102 [.ref 1000, .int (xs (i + 1).toNatClampNeg), .int (if xs (i + 2).toNatClampNeg = 0 then 0 else 1)] SM (fun v SM1 => v = .int n ∧ Rel SX1 SM1))) (next : ∀ SX1 SM1, Rel SX1 SM1 → lG p l e s m args below meth c b ad cy D q Qs cells slots 1066 i SX1 SM1 o) : lG p l e s m args below meth c b ad cy D q Qs cells slots 988 i SX SM o := by
  obtain ⟨hx, hb, hml, hown, hts⟩ := Z.1
  have hX := Z.2.2.2.2.2.2.2.1
  have hbl := Z.2.2.2.2.2.2.2.2
  have hbA : ¬ lA s b := Nat.not_le.mpr hbl
  intro B H locs hl hL hS
  by_cases hz : xs (i + 2).toNatClampNeg = 0
  · rw [if_pos hz] at h
    refine lv_aload_n hx hb dL_988 rfl (lv_at hl 1 rfl) ?_
    refine lv_aload_n hx hb dL_989 rfl (lv_at hl 0 rfl) ?_
    refine lv_iload hx hb dL_990 (lv_at hl 4 rfl) ?_
    refine lv_iconst (v := 1) hx hb dL_992 rfl ?_
    refine lv_iadd hx hb dL_993 ?_
    refine va_sld hx hb hX hbl hbA hS h1 dL_994 ?_
    refine lv_aload_n hx hb dL_995 rfl (lv_at hl 0 rfl) ?_
    refine lv_iload hx hb dL_996 (lv_at hl 4 rfl) ?_
    refine lv_iconst (v := 2) hx hb dL_998 rfl ?_
    refine lv_iadd hx hb dL_999 ?_
    refine va_sld hx hb hX hbl hbA hS h2 dL_1000 ?_
    refine lv_if_eq (tgt := 1008) hx hb dL_1001 rfl (fun _ => ?_) (fun z => absurd hz z)
    refine lv_iconst (v := 0) hx hb dL_1008 rfl ?_
    refine lX (j := 148) (i := 141) (As := [.int (xs (i + 1).toNatClampNeg), .int (0)]) (rest := []) Z (by decide) rfl lk_141 rfl h dL_1009 (Nat.zero_le _) hce hsl hl.1 hL hS (fun v SX1 H1 locs1 hq hL1 hS1 => ?_)
    obtain ⟨n, rfl, hq⟩ := hq
    show W p l e room_1 s m args below meth c H1 locs1 cells slots Qs (F0 m 1012 B [.int n])
    refine lv_aload_n hx hb dL_1012 rfl (lv_at hl 2 rfl) ?_
    refine lv_aload_n hx hb dL_1013 rfl (lv_at hl 0 rfl) ?_
    refine lv_iload hx hb dL_1014 (lv_at hl 4 rfl) ?_
    refine lv_iconst (v := 1) hx hb dL_1016 rfl ?_
    refine lv_iadd hx hb dL_1017 ?_
    refine va_sld hx hb hX hbl hbA hS1 h1 dL_1018 ?_
    refine lv_aload_n hx hb dL_1019 rfl (lv_at hl 0 rfl) ?_
    refine lv_iload hx hb dL_1020 (lv_at hl 4 rfl) ?_
    refine lv_iconst (v := 2) hx hb dL_1022 rfl ?_
    refine lv_iadd hx hb dL_1023 ?_
    refine va_sld hx hb hX hbl hbA hS1 h2 dL_1024 ?_
    refine lv_if_eq (tgt := 1032) hx hb dL_1025 rfl (fun _ => ?_) (fun z => absurd hz z)
    refine lv_iconst (v := 0) hx hb dL_1032 rfl ?_
    refine lM (j := 102) (i := 145) (As := [.int (xs (i + 1).toNatClampNeg), .int (0)]) (rest := [.int n]) Z (by decide) rfl lk_145 rfl hq dL_1033 (show (1 : Nat) ≤ 8 by decide) hce hsl hl.1 hL1 hS1 (fun v SM1 H2 locs2 hq2 hL2 hS2 => ?_)
    obtain ⟨rfl, hq2⟩ := hq2
    show W p l e room_1 s m args below meth c H2 locs2 cells slots Qs (F0 m 1036 B [.int n, .int n])
    refine lv_icmp_eq (tgt := 1066) hx hb dL_1036 rfl (fun _ => ?_) (fun z => absurd rfl z)
    exact next SX1 SM1 hq2 B H2 locs2 hl hL2 hS2
  · rw [if_neg hz] at h
    refine lv_aload_n hx hb dL_988 rfl (lv_at hl 1 rfl) ?_
    refine lv_aload_n hx hb dL_989 rfl (lv_at hl 0 rfl) ?_
    refine lv_iload hx hb dL_990 (lv_at hl 4 rfl) ?_
    refine lv_iconst (v := 1) hx hb dL_992 rfl ?_
    refine lv_iadd hx hb dL_993 ?_
    refine va_sld hx hb hX hbl hbA hS h1 dL_994 ?_
    refine lv_aload_n hx hb dL_995 rfl (lv_at hl 0 rfl) ?_
    refine lv_iload hx hb dL_996 (lv_at hl 4 rfl) ?_
    refine lv_iconst (v := 2) hx hb dL_998 rfl ?_
    refine lv_iadd hx hb dL_999 ?_
    refine va_sld hx hb hX hbl hbA hS h2 dL_1000 ?_
    refine lv_if_eq (tgt := 1008) hx hb dL_1001 rfl (fun z => absurd z hz) (fun _ => ?_)
    refine lv_iconst (v := 1) hx hb dL_1004 rfl ?_
    refine lv_goto (tgt := 1009) hx hb dL_1005 rfl ?_
    refine lX (j := 148) (i := 141) (As := [.int (xs (i + 1).toNatClampNeg), .int (1)]) (rest := []) Z (by decide) rfl lk_141 rfl h dL_1009 (Nat.zero_le _) hce hsl hl.1 hL hS (fun v SX1 H1 locs1 hq hL1 hS1 => ?_)
    obtain ⟨n, rfl, hq⟩ := hq
    show W p l e room_1 s m args below meth c H1 locs1 cells slots Qs (F0 m 1012 B [.int n])
    refine lv_aload_n hx hb dL_1012 rfl (lv_at hl 2 rfl) ?_
    refine lv_aload_n hx hb dL_1013 rfl (lv_at hl 0 rfl) ?_
    refine lv_iload hx hb dL_1014 (lv_at hl 4 rfl) ?_
    refine lv_iconst (v := 1) hx hb dL_1016 rfl ?_
    refine lv_iadd hx hb dL_1017 ?_
    refine va_sld hx hb hX hbl hbA hS1 h1 dL_1018 ?_
    refine lv_aload_n hx hb dL_1019 rfl (lv_at hl 0 rfl) ?_
    refine lv_iload hx hb dL_1020 (lv_at hl 4 rfl) ?_
    refine lv_iconst (v := 2) hx hb dL_1022 rfl ?_
    refine lv_iadd hx hb dL_1023 ?_
    refine va_sld hx hb hX hbl hbA hS1 h2 dL_1024 ?_
    refine lv_if_eq (tgt := 1032) hx hb dL_1025 rfl (fun z => absurd z hz) (fun _ => ?_)
    refine lv_iconst (v := 1) hx hb dL_1028 rfl ?_
    refine lv_goto (tgt := 1033) hx hb dL_1029 rfl ?_
    refine lM (j := 102) (i := 145) (As := [.int (xs (i + 1).toNatClampNeg), .int (1)]) (rest := [.int n]) Z (by decide) rfl lk_145 rfl hq dL_1033 (show (1 : Nat) ≤ 8 by decide) hce hsl hl.1 hL1 hS1 (fun v SM1 H2 locs2 hq2 hL2 hS2 => ?_)
    obtain ⟨rfl, hq2⟩ := hq2
    show W p l e room_1 s m args below meth c H2 locs2 cells slots Qs (F0 m 1036 B [.int n, .int n])
    refine lv_icmp_eq (tgt := 1066) hx hb dL_1036 rfl (fun _ => ?_) (fun z => absurd rfl z)
    exact next SX1 SM1 hq2 B H2 locs2 hl hL2 hS2
theorem lk_146 : Cond.methodLink (aCN 12) 146 (miX 149).1 ∈ aWS := aW_t 1158 (by decide +kernel) (by decide +kernel)
theorem lk_149 : Cond.methodLink (aCN 12) 149 (miM 104).1 ∈ aWS := aW_t 1890 (by decide +kernel) (by decide +kernel)
theorem law_28 {p : Program} {l : Launch} {e : Env} {s : State} {m : MethodId} {args : Array Value} {below : List Frame} {meth : Method} {c : Code} {b L : Nat} {xs : Nat → Int32} {ad : Nat → Nat} {cy : Nat → ClassId} {D : va_G} {q : Nat} {Qs : State → Prop} {cells slots : Nat} {SX SM : aS} {o : Int64} {Rel : aS → aS → Prop} (Z : lCx p s m args c b L xs ad cy D q) {i : Int32} (h1 : vp_in (i + 1) L) (hce : cells ≤ 601024) (hsl : slots ≤ 7293034) (h : aWX dd 149 [.ref 0, .int (xs (i + 1).toNatClampNeg)] SX (fun v SX1 => ∃ n, v = .int n ∧ aWM dd 104 [.ref 1000, .int (xs (i + 1).toNatClampNeg)] SM (fun v SM1 => v = .int n ∧ Rel SX1 SM1))) (next : ∀ SX1 SM1, Rel SX1 SM1 → lG p l e s m args below meth c b ad cy D q Qs cells slots 1066 i SX1 SM1 o) : lG p l e s m args below meth c b ad cy D q Qs cells slots 1041 i SX SM o := by
  obtain ⟨hx, hb, hml, hown, hts⟩ := Z.1
  have hX := Z.2.2.2.2.2.2.2.1
  have hbl := Z.2.2.2.2.2.2.2.2
  have hbA : ¬ lA s b := Nat.not_le.mpr hbl
  intro B H locs hl hL hS
  refine lv_aload_n hx hb dL_1041 rfl (lv_at hl 1 rfl) ?_
  refine lv_aload_n hx hb dL_1042 rfl (lv_at hl 0 rfl) ?_
  refine lv_iload hx hb dL_1043 (lv_at hl 4 rfl) ?_
  refine lv_iconst (v := 1) hx hb dL_1045 rfl ?_
  refine lv_iadd hx hb dL_1046 ?_
  refine va_sld hx hb hX hbl hbA hS h1 dL_1047 ?_
  refine lX (j := 149) (i := 146) (As := [.int (xs (i + 1).toNatClampNeg)]) (rest := []) Z (by decide) rfl lk_146 rfl h dL_1048 (Nat.zero_le _) hce hsl hl.1 hL hS (fun v SX1 H1 locs1 hq hL1 hS1 => ?_)
  obtain ⟨n, rfl, hq⟩ := hq
  show W p l e room_1 s m args below meth c H1 locs1 cells slots Qs (F0 m 1051 B [.int n])
  refine lv_aload_n hx hb dL_1051 rfl (lv_at hl 2 rfl) ?_
  refine lv_aload_n hx hb dL_1052 rfl (lv_at hl 0 rfl) ?_
  refine lv_iload hx hb dL_1053 (lv_at hl 4 rfl) ?_
  refine lv_iconst (v := 1) hx hb dL_1055 rfl ?_
  refine lv_iadd hx hb dL_1056 ?_
  refine va_sld hx hb hX hbl hbA hS1 h1 dL_1057 ?_
  refine lM (j := 104) (i := 149) (As := [.int (xs (i + 1).toNatClampNeg)]) (rest := [.int n]) Z (by decide) rfl lk_149 rfl hq dL_1058 (show (1 : Nat) ≤ 8 by decide) hce hsl hl.1 hL1 hS1 (fun v SM1 H2 locs2 hq2 hL2 hS2 => ?_)
  obtain ⟨rfl, hq2⟩ := hq2
  show W p l e room_1 s m args below meth c H2 locs2 cells slots Qs (F0 m 1061 B [.int n, .int n])
  refine lv_icmp_eq (tgt := 1066) hx hb dL_1061 rfl (fun _ => ?_) (fun z => absurd rfl z)
  exact next SX1 SM1 hq2 B H2 locs2 hl hL2 hS2
