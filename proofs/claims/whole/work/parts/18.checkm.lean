/-! the reference's rows are those of its bytecode: checked by the kernel -/
def aAll (Pr : Nat → Prop) : Nat → Prop
  | 0 => True
  | n + 1 => aAll Pr n ∧ Pr n
theorem aAll_get {Pr : Nat → Prop} : ∀ {n : Nat}, aAll Pr n → ∀ j, j < n → Pr j
  | 0, _, j, h => absurd h (Nat.not_lt_zero j)
  | n + 1, z, j, h => (Nat.lt_succ_iff_lt_or_eq.mp h).elim (fun q => aAll_get z.1 j q) (fun q => q ▸ z.2)
set_option maxRecDepth 100000 in
theorem ckM0 : ackL tbM ckpM miM nmM mtM cX13_thrown 11 rkM (some .int) kM0 kM0 = true ∧ pcO kM0 = some 0 := ⟨by decide +kernel, rfl⟩
set_option maxRecDepth 100000 in
theorem ckM1 : ackL tbM ckpM miM nmM mtM cX13_within 11 rkM (some .boolean) kM1 kM1 = true ∧ pcO kM1 = some 0 := ⟨by decide +kernel, rfl⟩
set_option maxRecDepth 100000 in
theorem ckM2 : ackL tbM ckpM miM nmM mtM cX13_between 11 rkM (some .int) kM2 kM2 = true ∧ pcO kM2 = some 0 := ⟨by decide +kernel, rfl⟩
set_option maxRecDepth 100000 in
theorem ckM3 : ackL tbM ckpM miM nmM mtM cX13_bits 11 rkM (some .int) kM3 kM3 = true ∧ pcO kM3 = some 0 := ⟨by decide +kernel, rfl⟩
set_option maxRecDepth 100000 in
theorem ckM4 : ackL tbM ckpM miM nmM mtM cX13_feed 11 rkM (some .int) kM4 kM4 = true ∧ pcO kM4 = some 0 := ⟨by decide +kernel, rfl⟩
set_option maxRecDepth 100000 in
theorem ckM5 : ackL tbM ckpM miM nmM mtM cX13_signAt 11 rkM (some .int) kM5 kM5 = true ∧ pcO kM5 = some 0 := ⟨by decide +kernel, rfl⟩
set_option maxRecDepth 100000 in
theorem ckM6 : ackL tbM ckpM miM nmM mtM cX13_nextToken 11 rkM none kM6 kM6 = true ∧ pcO kM6 = some 0 := ⟨by decide +kernel, rfl⟩
set_option maxRecDepth 100000 in
theorem ckM7 : ackL tbM ckpM miM nmM mtM cX13_isWord 11 rkM (some .boolean) kM7 kM7 = true ∧ pcO kM7 = some 0 := ⟨by decide +kernel, rfl⟩
set_option maxRecDepth 100000 in
theorem ckM8 : ackL tbM ckpM miM nmM mtM cX13_isSign 11 rkM (some .boolean) kM8 kM8 = true ∧ pcO kM8 = some 0 := ⟨by decide +kernel, rfl⟩
set_option maxRecDepth 100000 in
theorem ckM9 : ackL tbM ckpM miM nmM mtM cX13_fails 11 rkM (some .boolean) kM9 kM9 = true ∧ pcO kM9 = some 0 := ⟨by decide +kernel, rfl⟩
set_option maxRecDepth 100000 in
theorem ckM10 : ackL tbM ckpM miM nmM mtM cX13_puts 11 rkM none kM10 kM10 = true ∧ pcO kM10 = some 0 := ⟨by decide +kernel, rfl⟩
set_option maxRecDepth 100000 in
theorem ckM11 : ackL tbM ckpM miM nmM mtM cX13_fact 11 rkM (some .int) kM11 kM11 = true ∧ pcO kM11 = some 0 := ⟨by decide +kernel, rfl⟩
set_option maxRecDepth 100000 in
theorem ckM12 : ackL tbM ckpM miM nmM mtM cX13_reads 11 rkM (some .boolean) kM12 kM12 = true ∧ pcO kM12 = some 0 := ⟨by decide +kernel, rfl⟩
set_option maxRecDepth 100000 in
theorem ckM13 : ackL tbM ckpM miM nmM mtM cX13_opens 11 rkM none kM13 kM13 = true ∧ pcO kM13 = some 0 := ⟨by decide +kernel, rfl⟩
set_option maxRecDepth 100000 in
theorem ckM14 : ackL tbM ckpM miM nmM mtM cX13_sums 11 rkM none kM14 kM14 = true ∧ pcO kM14 = some 0 := ⟨by decide +kernel, rfl⟩
set_option maxRecDepth 100000 in
theorem ckM15 : ackL tbM ckpM miM nmM mtM cX13_tests 11 rkM none kM15 kM15 = true ∧ pcO kM15 = some 0 := ⟨by decide +kernel, rfl⟩
set_option maxRecDepth 100000 in
theorem ckM16 : ackL tbM ckpM miM nmM mtM cX13_worked 11 rkM (some .int) kM16 kM16 = true ∧ pcO kM16 = some 0 := ⟨by decide +kernel, rfl⟩
set_option maxRecDepth 100000 in
theorem ckM17 : ackL tbM ckpM miM nmM mtM cX13_isKept 11 rkM (some .boolean) kM17 kM17 = true ∧ pcO kM17 = some 0 := ⟨by decide +kernel, rfl⟩
set_option maxRecDepth 100000 in
theorem ckM18 : ackL tbM ckpM miM nmM mtM cX13_writerNamed 11 rkM (some .int) kM18 kM18 = true ∧ pcO kM18 = some 0 := ⟨by decide +kernel, rfl⟩
set_option maxRecDepth 100000 in
theorem ckM19 : ackL tbM ckpM miM nmM mtM cX13_wordNamed 11 rkM (some .int) kM19 kM19 = true ∧ pcO kM19 = some 0 := ⟨by decide +kernel, rfl⟩
set_option maxRecDepth 100000 in
theorem ckM20 : ackL tbM ckpM miM nmM mtM cX13_needsNumber 11 rkM (some .boolean) kM20 kM20 = true ∧ pcO kM20 = some 0 := ⟨by decide +kernel, rfl⟩
set_option maxRecDepth 100000 in
theorem ckM21 : ackL tbM ckpM miM nmM mtM cX13_needsBoth 11 rkM (some .boolean) kM21 kM21 = true ∧ pcO kM21 = some 0 := ⟨by decide +kernel, rfl⟩
set_option maxRecDepth 100000 in
theorem ckM22 : ackL tbM ckpM miM nmM mtM cX13_closes 11 rkM (some .boolean) kM22 kM22 = true ∧ pcO kM22 = some 0 := ⟨by decide +kernel, rfl⟩
set_option maxRecDepth 100000 in
theorem ckM23 : ackL tbM ckpM miM nmM mtM cX13_needsNew 11 rkM (some .boolean) kM23 kM23 = true ∧ pcO kM23 = some 0 := ⟨by decide +kernel, rfl⟩
set_option maxRecDepth 100000 in
theorem ckM24 : ackL tbM ckpM miM nmM mtM cX13_needsToldWord 11 rkM (some .boolean) kM24 kM24 = true ∧ pcO kM24 = some 0 := ⟨by decide +kernel, rfl⟩
set_option maxRecDepth 100000 in
theorem ckM25 : ackL tbM ckpM miM nmM mtM cX13_readsWriter 11 rkM (some .boolean) kM25 kM25 = true ∧ pcO kM25 = some 0 := ⟨by decide +kernel, rfl⟩
set_option maxRecDepth 100000 in
theorem ckM26 : ackL tbM ckpM miM nmM mtM cX13_readsWord 11 rkM (some .boolean) kM26 kM26 = true ∧ pcO kM26 = some 0 := ⟨by decide +kernel, rfl⟩
set_option maxRecDepth 100000 in
theorem ckM27 : ackL tbM ckpM miM nmM mtM cX13_readsLikes 11 rkM (some .boolean) kM27 kM27 = true ∧ pcO kM27 = some 0 := ⟨by decide +kernel, rfl⟩
set_option maxRecDepth 100000 in
theorem ckM28 : ackL tbM ckpM miM nmM mtM cX13_readsClash 11 rkM (some .boolean) kM28 kM28 = true ∧ pcO kM28 = some 0 := ⟨by decide +kernel, rfl⟩
set_option maxRecDepth 100000 in
theorem ckM29 : ackL tbM ckpM miM nmM mtM cX13_readsFolds 11 rkM (some .boolean) kM29 kM29 = true ∧ pcO kM29 = some 0 := ⟨by decide +kernel, rfl⟩
set_option maxRecDepth 100000 in
theorem ckM30 : ackL tbM ckpM miM nmM mtM cX13_readsLaw 11 rkM (some .boolean) kM30 kM30 = true ∧ pcO kM30 = some 0 := ⟨by decide +kernel, rfl⟩
set_option maxRecDepth 100000 in
theorem ckM31 : ackL tbM ckpM miM nmM mtM cX13_begins 11 rkM none kM31 kM31 = true ∧ pcO kM31 = some 0 := ⟨by decide +kernel, rfl⟩
set_option maxRecDepth 100000 in
theorem ckM32 : ackL tbM ckpM miM nmM mtM cX13_readsAll 11 rkM (some .boolean) kM32 kM32 = true ∧ pcO kM32 = some 0 := ⟨by decide +kernel, rfl⟩
set_option maxRecDepth 100000 in
theorem ckM33 : ackL tbM ckpM miM nmM mtM cX13_shifts 11 rkM none kM33 kM33 = true ∧ pcO kM33 = some 0 := ⟨by decide +kernel, rfl⟩
set_option maxRecDepth 100000 in
theorem ckM34 : ackL tbM ckpM miM nmM mtM cX13_lays 11 rkM none kM34 kM34 = true ∧ pcO kM34 = some 0 := ⟨by decide +kernel, rfl⟩
set_option maxRecDepth 100000 in
theorem ckM35 : ackL tbM ckpM miM nmM mtM cX13_copies 11 rkM none kM35 kM35 = true ∧ pcO kM35 = some 0 := ⟨by decide +kernel, rfl⟩
set_option maxRecDepth 100000 in
theorem ckM36 : ackL tbM ckpM miM nmM mtM cX13_readsLine 11 rkM (some .boolean) kM36 kM36 = true ∧ pcO kM36 = some 0 := ⟨by decide +kernel, rfl⟩
set_option maxRecDepth 100000 in
theorem ckM37 : ackL tbM ckpM miM nmM mtM cX13_laysLines 11 rkM none kM37 kM37 = true ∧ pcO kM37 = some 0 := ⟨by decide +kernel, rfl⟩
set_option maxRecDepth 100000 in
theorem ckM38 : ackL tbM ckpM miM nmM mtM cX13_laysRead 11 rkM none kM38 kM38 = true ∧ pcO kM38 = some 0 := ⟨by decide +kernel, rfl⟩
set_option maxRecDepth 100000 in
theorem ckM39 : ackL tbM ckpM miM nmM mtM cX13_fresh 11 rkM none kM39 kM39 = true ∧ pcO kM39 = some 0 := ⟨by decide +kernel, rfl⟩
set_option maxRecDepth 100000 in
theorem ckM40 : ackL tbM ckpM miM nmM mtM cX13_realm 11 rkM (some .int) kM40 kM40 = true ∧ pcO kM40 = some 0 := ⟨by decide +kernel, rfl⟩
set_option maxRecDepth 100000 in
theorem ckM41 : ackL tbM ckpM miM nmM mtM cX13_sundays 11 rkM (some .int) kM41 kM41 = true ∧ pcO kM41 = some 0 := ⟨by decide +kernel, rfl⟩
set_option maxRecDepth 100000 in
theorem ckM42 : ackL tbM ckpM miM nmM mtM cX13_isWriter 11 rkM (some .boolean) kM42 kM42 = true ∧ pcO kM42 = some 0 := ⟨by decide +kernel, rfl⟩
set_option maxRecDepth 100000 in
theorem ckM43 : ackL tbM ckpM miM nmM mtM cX13_isTold 11 rkM (some .boolean) kM43 kM43 = true ∧ pcO kM43 = some 0 := ⟨by decide +kernel, rfl⟩
set_option maxRecDepth 100000 in
theorem ckM44 : ackL tbM ckpM miM nmM mtM cX13_writerOf 11 rkM (some .int) kM44 kM44 = true ∧ pcO kM44 = some 0 := ⟨by decide +kernel, rfl⟩
set_option maxRecDepth 100000 in
theorem ckM45 : ackL tbM ckpM miM nmM mtM cX13_likelyBy 11 rkM (some .int) kM45 kM45 = true ∧ pcO kM45 = some 0 := ⟨by decide +kernel, rfl⟩
set_option maxRecDepth 100000 in
theorem ckM46 : ackL tbM ckpM miM nmM mtM cX13_aheadOf 11 rkM (some .int) kM46 kM46 = true ∧ pcO kM46 = some 0 := ⟨by decide +kernel, rfl⟩
set_option maxRecDepth 100000 in
theorem ckM47 : ackL tbM ckpM miM nmM mtM cX13_likelyNow 11 rkM (some .int) kM47 kM47 = true ∧ pcO kM47 = some 0 := ⟨by decide +kernel, rfl⟩
set_option maxRecDepth 100000 in
theorem ckM48 : ackL tbM ckpM miM nmM mtM cX13_allLikely 11 rkM (some .int) kM48 kM48 = true ∧ pcO kM48 = some 0 := ⟨by decide +kernel, rfl⟩
set_option maxRecDepth 100000 in
theorem ckM49 : ackL tbM ckpM miM nmM mtM cX13_doesBy 11 rkM (some .int) kM49 kM49 = true ∧ pcO kM49 = some 0 := ⟨by decide +kernel, rfl⟩
set_option maxRecDepth 100000 in
theorem ckM50 : ackL tbM ckpM miM nmM mtM cX13_writer 11 rkM (some .int) kM50 kM50 = true ∧ pcO kM50 = some 0 := ⟨by decide +kernel, rfl⟩
set_option maxRecDepth 100000 in
theorem ckM51 : ackL tbM ckpM miM nmM mtM cX13_word 11 rkM (some .int) kM51 kM51 = true ∧ pcO kM51 = some 0 := ⟨by decide +kernel, rfl⟩
set_option maxRecDepth 100000 in
theorem ckM52 : ackL tbM ckpM miM nmM mtM cX13_strip 11 rkM (some .int) kM52 kM52 = true ∧ pcO kM52 = some 0 := ⟨by decide +kernel, rfl⟩
set_option maxRecDepth 100000 in
theorem ckM53 : ackL tbM ckpM miM nmM mtM cX13_spike 11 rkM (some .int) kM53 kM53 = true ∧ pcO kM53 = some 0 := ⟨by decide +kernel, rfl⟩
set_option maxRecDepth 100000 in
theorem ckM54 : ackL tbM ckpM miM nmM mtM cX13_keeps 11 rkM none kM54 kM54 = true ∧ pcO kM54 = some 0 := ⟨by decide +kernel, rfl⟩
set_option maxRecDepth 100000 in
theorem ckM55 : ackL tbM ckpM miM nmM mtM cX13_canWrite 11 rkM (some .boolean) kM55 kM55 = true ∧ pcO kM55 = some 0 := ⟨by decide +kernel, rfl⟩
set_option maxRecDepth 100000 in
theorem ckM56 : ackL tbM ckpM miM nmM mtM cX13_fallsOff 11 rkM none kM56 kM56 = true ∧ pcO kM56 = some 0 := ⟨by decide +kernel, rfl⟩
set_option maxRecDepth 100000 in
theorem ckM57 : ackL tbM ckpM miM nmM mtM cX13_ends 11 rkM none kM57 kM57 = true ∧ pcO kM57 = some 0 := ⟨by decide +kernel, rfl⟩
set_option maxRecDepth 100000 in
theorem ckM58 : ackL tbM ckpM miM nmM mtM cX13_laysWord 11 rkM none kM58 kM58 = true ∧ pcO kM58 = some 0 := ⟨by decide +kernel, rfl⟩
set_option maxRecDepth 100000 in
theorem ckM59 : ackL tbM ckpM miM nmM mtM cX13_burns 11 rkM none kM59 kM59 = true ∧ pcO kM59 = some 0 := ⟨by decide +kernel, rfl⟩
set_option maxRecDepth 100000 in
theorem ckM60 : ackL tbM ckpM miM nmM mtM cX13_canPass 11 rkM (some .boolean) kM60 kM60 = true ∧ pcO kM60 = some 0 := ⟨by decide +kernel, rfl⟩
set_option maxRecDepth 100000 in
theorem ckM61 : ackL tbM ckpM miM nmM mtM cX13_write 11 rkM (some .int) kM61 kM61 = true ∧ pcO kM61 = some 0 := ⟨by decide +kernel, rfl⟩
set_option maxRecDepth 100000 in
theorem ckM62 : ackL tbM ckpM miM nmM mtM cX13_pass 11 rkM (some .int) kM62 kM62 = true ∧ pcO kM62 = some 0 := ⟨by decide +kernel, rfl⟩
set_option maxRecDepth 100000 in
theorem ckM63 : ackL tbM ckpM miM nmM mtM cX13_burn 11 rkM (some .int) kM63 kM63 = true ∧ pcO kM63 = some 0 := ⟨by decide +kernel, rfl⟩
set_option maxRecDepth 100000 in
theorem ckM64 : ackL tbM ckpM miM nmM mtM cX13_undo 11 rkM (some .boolean) kM64 kM64 = true ∧ pcO kM64 = some 0 := ⟨by decide +kernel, rfl⟩
set_option maxRecDepth 100000 in
theorem ckM65 : ackL tbM ckpM miM nmM mtM cX13_wordsOf 11 rkM (some .int) kM65 kM65 = true ∧ pcO kM65 = some 0 := ⟨by decide +kernel, rfl⟩
set_option maxRecDepth 100000 in
theorem ckM66 : ackL tbM ckpM miM nmM mtM cX13_doClash 11 rkM (some .boolean) kM66 kM66 = true ∧ pcO kM66 = some 0 := ⟨by decide +kernel, rfl⟩
set_option maxRecDepth 100000 in
theorem ckM67 : ackL tbM ckpM miM nmM mtM cX13_clashesOf 11 rkM (some .int) kM67 kM67 = true ∧ pcO kM67 = some 0 := ⟨by decide +kernel, rfl⟩
set_option maxRecDepth 100000 in
theorem ckM68 : ackL tbM ckpM miM nmM mtM cX13_allWholes 11 rkM (some .int) kM68 kM68 = true ∧ pcO kM68 = some 0 := ⟨by decide +kernel, rfl⟩
set_option maxRecDepth 100000 in
theorem ckM69 : ackL tbM ckpM miM nmM mtM cX13_goes 11 rkM (some .boolean) kM69 kM69 = true ∧ pcO kM69 = some 0 := ⟨by decide +kernel, rfl⟩
set_option maxRecDepth 100000 in
theorem ckM70 : ackL tbM ckpM miM nmM mtM cX13_doesLastClash 11 rkM (some .boolean) kM70 kM70 = true ∧ pcO kM70 = some 0 := ⟨by decide +kernel, rfl⟩
set_option maxRecDepth 100000 in
theorem ckM71 : ackL tbM ckpM miM nmM mtM cX13_judged 11 rkM (some .int) kM71 kM71 = true ∧ pcO kM71 = some 0 := ⟨by decide +kernel, rfl⟩
set_option maxRecDepth 100000 in
theorem ckM72 : ackL tbM ckpM miM nmM mtM cX13_goesOn 11 rkM (some .boolean) kM72 kM72 = true ∧ pcO kM72 = some 0 := ⟨by decide +kernel, rfl⟩
set_option maxRecDepth 100000 in
theorem ckM73 : ackL tbM ckpM miM nmM mtM cX13_wordIn 11 rkM (some .int) kM73 kM73 = true ∧ pcO kM73 = some 0 := ⟨by decide +kernel, rfl⟩
set_option maxRecDepth 100000 in
theorem ckM74 : ackL tbM ckpM miM nmM mtM cX13_comes 11 rkM (some .int) kM74 kM74 = true ∧ pcO kM74 = some 0 := ⟨by decide +kernel, rfl⟩
set_option maxRecDepth 100000 in
theorem ckM75 : ackL tbM ckpM miM nmM mtM cX13_endsRow 11 rkM none kM75 kM75 = true ∧ pcO kM75 = some 0 := ⟨by decide +kernel, rfl⟩
set_option maxRecDepth 100000 in
theorem ckM76 : ackL tbM ckpM miM nmM mtM cX13_rows 11 rkM none kM76 kM76 = true ∧ pcO kM76 = some 0 := ⟨by decide +kernel, rfl⟩
set_option maxRecDepth 100000 in
theorem ckM77 : ackL tbM ckpM miM nmM mtM cX13_laysRows 11 rkM none kM77 kM77 = true ∧ pcO kM77 = some 0 := ⟨by decide +kernel, rfl⟩
set_option maxRecDepth 100000 in
theorem ckM78 : ackL tbM ckpM miM nmM mtM cX13_best 11 rkM (some .int) kM78 kM78 = true ∧ pcO kM78 = some 0 := ⟨by decide +kernel, rfl⟩
set_option maxRecDepth 100000 in
theorem ckM79 : ackL tbM ckpM miM nmM mtM cX13_worst 11 rkM (some .int) kM79 kM79 = true ∧ pcO kM79 = some 0 := ⟨by decide +kernel, rfl⟩
set_option maxRecDepth 100000 in
theorem ckM80 : ackL tbM ckpM miM nmM mtM cX13_mean 11 rkM (some .int) kM80 kM80 = true ∧ pcO kM80 = some 0 := ⟨by decide +kernel, rfl⟩
set_option maxRecDepth 100000 in
theorem ckM81 : ackL tbM ckpM miM nmM mtM cX13_noneOnly 11 rkM none kM81 kM81 = true ∧ pcO kM81 = some 0 := ⟨by decide +kernel, rfl⟩
set_option maxRecDepth 100000 in
theorem ckM82 : ackL tbM ckpM miM nmM mtM cX13_goesOnAt 11 rkM (some .boolean) kM82 kM82 = true ∧ pcO kM82 = some 0 := ⟨by decide +kernel, rfl⟩
set_option maxRecDepth 100000 in
theorem ckM83 : ackL tbM ckpM miM nmM mtM cX13_sharesFrom 11 rkM none kM83 kM83 = true ∧ pcO kM83 = some 0 := ⟨by decide +kernel, rfl⟩
set_option maxRecDepth 100000 in
theorem ckM84 : ackL tbM ckpM miM nmM mtM cX13_sharesOut 11 rkM (some .int) kM84 kM84 = true ∧ pcO kM84 = some 0 := ⟨by decide +kernel, rfl⟩
set_option maxRecDepth 100000 in
theorem ckM85 : ackL tbM ckpM miM nmM mtM cX13_aim 11 rkM (some .int) kM85 kM85 = true ∧ pcO kM85 = some 0 := ⟨by decide +kernel, rfl⟩
set_option maxRecDepth 100000 in
theorem ckM86 : ackL tbM ckpM miM nmM mtM cX13_meet 11 rkM (some .int) kM86 kM86 = true ∧ pcO kM86 = some 0 := ⟨by decide +kernel, rfl⟩
set_option maxRecDepth 100000 in
theorem ckM87 : ackL tbM ckpM miM nmM mtM cX13_clashes 11 rkM (some .int) kM87 kM87 = true ∧ pcO kM87 = some 0 := ⟨by decide +kernel, rfl⟩
set_option maxRecDepth 100000 in
theorem ckM88 : ackL tbM ckpM miM nmM mtM cX13_fire 11 rkM (some .int) kM88 kM88 = true ∧ pcO kM88 = some 0 := ⟨by decide +kernel, rfl⟩
set_option maxRecDepth 100000 in
theorem ckM89 : ackL tbM ckpM miM nmM mtM cX13_read 11 rkM (some .boolean) kM89 kM89 = true ∧ pcO kM89 = some 0 := ⟨by decide +kernel, rfl⟩
set_option maxRecDepth 100000 in
theorem ckM90 : ackL tbM ckpM miM nmM mtM cX13_laysOnly 11 rkM (some .boolean) kM90 kM90 = true ∧ pcO kM90 = some 0 := ⟨by decide +kernel, rfl⟩
set_option maxRecDepth 100000 in
theorem ckM91 : ackL tbM ckpM miM nmM mtM cX13_beganBy 11 rkM (some .int) kM91 kM91 = true ∧ pcO kM91 = some 0 := ⟨by decide +kernel, rfl⟩
set_option maxRecDepth 100000 in
theorem ckM92 : ackL tbM ckpM miM nmM mtM cX13_began 11 rkM (some .int) kM92 kM92 = true ∧ pcO kM92 = some 0 := ⟨by decide +kernel, rfl⟩
set_option maxRecDepth 100000 in
theorem ckM93 : ackL tbM ckpM miM nmM mtM cX13_sure 11 rkM (some .int) kM93 kM93 = true ∧ pcO kM93 = some 0 := ⟨by decide +kernel, rfl⟩
set_option maxRecDepth 100000 in
theorem ckM94 : ackL tbM ckpM miM nmM mtM cX13_likeliest 11 rkM (some .int) kM94 kM94 = true ∧ pcO kM94 = some 0 := ⟨by decide +kernel, rfl⟩
set_option maxRecDepth 100000 in
theorem ckM95 : ackL tbM ckpM miM nmM mtM cX13_ask 11 rkM (some .int) kM95 kM95 = true ∧ pcO kM95 = some 0 := ⟨by decide +kernel, rfl⟩
set_option maxRecDepth 100000 in
theorem ckM96 : ackL tbM ckpM miM nmM mtM cX13_spent 11 rkM (some .int) kM96 kM96 = true ∧ pcO kM96 = some 0 := ⟨by decide +kernel, rfl⟩
set_option maxRecDepth 100000 in
theorem ckM97 : ackL tbM ckpM miM nmM mtM cX13_getsBy 11 rkM (some .int) kM97 kM97 = true ∧ pcO kM97 = some 0 := ⟨by decide +kernel, rfl⟩
set_option maxRecDepth 100000 in
theorem ckM98 : ackL tbM ckpM miM nmM mtM cX13_rests 11 rkM (some .int) kM98 kM98 = true ∧ pcO kM98 = some 0 := ⟨by decide +kernel, rfl⟩
set_option maxRecDepth 100000 in
theorem ckM99 : ackL tbM ckpM miM nmM mtM cX13_draws 11 rkM (some .int) kM99 kM99 = true ∧ pcO kM99 = some 0 := ⟨by decide +kernel, rfl⟩
set_option maxRecDepth 100000 in
theorem ckM100 : ackL tbM ckpM miM nmM mtM cX13_livesWord 11 rkM (some .boolean) kM100 kM100 = true ∧ pcO kM100 = some 0 := ⟨by decide +kernel, rfl⟩
set_option maxRecDepth 100000 in
theorem ckM101 : ackL tbM ckpM miM nmM mtM cX13_generations 11 rkM (some .int) kM101 kM101 = true ∧ pcO kM101 = some 0 := ⟨by decide +kernel, rfl⟩
set_option maxRecDepth 100000 in
theorem ckM102 : ackL tbM ckpM miM nmM mtM cX13_mark 11 rkM (some .boolean) kM102 kM102 = true ∧ pcO kM102 = some 0 := ⟨by decide +kernel, rfl⟩
set_option maxRecDepth 100000 in
theorem ckM103 : ackL tbM ckpM miM nmM mtM cX13_allLeft 11 rkM (some .int) kM103 kM103 = true ∧ pcO kM103 = some 0 := ⟨by decide +kernel, rfl⟩
set_option maxRecDepth 100000 in
theorem ckM104 : ackL tbM ckpM miM nmM mtM cX13_count 11 rkM (some .int) kM104 kM104 = true ∧ pcO kM104 = some 0 := ⟨by decide +kernel, rfl⟩
set_option maxRecDepth 100000 in
theorem okM : ∀ j, j < nmM → aMok (miM j) := aAll_get (n := 105) ⟨⟨⟨⟨⟨⟨⟨⟨⟨⟨⟨⟨⟨⟨⟨⟨⟨⟨⟨⟨⟨⟨⟨⟨⟨⟨⟨⟨⟨⟨⟨⟨⟨⟨⟨⟨⟨⟨⟨⟨⟨⟨⟨⟨⟨⟨⟨⟨⟨⟨⟨⟨⟨⟨⟨⟨⟨⟨⟨⟨⟨⟨⟨⟨⟨⟨⟨⟨⟨⟨⟨⟨⟨⟨⟨⟨⟨⟨⟨⟨⟨⟨⟨⟨⟨⟨⟨⟨⟨⟨⟨⟨⟨⟨⟨⟨⟨⟨⟨⟨⟨⟨⟨⟨⟨trivial, okM0⟩, okM1⟩, okM2⟩, okM3⟩, okM4⟩, okM5⟩, okM6⟩, okM7⟩, okM8⟩, okM9⟩, okM10⟩, okM11⟩, okM12⟩, okM13⟩, okM14⟩, okM15⟩, okM16⟩, okM17⟩, okM18⟩, okM19⟩, okM20⟩, okM21⟩, okM22⟩, okM23⟩, okM24⟩, okM25⟩, okM26⟩, okM27⟩, okM28⟩, okM29⟩, okM30⟩, okM31⟩, okM32⟩, okM33⟩, okM34⟩, okM35⟩, okM36⟩, okM37⟩, okM38⟩, okM39⟩, okM40⟩, okM41⟩, okM42⟩, okM43⟩, okM44⟩, okM45⟩, okM46⟩, okM47⟩, okM48⟩, okM49⟩, okM50⟩, okM51⟩, okM52⟩, okM53⟩, okM54⟩, okM55⟩, okM56⟩, okM57⟩, okM58⟩, okM59⟩, okM60⟩, okM61⟩, okM62⟩, okM63⟩, okM64⟩, okM65⟩, okM66⟩, okM67⟩, okM68⟩, okM69⟩, okM70⟩, okM71⟩, okM72⟩, okM73⟩, okM74⟩, okM75⟩, okM76⟩, okM77⟩, okM78⟩, okM79⟩, okM80⟩, okM81⟩, okM82⟩, okM83⟩, okM84⟩, okM85⟩, okM86⟩, okM87⟩, okM88⟩, okM89⟩, okM90⟩, okM91⟩, okM92⟩, okM93⟩, okM94⟩, okM95⟩, okM96⟩, okM97⟩, okM98⟩, okM99⟩, okM100⟩, okM101⟩, okM102⟩, okM103⟩, okM104⟩
set_option maxRecDepth 100000 in
theorem ckM : ∀ j, j < nmM → ackL tbM ckpM miM nmM mtM (miM j).2.1 (miM j).2.2.2.2.1 rkM (miM j).2.2.2.1 (miM j).2.2.2.2.2.2.2.2 (miM j).2.2.2.2.2.2.2.2 = true ∧ pcO (miM j).2.2.2.2.2.2.2.2 = some 0 := aAll_get (n := 105) ⟨⟨⟨⟨⟨⟨⟨⟨⟨⟨⟨⟨⟨⟨⟨⟨⟨⟨⟨⟨⟨⟨⟨⟨⟨⟨⟨⟨⟨⟨⟨⟨⟨⟨⟨⟨⟨⟨⟨⟨⟨⟨⟨⟨⟨⟨⟨⟨⟨⟨⟨⟨⟨⟨⟨⟨⟨⟨⟨⟨⟨⟨⟨⟨⟨⟨⟨⟨⟨⟨⟨⟨⟨⟨⟨⟨⟨⟨⟨⟨⟨⟨⟨⟨⟨⟨⟨⟨⟨⟨⟨⟨⟨⟨⟨⟨⟨⟨⟨⟨⟨⟨⟨⟨⟨trivial, ckM0⟩, ckM1⟩, ckM2⟩, ckM3⟩, ckM4⟩, ckM5⟩, ckM6⟩, ckM7⟩, ckM8⟩, ckM9⟩, ckM10⟩, ckM11⟩, ckM12⟩, ckM13⟩, ckM14⟩, ckM15⟩, ckM16⟩, ckM17⟩, ckM18⟩, ckM19⟩, ckM20⟩, ckM21⟩, ckM22⟩, ckM23⟩, ckM24⟩, ckM25⟩, ckM26⟩, ckM27⟩, ckM28⟩, ckM29⟩, ckM30⟩, ckM31⟩, ckM32⟩, ckM33⟩, ckM34⟩, ckM35⟩, ckM36⟩, ckM37⟩, ckM38⟩, ckM39⟩, ckM40⟩, ckM41⟩, ckM42⟩, ckM43⟩, ckM44⟩, ckM45⟩, ckM46⟩, ckM47⟩, ckM48⟩, ckM49⟩, ckM50⟩, ckM51⟩, ckM52⟩, ckM53⟩, ckM54⟩, ckM55⟩, ckM56⟩, ckM57⟩, ckM58⟩, ckM59⟩, ckM60⟩, ckM61⟩, ckM62⟩, ckM63⟩, ckM64⟩, ckM65⟩, ckM66⟩, ckM67⟩, ckM68⟩, ckM69⟩, ckM70⟩, ckM71⟩, ckM72⟩, ckM73⟩, ckM74⟩, ckM75⟩, ckM76⟩, ckM77⟩, ckM78⟩, ckM79⟩, ckM80⟩, ckM81⟩, ckM82⟩, ckM83⟩, ckM84⟩, ckM85⟩, ckM86⟩, ckM87⟩, ckM88⟩, ckM89⟩, ckM90⟩, ckM91⟩, ckM92⟩, ckM93⟩, ckM94⟩, ckM95⟩, ckM96⟩, ckM97⟩, ckM98⟩, ckM99⟩, ckM100⟩, ckM101⟩, ckM102⟩, ckM103⟩, ckM104⟩
