/-! the class's rows are those of its bytecode: checked by the kernel -/
set_option maxRecDepth 100000 in
theorem ckX0 : ackL tbX ckpX miX nmX mtX cX1_clear 0 rkX none kX0 kX0 = true ∧ pcO kX0 = some 0 := ⟨by decide +kernel, rfl⟩
set_option maxRecDepth 100000 in
theorem ckX1 : ackL tbX ckpX miX nmX mtX cX1_beginAt 0 rkX none kX1 kX1 = true ∧ pcO kX1 = some 0 := ⟨by decide +kernel, rfl⟩
set_option maxRecDepth 100000 in
theorem ckX2 : ackL tbX ckpX miX nmX mtX cX1_isTold 0 rkX (some .boolean) kX2 kX2 = true ∧ pcO kX2 = some 0 := ⟨by decide +kernel, rfl⟩
set_option maxRecDepth 100000 in
theorem ckX3 : ackL tbX ckpX miX nmX mtX cX1_add 0 rkX none kX3 kX3 = true ∧ pcO kX3 = some 0 := ⟨by decide +kernel, rfl⟩
set_option maxRecDepth 100000 in
theorem ckX4 : ackL tbX ckpX miX nmX mtX cX1_addFact 0 rkX none kX4 kX4 = true ∧ pcO kX4 = some 0 := ⟨by decide +kernel, rfl⟩
set_option maxRecDepth 100000 in
theorem ckX5 : ackL tbX ckpX miX nmX mtX cX1_setFact 0 rkX none kX5 kX5 = true ∧ pcO kX5 = some 0 := ⟨by decide +kernel, rfl⟩
set_option maxRecDepth 100000 in
theorem ckX6 : ackL tbX ckpX miX nmX mtX cX1_held 0 rkX (some .int) kX6 kX6 = true ∧ pcO kX6 = some 0 := ⟨by decide +kernel, rfl⟩
set_option maxRecDepth 100000 in
theorem ckX7 : ackL tbX ckpX miX nmX mtX cX1_factAt 0 rkX (some .int) kX7 kX7 = true ∧ pcO kX7 = some 0 := ⟨by decide +kernel, rfl⟩
set_option maxRecDepth 100000 in
theorem ckX8 : ackL tbX ckpX miX nmX mtX cX1_joined 0 rkX (some .int) kX8 kX8 = true ∧ pcO kX8 = some 0 := ⟨by decide +kernel, rfl⟩
set_option maxRecDepth 100000 in
theorem ckX9 : ackL tbX ckpX miX nmX mtX cX2_readE 1 rkX (some .boolean) kX9 kX9 = true ∧ pcO kX9 = some 0 := ⟨by decide +kernel, rfl⟩
set_option maxRecDepth 100000 in
theorem ckX10 : ackL tbX ckpX miX nmX mtX cX2_readTest 1 rkX (some .boolean) kX10 kX10 = true ∧ pcO kX10 = some 0 := ⟨by decide +kernel, rfl⟩
set_option maxRecDepth 100000 in
theorem ckX11 : ackL tbX ckpX miX nmX mtX cX2_readSum 1 rkX (some .boolean) kX11 kX11 = true ∧ pcO kX11 = some 0 := ⟨by decide +kernel, rfl⟩
set_option maxRecDepth 100000 in
theorem ckX12 : ackL tbX ckpX miX nmX mtX cX2_readProduct 1 rkX (some .boolean) kX12 kX12 = true ∧ pcO kX12 = some 0 := ⟨by decide +kernel, rfl⟩
set_option maxRecDepth 100000 in
theorem ckX13 : ackL tbX ckpX miX nmX mtX cX2_readPart 1 rkX (some .boolean) kX13 kX13 = true ∧ pcO kX13 = some 0 := ⟨by decide +kernel, rfl⟩
set_option maxRecDepth 100000 in
theorem ckX14 : ackL tbX ckpX miX nmX mtX cX2_readToClose 1 rkX (some .boolean) kX14 kX14 = true ∧ pcO kX14 = some 0 := ⟨by decide +kernel, rfl⟩
set_option maxRecDepth 100000 in
theorem ckX15 : ackL tbX ckpX miX nmX mtX cX2_factTold 1 rkX (some .int) kX15 kX15 = true ∧ pcO kX15 = some 0 := ⟨by decide +kernel, rfl⟩
set_option maxRecDepth 100000 in
theorem ckX16 : ackL tbX ckpX miX nmX mtX cX2_factOfWrites 1 rkX (some .int) kX16 kX16 = true ∧ pcO kX16 = some 0 := ⟨by decide +kernel, rfl⟩
set_option maxRecDepth 100000 in
theorem ckX17 : ackL tbX ckpX miX nmX mtX cX2_factOfDoes 1 rkX (some .int) kX17 kX17 = true ∧ pcO kX17 = some 0 := ⟨by decide +kernel, rfl⟩
set_option maxRecDepth 100000 in
theorem ckX18 : ackL tbX ckpX miX nmX mtX cX3_forget 2 rkX none kX18 kX18 = true ∧ pcO kX18 = some 0 := ⟨by decide +kernel, rfl⟩
set_option maxRecDepth 100000 in
theorem ckX19 : ackL tbX ckpX miX nmX mtX cX3_keep 2 rkX none kX19 kX19 = true ∧ pcO kX19 = some 0 := ⟨by decide +kernel, rfl⟩
set_option maxRecDepth 100000 in
theorem ckX20 : ackL tbX ckpX miX nmX mtX cX3_giveBack 2 rkX (some .boolean) kX20 kX20 = true ∧ pcO kX20 = some 0 := ⟨by decide +kernel, rfl⟩
set_option maxRecDepth 100000 in
theorem ckX21 : ackL tbX ckpX miX nmX mtX cX4_likelyBehind 3 rkX (some .int) kX21 kX21 = true ∧ pcO kX21 = some 0 := ⟨by decide +kernel, rfl⟩
set_option maxRecDepth 100000 in
theorem ckX22 : ackL tbX ckpX miX nmX mtX cX4_totalBehind 3 rkX (some .int) kX22 kX22 = true ∧ pcO kX22 = some 0 := ⟨by decide +kernel, rfl⟩
set_option maxRecDepth 100000 in
theorem ckX23 : ackL tbX ckpX miX nmX mtX cX4_weighBehind 3 rkX none kX23 kX23 = true ∧ pcO kX23 = some 0 := ⟨by decide +kernel, rfl⟩
set_option maxRecDepth 100000 in
theorem ckX24 : ackL tbX ckpX miX nmX mtX cX4_weighNext 3 rkX (some .int) kX24 kX24 = true ∧ pcO kX24 = some 0 := ⟨by decide +kernel, rfl⟩
set_option maxRecDepth 100000 in
theorem ckX25 : ackL tbX ckpX miX nmX mtX cX4_weighAll 3 rkX none kX25 kX25 = true ∧ pcO kX25 = some 0 := ⟨by decide +kernel, rfl⟩
set_option maxRecDepth 100000 in
theorem ckX26 : ackL tbX ckpX miX nmX mtX cX4_likeliestAtBeginning 3 rkX (some .int) kX26 kX26 = true ∧ pcO kX26 = some 0 := ⟨by decide +kernel, rfl⟩
set_option maxRecDepth 100000 in
theorem ckX27 : ackL tbX ckpX miX nmX mtX cX4_drawnAtBeginning 3 rkX (some .int) kX27 kX27 = true ∧ pcO kX27 = some 0 := ⟨by decide +kernel, rfl⟩
set_option maxRecDepth 100000 in
theorem ckX28 : ackL tbX ckpX miX nmX mtX cX4_chanceOf 3 rkX (some .int) kX28 kX28 = true ∧ pcO kX28 = some 0 := ⟨by decide +kernel, rfl⟩
set_option maxRecDepth 100000 in
theorem ckX29 : ackL tbX ckpX miX nmX mtX cX4_inMillionths 3 rkX (some .int) kX29 kX29 = true ∧ pcO kX29 = some 0 := ⟨by decide +kernel, rfl⟩
set_option maxRecDepth 100000 in
theorem ckX30 : ackL tbX ckpX miX nmX mtX cX4_gatherRows 3 rkX none kX30 kX30 = true ∧ pcO kX30 = some 0 := ⟨by decide +kernel, rfl⟩
set_option maxRecDepth 100000 in
theorem ckX31 : ackL tbX ckpX miX nmX mtX cX4_extend 3 rkX none kX31 kX31 = true ∧ pcO kX31 = some 0 := ⟨by decide +kernel, rfl⟩
set_option maxRecDepth 100000 in
theorem ckX32 : ackL tbX ckpX miX nmX mtX cX4_keepRow 3 rkX none kX32 kX32 = true ∧ pcO kX32 = some 0 := ⟨by decide +kernel, rfl⟩
set_option maxRecDepth 100000 in
theorem ckX33 : ackL tbX ckpX miX nmX mtX cX4_greatestRow 3 rkX (some .int) kX33 kX33 = true ∧ pcO kX33 = some 0 := ⟨by decide +kernel, rfl⟩
set_option maxRecDepth 100000 in
theorem ckX34 : ackL tbX ckpX miX nmX mtX cX4_hasRow 3 rkX (some .boolean) kX34 kX34 = true ∧ pcO kX34 = some 0 := ⟨by decide +kernel, rfl⟩
set_option maxRecDepth 100000 in
theorem ckX35 : ackL tbX ckpX miX nmX mtX cX4_millionths 3 rkX (some .int) kX35 kX35 = true ∧ pcO kX35 = some 0 := ⟨by decide +kernel, rfl⟩
set_option maxRecDepth 100000 in
theorem ckX36 : ackL tbX ckpX miX nmX mtX cX4_wordOfRow 3 rkX (some .int) kX36 kX36 = true ∧ pcO kX36 = some 0 := ⟨by decide +kernel, rfl⟩
set_option maxRecDepth 100000 in
theorem ckX37 : ackL tbX ckpX miX nmX mtX cX5_begin 4 rkX none kX37 kX37 = true ∧ pcO kX37 = some 0 := ⟨by decide +kernel, rfl⟩
set_option maxRecDepth 100000 in
theorem ckX38 : ackL tbX ckpX miX nmX mtX cX5_copyFrom 4 rkX none kX38 kX38 = true ∧ pcO kX38 = some 0 := ⟨by decide +kernel, rfl⟩
set_option maxRecDepth 100000 in
theorem ckX39 : ackL tbX ckpX miX nmX mtX cX5_takeLines 4 rkX none kX39 kX39 = true ∧ pcO kX39 = some 0 := ⟨by decide +kernel, rfl⟩
set_option maxRecDepth 100000 in
theorem ckX40 : ackL tbX ckpX miX nmX mtX cX5_lineAt 4 rkX (some .int) kX40 kX40 = true ∧ pcO kX40 = some 0 := ⟨by decide +kernel, rfl⟩
set_option maxRecDepth 100000 in
theorem ckX41 : ackL tbX ckpX miX nmX mtX cX6_readRealm 5 rkX (some .int) kX41 kX41 = true ∧ pcO kX41 = some 0 := ⟨by decide +kernel, rfl⟩
set_option maxRecDepth 100000 in
theorem ckX42 : ackL tbX ckpX miX nmX mtX cX6_readWriter 5 rkX (some .boolean) kX42 kX42 = true ∧ pcO kX42 = some 0 := ⟨by decide +kernel, rfl⟩
set_option maxRecDepth 100000 in
theorem ckX43 : ackL tbX ckpX miX nmX mtX cX6_kindTold 5 rkX (some .int) kX43 kX43 = true ∧ pcO kX43 = some 0 := ⟨by decide +kernel, rfl⟩
set_option maxRecDepth 100000 in
theorem ckX44 : ackL tbX ckpX miX nmX mtX cX6_readWord 5 rkX (some .boolean) kX44 kX44 = true ∧ pcO kX44 = some 0 := ⟨by decide +kernel, rfl⟩
set_option maxRecDepth 100000 in
theorem ckX45 : ackL tbX ckpX miX nmX mtX cX6_readEntry 5 rkX (some .boolean) kX45 kX45 = true ∧ pcO kX45 = some 0 := ⟨by decide +kernel, rfl⟩
set_option maxRecDepth 100000 in
theorem ckX46 : ackL tbX ckpX miX nmX mtX cX6_readLikes 5 rkX (some .boolean) kX46 kX46 = true ∧ pcO kX46 = some 0 := ⟨by decide +kernel, rfl⟩
set_option maxRecDepth 100000 in
theorem ckX47 : ackL tbX ckpX miX nmX mtX cX6_readClash 5 rkX (some .boolean) kX47 kX47 = true ∧ pcO kX47 = some 0 := ⟨by decide +kernel, rfl⟩
set_option maxRecDepth 100000 in
theorem ckX48 : ackL tbX ckpX miX nmX mtX cX6_readFolds 5 rkX (some .boolean) kX48 kX48 = true ∧ pcO kX48 = some 0 := ⟨by decide +kernel, rfl⟩
set_option maxRecDepth 100000 in
theorem ckX49 : ackL tbX ckpX miX nmX mtX cX6_readFormula 5 rkX (some .boolean) kX49 kX49 = true ∧ pcO kX49 = some 0 := ⟨by decide +kernel, rfl⟩
set_option maxRecDepth 100000 in
theorem ckX50 : ackL tbX ckpX miX nmX mtX cX6_readSundays 5 rkX (some .int) kX50 kX50 = true ∧ pcO kX50 = some 0 := ⟨by decide +kernel, rfl⟩
set_option maxRecDepth 100000 in
theorem ckX51 : ackL tbX ckpX miX nmX mtX cX6_readSundayLine 5 rkX (some .boolean) kX51 kX51 = true ∧ pcO kX51 = some 0 := ⟨by decide +kernel, rfl⟩
set_option maxRecDepth 100000 in
theorem ckX52 : ackL tbX ckpX miX nmX mtX cX6_failAtName 5 rkX (some .boolean) kX52 kX52 = true ∧ pcO kX52 = some 0 := ⟨by decide +kernel, rfl⟩
set_option maxRecDepth 100000 in
theorem ckX53 : ackL tbX ckpX miX nmX mtX cX6_isNewName 5 rkX (some .boolean) kX53 kX53 = true ∧ pcO kX53 = some 0 := ⟨by decide +kernel, rfl⟩
set_option maxRecDepth 100000 in
theorem ckX54 : ackL tbX ckpX miX nmX mtX cX6_isNumber 5 rkX (some .boolean) kX54 kX54 = true ∧ pcO kX54 = some 0 := ⟨by decide +kernel, rfl⟩
set_option maxRecDepth 100000 in
theorem ckX55 : ackL tbX ckpX miX nmX mtX cX7_clear 6 rkX none kX55 kX55 = true ∧ pcO kX55 = some 0 := ⟨by decide +kernel, rfl⟩
set_option maxRecDepth 100000 in
theorem ckX56 : ackL tbX ckpX miX nmX mtX cX7_hasWriter 6 rkX (some .boolean) kX56 kX56 = true ∧ pcO kX56 = some 0 := ⟨by decide +kernel, rfl⟩
set_option maxRecDepth 100000 in
theorem ckX57 : ackL tbX ckpX miX nmX mtX cX7_hasWord 6 rkX (some .boolean) kX57 kX57 = true ∧ pcO kX57 = some 0 := ⟨by decide +kernel, rfl⟩
set_option maxRecDepth 100000 in
theorem ckX58 : ackL tbX ckpX miX nmX mtX cX7_foldOf 6 rkX (some .int) kX58 kX58 = true ∧ pcO kX58 = some 0 := ⟨by decide +kernel, rfl⟩
set_option maxRecDepth 100000 in
theorem ckX59 : ackL tbX ckpX miX nmX mtX cX7_isWritten 6 rkX (some .boolean) kX59 kX59 = true ∧ pcO kX59 = some 0 := ⟨by decide +kernel, rfl⟩
set_option maxRecDepth 100000 in
theorem ckX60 : ackL tbX ckpX miX nmX mtX cX7_goodOfWord 6 rkX (some .int) kX60 kX60 = true ∧ pcO kX60 = some 0 := ⟨by decide +kernel, rfl⟩
set_option maxRecDepth 100000 in
theorem ckX61 : ackL tbX ckpX miX nmX mtX cX7_kindOf 6 rkX (some .int) kX61 kX61 = true ∧ pcO kX61 = some 0 := ⟨by decide +kernel, rfl⟩
set_option maxRecDepth 100000 in
theorem ckX62 : ackL tbX ckpX miX nmX mtX cX7_fondness 6 rkX (some .int) kX62 kX62 = true ∧ pcO kX62 = some 0 := ⟨by decide +kernel, rfl⟩
set_option maxRecDepth 100000 in
theorem ckX63 : ackL tbX ckpX miX nmX mtX cX7_setFondness 6 rkX none kX63 kX63 = true ∧ pcO kX63 = some 0 := ⟨by decide +kernel, rfl⟩
set_option maxRecDepth 100000 in
theorem ckX64 : ackL tbX ckpX miX nmX mtX cX7_findWriter 6 rkX (some .int) kX64 kX64 = true ∧ pcO kX64 = some 0 := ⟨by decide +kernel, rfl⟩
set_option maxRecDepth 100000 in
theorem ckX65 : ackL tbX ckpX miX nmX mtX cX7_findWord 6 rkX (some .int) kX65 kX65 = true ∧ pcO kX65 = some 0 := ⟨by decide +kernel, rfl⟩
set_option maxRecDepth 100000 in
theorem ckX66 : ackL tbX ckpX miX nmX mtX cX7_doClash 6 rkX (some .boolean) kX66 kX66 = true ∧ pcO kX66 = some 0 := ⟨by decide +kernel, rfl⟩
set_option maxRecDepth 100000 in
theorem ckX67 : ackL tbX ckpX miX nmX mtX cX7_setClash 6 rkX none kX67 kX67 = true ∧ pcO kX67 = some 0 := ⟨by decide +kernel, rfl⟩
set_option maxRecDepth 100000 in
theorem ckX68 : ackL tbX ckpX miX nmX mtX cX7_bitsOfFold 6 rkX (some .int) kX68 kX68 = true ∧ pcO kX68 = some 0 := ⟨by decide +kernel, rfl⟩
set_option maxRecDepth 100000 in
theorem ckX69 : ackL tbX ckpX miX nmX mtX cX7_wordOfFold 6 rkX (some .int) kX69 kX69 = true ∧ pcO kX69 = some 0 := ⟨by decide +kernel, rfl⟩
set_option maxRecDepth 100000 in
theorem ckX70 : ackL tbX ckpX miX nmX mtX cX7_isRow 6 rkX (some .boolean) kX70 kX70 = true ∧ pcO kX70 = some 0 := ⟨by decide +kernel, rfl⟩
set_option maxRecDepth 100000 in
theorem ckX71 : ackL tbX ckpX miX nmX mtX cX7_writerAt 6 rkX (some .int) kX71 kX71 = true ∧ pcO kX71 = some 0 := ⟨by decide +kernel, rfl⟩
set_option maxRecDepth 100000 in
theorem ckX72 : ackL tbX ckpX miX nmX mtX cX7_seatBehind 6 rkX (some .int) kX72 kX72 = true ∧ pcO kX72 = some 0 := ⟨by decide +kernel, rfl⟩
set_option maxRecDepth 100000 in
theorem ckX73 : ackL tbX ckpX miX nmX mtX cX7_likely 6 rkX (some .int) kX73 kX73 = true ∧ pcO kX73 = some 0 := ⟨by decide +kernel, rfl⟩
set_option maxRecDepth 100000 in
theorem ckX74 : ackL tbX ckpX miX nmX mtX cX7_goodOf 6 rkX (some .int) kX74 kX74 = true ∧ pcO kX74 = some 0 := ⟨by decide +kernel, rfl⟩
set_option maxRecDepth 100000 in
theorem ckX75 : ackL tbX ckpX miX nmX mtX cX8_of 7 rkX (some .int) kX75 kX75 = true ∧ pcO kX75 = some 0 := ⟨by decide +kernel, rfl⟩
set_option maxRecDepth 100000 in
theorem ckX76 : ackL tbX ckpX miX nmX mtX cX8_atLast 7 rkX (some .int) kX76 kX76 = true ∧ pcO kX76 = some 0 := ⟨by decide +kernel, rfl⟩
set_option maxRecDepth 100000 in
theorem ckX77 : ackL tbX ckpX miX nmX mtX cX8_pour 7 rkX none kX77 kX77 = true ∧ pcO kX77 = some 0 := ⟨by decide +kernel, rfl⟩
set_option maxRecDepth 100000 in
theorem ckX78 : ackL tbX ckpX miX nmX mtX cX8_pourBehind 7 rkX none kX78 kX78 = true ∧ pcO kX78 = some 0 := ⟨by decide +kernel, rfl⟩
set_option maxRecDepth 100000 in
theorem ckX79 : ackL tbX ckpX miX nmX mtX cX8_empty 7 rkX none kX79 kX79 = true ∧ pcO kX79 = some 0 := ⟨by decide +kernel, rfl⟩
set_option maxRecDepth 100000 in
theorem ckX80 : ackL tbX ckpX miX nmX mtX cX8_flow 7 rkX none kX80 kX80 = true ∧ pcO kX80 = some 0 := ⟨by decide +kernel, rfl⟩
set_option maxRecDepth 100000 in
theorem ckX81 : ackL tbX ckpX miX nmX mtX cX8_share 7 rkX none kX81 kX81 = true ∧ pcO kX81 = some 0 := ⟨by decide +kernel, rfl⟩
set_option maxRecDepth 100000 in
theorem ckX82 : ackL tbX ckpX miX nmX mtX cX8_keepAlone 7 rkX none kX82 kX82 = true ∧ pcO kX82 = some 0 := ⟨by decide +kernel, rfl⟩
set_option maxRecDepth 100000 in
theorem ckX83 : ackL tbX ckpX miX nmX mtX cX10_begin 8 rkX none kX83 kX83 = true ∧ pcO kX83 = some 0 := ⟨by decide +kernel, rfl⟩
set_option maxRecDepth 100000 in
theorem ckX84 : ackL tbX ckpX miX nmX mtX cX10_copyFrom 8 rkX none kX84 kX84 = true ∧ pcO kX84 = some 0 := ⟨by decide +kernel, rfl⟩
set_option maxRecDepth 100000 in
theorem ckX85 : ackL tbX ckpX miX nmX mtX cX10_stripAt 8 rkX (some .int) kX85 kX85 = true ∧ pcO kX85 = some 0 := ⟨by decide +kernel, rfl⟩
set_option maxRecDepth 100000 in
theorem ckX86 : ackL tbX ckpX miX nmX mtX cX10_hasWhole 8 rkX (some .boolean) kX86 kX86 = true ∧ pcO kX86 = some 0 := ⟨by decide +kernel, rfl⟩
set_option maxRecDepth 100000 in
theorem ckX87 : ackL tbX ckpX miX nmX mtX cX10_spikeAt 8 rkX (some .int) kX87 kX87 = true ∧ pcO kX87 = some 0 := ⟨by decide +kernel, rfl⟩
set_option maxRecDepth 100000 in
theorem ckX88 : ackL tbX ckpX miX nmX mtX cX10_leftOf 8 rkX (some .int) kX88 kX88 = true ∧ pcO kX88 = some 0 := ⟨by decide +kernel, rfl⟩
set_option maxRecDepth 100000 in
theorem ckX89 : ackL tbX ckpX miX nmX mtX cX10_leftTogether 8 rkX (some .int) kX89 kX89 = true ∧ pcO kX89 = some 0 := ⟨by decide +kernel, rfl⟩
set_option maxRecDepth 100000 in
theorem ckX90 : ackL tbX ckpX miX nmX mtX cX10_canPut 8 rkX (some .boolean) kX90 kX90 = true ∧ pcO kX90 = some 0 := ⟨by decide +kernel, rfl⟩
set_option maxRecDepth 100000 in
theorem ckX91 : ackL tbX ckpX miX nmX mtX cX10_put 8 rkX none kX91 kX91 = true ∧ pcO kX91 = some 0 := ⟨by decide +kernel, rfl⟩
set_option maxRecDepth 100000 in
theorem ckX92 : ackL tbX ckpX miX nmX mtX cX10_putOnSpike 8 rkX none kX92 kX92 = true ∧ pcO kX92 = some 0 := ⟨by decide +kernel, rfl⟩
set_option maxRecDepth 100000 in
theorem ckX93 : ackL tbX ckpX miX nmX mtX cX10_closeGap 8 rkX none kX93 kX93 = true ∧ pcO kX93 = some 0 := ⟨by decide +kernel, rfl⟩
set_option maxRecDepth 100000 in
theorem ckX94 : ackL tbX ckpX miX nmX mtX cX10_canMoveSeat 8 rkX (some .boolean) kX94 kX94 = true ∧ pcO kX94 = some 0 := ⟨by decide +kernel, rfl⟩
set_option maxRecDepth 100000 in
theorem ckX95 : ackL tbX ckpX miX nmX mtX cX10_moveSeat 8 rkX none kX95 kX95 = true ∧ pcO kX95 = some 0 := ⟨by decide +kernel, rfl⟩
set_option maxRecDepth 100000 in
theorem ckX96 : ackL tbX ckpX miX nmX mtX cX10_takeDown 8 rkX none kX96 kX96 = true ∧ pcO kX96 = some 0 := ⟨by decide +kernel, rfl⟩
set_option maxRecDepth 100000 in
theorem ckX97 : ackL tbX ckpX miX nmX mtX cX10_follow 8 rkX (some .boolean) kX97 kX97 = true ∧ pcO kX97 = some 0 := ⟨by decide +kernel, rfl⟩
set_option maxRecDepth 100000 in
theorem ckX98 : ackL tbX ckpX miX nmX mtX cX10_cameBy 8 rkX (some .boolean) kX98 kX98 = true ∧ pcO kX98 = some 0 := ⟨by decide +kernel, rfl⟩
set_option maxRecDepth 100000 in
theorem ckX99 : ackL tbX ckpX miX nmX mtX cX10_lastClashes 8 rkX (some .boolean) kX99 kX99 = true ∧ pcO kX99 = some 0 := ⟨by decide +kernel, rfl⟩
set_option maxRecDepth 100000 in
theorem ckX100 : ackL tbX ckpX miX nmX mtX cX10_areClashing 8 rkX (some .boolean) kX100 kX100 = true ∧ pcO kX100 = some 0 := ⟨by decide +kernel, rfl⟩
set_option maxRecDepth 100000 in
theorem ckX101 : ackL tbX ckpX miX nmX mtX cX10_foesOf 8 rkX (some .int) kX101 kX101 = true ∧ pcO kX101 = some 0 := ⟨by decide +kernel, rfl⟩
set_option maxRecDepth 100000 in
theorem ckX102 : ackL tbX ckpX miX nmX mtX cX10_clashCount 8 rkX (some .int) kX102 kX102 = true ∧ pcO kX102 = some 0 := ⟨by decide +kernel, rfl⟩
set_option maxRecDepth 100000 in
theorem ckX103 : ackL tbX ckpX miX nmX mtX cX11_append 9 rkX none kX103 kX103 = true ∧ pcO kX103 = some 0 := ⟨by decide +kernel, rfl⟩
set_option maxRecDepth 100000 in
theorem ckX104 : ackL tbX ckpX miX nmX mtX cX11_takeOff 9 rkX none kX104 kX104 = true ∧ pcO kX104 = some 0 := ⟨by decide +kernel, rfl⟩
set_option maxRecDepth 100000 in
theorem ckX105 : ackL tbX ckpX miX nmX mtX cX11_begin 9 rkX none kX105 kX105 = true ∧ pcO kX105 = some 0 := ⟨by decide +kernel, rfl⟩
set_option maxRecDepth 100000 in
theorem ckX106 : ackL tbX ckpX miX nmX mtX cX11_fail 9 rkX (some .boolean) kX106 kX106 = true ∧ pcO kX106 = some 0 := ⟨by decide +kernel, rfl⟩
set_option maxRecDepth 100000 in
theorem ckX107 : ackL tbX ckpX miX nmX mtX cX11_is 9 rkX (some .boolean) kX107 kX107 = true ∧ pcO kX107 = some 0 := ⟨by decide +kernel, rfl⟩
set_option maxRecDepth 100000 in
theorem ckX108 : ackL tbX ckpX miX nmX mtX cX11_skip 9 rkX (some .boolean) kX108 kX108 = true ∧ pcO kX108 = some 0 := ⟨by decide +kernel, rfl⟩
set_option maxRecDepth 100000 in
theorem ckX109 : ackL tbX ckpX miX nmX mtX cX11_step 9 rkX none kX109 kX109 = true ∧ pcO kX109 = some 0 := ⟨by decide +kernel, rfl⟩
set_option maxRecDepth 100000 in
theorem ckX110 : ackL tbX ckpX miX nmX mtX cX11_takeLetters 9 rkX none kX110 kX110 = true ∧ pcO kX110 = some 0 := ⟨by decide +kernel, rfl⟩
set_option maxRecDepth 100000 in
theorem ckX111 : ackL tbX ckpX miX nmX mtX cX11_takeDigits 9 rkX none kX111 kX111 = true ∧ pcO kX111 = some 0 := ⟨by decide +kernel, rfl⟩
set_option maxRecDepth 100000 in
theorem ckX112 : ackL tbX ckpX miX nmX mtX cX11_sortTaken 9 rkX (some (.object "FoldedRealm$Sort")) kX112 kX112 = true ∧ pcO kX112 = some 0 := ⟨by decide +kernel, rfl⟩
set_option maxRecDepth 100000 in
theorem ckX113 : ackL tbX ckpX miX nmX mtX cX11_hasText 9 rkX (some .boolean) kX113 kX113 = true ∧ pcO kX113 = some 0 := ⟨by decide +kernel, rfl⟩
set_option maxRecDepth 100000 in
theorem ckX114 : ackL tbX ckpX miX nmX mtX cX11_isLetter 9 rkX (some .boolean) kX114 kX114 = true ∧ pcO kX114 = some 0 := ⟨by decide +kernel, rfl⟩
set_option maxRecDepth 100000 in
theorem ckX115 : ackL tbX ckpX miX nmX mtX cX11_isDigit 9 rkX (some .boolean) kX115 kX115 = true ∧ pcO kX115 = some 0 := ⟨by decide +kernel, rfl⟩
set_option maxRecDepth 100000 in
theorem ckX116 : ackL tbX ckpX miX nmX mtX cX12_feed 10 rkX (some .int) kX116 kX116 = true ∧ pcO kX116 = some 0 := ⟨by decide +kernel, rfl⟩
set_option maxRecDepth 100000 in
theorem ckX117 : ackL tbX ckpX miX nmX mtX cX12_realm 10 rkX (some .int) kX117 kX117 = true ∧ pcO kX117 = some 0 := ⟨by decide +kernel, rfl⟩
set_option maxRecDepth 100000 in
theorem ckX118 : ackL tbX ckpX miX nmX mtX cX12_sundays 10 rkX (some .int) kX118 kX118 = true ∧ pcO kX118 = some 0 := ⟨by decide +kernel, rfl⟩
set_option maxRecDepth 100000 in
theorem ckX119 : ackL tbX ckpX miX nmX mtX cX12_writer 10 rkX (some .int) kX119 kX119 = true ∧ pcO kX119 = some 0 := ⟨by decide +kernel, rfl⟩
set_option maxRecDepth 100000 in
theorem ckX120 : ackL tbX ckpX miX nmX mtX cX12_word 10 rkX (some .int) kX120 kX120 = true ∧ pcO kX120 = some 0 := ⟨by decide +kernel, rfl⟩
set_option maxRecDepth 100000 in
theorem ckX121 : ackL tbX ckpX miX nmX mtX cX12_likelyNow 10 rkX (some .int) kX121 kX121 = true ∧ pcO kX121 = some 0 := ⟨by decide +kernel, rfl⟩
set_option maxRecDepth 100000 in
theorem ckX122 : ackL tbX ckpX miX nmX mtX cX12_strip 10 rkX (some .int) kX122 kX122 = true ∧ pcO kX122 = some 0 := ⟨by decide +kernel, rfl⟩
set_option maxRecDepth 100000 in
theorem ckX123 : ackL tbX ckpX miX nmX mtX cX12_spike 10 rkX (some .int) kX123 kX123 = true ∧ pcO kX123 = some 0 := ⟨by decide +kernel, rfl⟩
set_option maxRecDepth 100000 in
theorem ckX124 : ackL tbX ckpX miX nmX mtX cX12_write 10 rkX (some .int) kX124 kX124 = true ∧ pcO kX124 = some 0 := ⟨by decide +kernel, rfl⟩
set_option maxRecDepth 100000 in
theorem ckX125 : ackL tbX ckpX miX nmX mtX cX12_pass 10 rkX (some .int) kX125 kX125 = true ∧ pcO kX125 = some 0 := ⟨by decide +kernel, rfl⟩
set_option maxRecDepth 100000 in
theorem ckX126 : ackL tbX ckpX miX nmX mtX cX12_burn 10 rkX (some .int) kX126 kX126 = true ∧ pcO kX126 = some 0 := ⟨by decide +kernel, rfl⟩
set_option maxRecDepth 100000 in
theorem ckX127 : ackL tbX ckpX miX nmX mtX cX12_undo 10 rkX (some .boolean) kX127 kX127 = true ∧ pcO kX127 = some 0 := ⟨by decide +kernel, rfl⟩
set_option maxRecDepth 100000 in
theorem ckX128 : ackL tbX ckpX miX nmX mtX cX12_judged 10 rkX (some .int) kX128 kX128 = true ∧ pcO kX128 = some 0 := ⟨by decide +kernel, rfl⟩
set_option maxRecDepth 100000 in
theorem ckX129 : ackL tbX ckpX miX nmX mtX cX12_comes 10 rkX (some .int) kX129 kX129 = true ∧ pcO kX129 = some 0 := ⟨by decide +kernel, rfl⟩
set_option maxRecDepth 100000 in
theorem ckX130 : ackL tbX ckpX miX nmX mtX cX12_best 10 rkX (some .int) kX130 kX130 = true ∧ pcO kX130 = some 0 := ⟨by decide +kernel, rfl⟩
set_option maxRecDepth 100000 in
theorem ckX131 : ackL tbX ckpX miX nmX mtX cX12_worst 10 rkX (some .int) kX131 kX131 = true ∧ pcO kX131 = some 0 := ⟨by decide +kernel, rfl⟩
set_option maxRecDepth 100000 in
theorem ckX132 : ackL tbX ckpX miX nmX mtX cX12_mean 10 rkX (some .int) kX132 kX132 = true ∧ pcO kX132 = some 0 := ⟨by decide +kernel, rfl⟩
set_option maxRecDepth 100000 in
theorem ckX133 : ackL tbX ckpX miX nmX mtX cX12_aim 10 rkX (some .int) kX133 kX133 = true ∧ pcO kX133 = some 0 := ⟨by decide +kernel, rfl⟩
set_option maxRecDepth 100000 in
theorem ckX134 : ackL tbX ckpX miX nmX mtX cX12_meet 10 rkX (some .int) kX134 kX134 = true ∧ pcO kX134 = some 0 := ⟨by decide +kernel, rfl⟩
set_option maxRecDepth 100000 in
theorem ckX135 : ackL tbX ckpX miX nmX mtX cX12_sharedBy 10 rkX (some .int) kX135 kX135 = true ∧ pcO kX135 = some 0 := ⟨by decide +kernel, rfl⟩
set_option maxRecDepth 100000 in
theorem ckX136 : ackL tbX ckpX miX nmX mtX cX12_clashes 10 rkX (some .int) kX136 kX136 = true ∧ pcO kX136 = some 0 := ⟨by decide +kernel, rfl⟩
set_option maxRecDepth 100000 in
theorem ckX137 : ackL tbX ckpX miX nmX mtX cX12_fire 10 rkX (some .int) kX137 kX137 = true ∧ pcO kX137 = some 0 := ⟨by decide +kernel, rfl⟩
set_option maxRecDepth 100000 in
theorem ckX138 : ackL tbX ckpX miX nmX mtX cX12_isPeaceWithout 10 rkX (some .boolean) kX138 kX138 = true ∧ pcO kX138 = some 0 := ⟨by decide +kernel, rfl⟩
set_option maxRecDepth 100000 in
theorem ckX139 : ackL tbX ckpX miX nmX mtX cX12_read 10 rkX (some .boolean) kX139 kX139 = true ∧ pcO kX139 = some 0 := ⟨by decide +kernel, rfl⟩
set_option maxRecDepth 100000 in
theorem ckX140 : ackL tbX ckpX miX nmX mtX cX12_began 10 rkX (some .int) kX140 kX140 = true ∧ pcO kX140 = some 0 := ⟨by decide +kernel, rfl⟩
set_option maxRecDepth 100000 in
theorem ckX141 : ackL tbX ckpX miX nmX mtX cX12_sure 10 rkX (some .int) kX141 kX141 = true ∧ pcO kX141 = some 0 := ⟨by decide +kernel, rfl⟩
set_option maxRecDepth 100000 in
theorem ckX142 : ackL tbX ckpX miX nmX mtX cX12_ask 10 rkX (some .int) kX142 kX142 = true ∧ pcO kX142 = some 0 := ⟨by decide +kernel, rfl⟩
set_option maxRecDepth 100000 in
theorem ckX143 : ackL tbX ckpX miX nmX mtX cX12_likeliestBy 10 rkX (some .int) kX143 kX143 = true ∧ pcO kX143 = some 0 := ⟨by decide +kernel, rfl⟩
set_option maxRecDepth 100000 in
theorem ckX144 : ackL tbX ckpX miX nmX mtX cX12_spent 10 rkX (some .int) kX144 kX144 = true ∧ pcO kX144 = some 0 := ⟨by decide +kernel, rfl⟩
set_option maxRecDepth 100000 in
theorem ckX145 : ackL tbX ckpX miX nmX mtX cX12_isPrize 10 rkX (some .boolean) kX145 kX145 = true ∧ pcO kX145 = some 0 := ⟨by decide +kernel, rfl⟩
set_option maxRecDepth 100000 in
theorem ckX146 : ackL tbX ckpX miX nmX mtX cX12_prize 10 rkX (some .int) kX146 kX146 = true ∧ pcO kX146 = some 0 := ⟨by decide +kernel, rfl⟩
set_option maxRecDepth 100000 in
theorem ckX147 : ackL tbX ckpX miX nmX mtX cX12_generations 10 rkX (some .int) kX147 kX147 = true ∧ pcO kX147 = some 0 := ⟨by decide +kernel, rfl⟩
set_option maxRecDepth 100000 in
theorem ckX148 : ackL tbX ckpX miX nmX mtX cX12_mark 10 rkX (some .boolean) kX148 kX148 = true ∧ pcO kX148 = some 0 := ⟨by decide +kernel, rfl⟩
set_option maxRecDepth 100000 in
theorem ckX149 : ackL tbX ckpX miX nmX mtX cX12_count 10 rkX (some .int) kX149 kX149 = true ∧ pcO kX149 = some 0 := ⟨by decide +kernel, rfl⟩
set_option maxRecDepth 100000 in
theorem ckX150 : ackL tbX ckpX miX nmX mtX cJ6_bitCount_0f7a4 13 rkX (some .int) kX150 kX150 = true ∧ pcO kX150 = some 0 := ⟨by decide +kernel, rfl⟩
set_option maxRecDepth 100000 in
theorem ckX151 : ackL tbX ckpX miX nmX mtX cJ9_floorMod_7cf53 14 rkX (some .int) kX151 kX151 = true ∧ pcO kX151 = some 0 := ⟨by decide +kernel, rfl⟩
set_option maxRecDepth 100000 in
theorem okX : ∀ j, j < nmX → aMok (miX j) := aAll_get (n := 152) ⟨⟨⟨⟨⟨⟨⟨⟨⟨⟨⟨⟨⟨⟨⟨⟨⟨⟨⟨⟨⟨⟨⟨⟨⟨⟨⟨⟨⟨⟨⟨⟨⟨⟨⟨⟨⟨⟨⟨⟨⟨⟨⟨⟨⟨⟨⟨⟨⟨⟨⟨⟨⟨⟨⟨⟨⟨⟨⟨⟨⟨⟨⟨⟨⟨⟨⟨⟨⟨⟨⟨⟨⟨⟨⟨⟨⟨⟨⟨⟨⟨⟨⟨⟨⟨⟨⟨⟨⟨⟨⟨⟨⟨⟨⟨⟨⟨⟨⟨⟨⟨⟨⟨⟨⟨⟨⟨⟨⟨⟨⟨⟨⟨⟨⟨⟨⟨⟨⟨⟨⟨⟨⟨⟨⟨⟨⟨⟨⟨⟨⟨⟨⟨⟨⟨⟨⟨⟨⟨⟨⟨⟨⟨⟨⟨⟨⟨⟨⟨⟨⟨⟨trivial, okX0⟩, okX1⟩, okX2⟩, okX3⟩, okX4⟩, okX5⟩, okX6⟩, okX7⟩, okX8⟩, okX9⟩, okX10⟩, okX11⟩, okX12⟩, okX13⟩, okX14⟩, okX15⟩, okX16⟩, okX17⟩, okX18⟩, okX19⟩, okX20⟩, okX21⟩, okX22⟩, okX23⟩, okX24⟩, okX25⟩, okX26⟩, okX27⟩, okX28⟩, okX29⟩, okX30⟩, okX31⟩, okX32⟩, okX33⟩, okX34⟩, okX35⟩, okX36⟩, okX37⟩, okX38⟩, okX39⟩, okX40⟩, okX41⟩, okX42⟩, okX43⟩, okX44⟩, okX45⟩, okX46⟩, okX47⟩, okX48⟩, okX49⟩, okX50⟩, okX51⟩, okX52⟩, okX53⟩, okX54⟩, okX55⟩, okX56⟩, okX57⟩, okX58⟩, okX59⟩, okX60⟩, okX61⟩, okX62⟩, okX63⟩, okX64⟩, okX65⟩, okX66⟩, okX67⟩, okX68⟩, okX69⟩, okX70⟩, okX71⟩, okX72⟩, okX73⟩, okX74⟩, okX75⟩, okX76⟩, okX77⟩, okX78⟩, okX79⟩, okX80⟩, okX81⟩, okX82⟩, okX83⟩, okX84⟩, okX85⟩, okX86⟩, okX87⟩, okX88⟩, okX89⟩, okX90⟩, okX91⟩, okX92⟩, okX93⟩, okX94⟩, okX95⟩, okX96⟩, okX97⟩, okX98⟩, okX99⟩, okX100⟩, okX101⟩, okX102⟩, okX103⟩, okX104⟩, okX105⟩, okX106⟩, okX107⟩, okX108⟩, okX109⟩, okX110⟩, okX111⟩, okX112⟩, okX113⟩, okX114⟩, okX115⟩, okX116⟩, okX117⟩, okX118⟩, okX119⟩, okX120⟩, okX121⟩, okX122⟩, okX123⟩, okX124⟩, okX125⟩, okX126⟩, okX127⟩, okX128⟩, okX129⟩, okX130⟩, okX131⟩, okX132⟩, okX133⟩, okX134⟩, okX135⟩, okX136⟩, okX137⟩, okX138⟩, okX139⟩, okX140⟩, okX141⟩, okX142⟩, okX143⟩, okX144⟩, okX145⟩, okX146⟩, okX147⟩, okX148⟩, okX149⟩, okX150⟩, okX151⟩
set_option maxRecDepth 100000 in
theorem ckX : ∀ j, j < nmX → ackL tbX ckpX miX nmX mtX (miX j).2.1 (miX j).2.2.2.2.1 rkX (miX j).2.2.2.1 (miX j).2.2.2.2.2.2.2.2 (miX j).2.2.2.2.2.2.2.2 = true ∧ pcO (miX j).2.2.2.2.2.2.2.2 = some 0 := aAll_get (n := 152) ⟨⟨⟨⟨⟨⟨⟨⟨⟨⟨⟨⟨⟨⟨⟨⟨⟨⟨⟨⟨⟨⟨⟨⟨⟨⟨⟨⟨⟨⟨⟨⟨⟨⟨⟨⟨⟨⟨⟨⟨⟨⟨⟨⟨⟨⟨⟨⟨⟨⟨⟨⟨⟨⟨⟨⟨⟨⟨⟨⟨⟨⟨⟨⟨⟨⟨⟨⟨⟨⟨⟨⟨⟨⟨⟨⟨⟨⟨⟨⟨⟨⟨⟨⟨⟨⟨⟨⟨⟨⟨⟨⟨⟨⟨⟨⟨⟨⟨⟨⟨⟨⟨⟨⟨⟨⟨⟨⟨⟨⟨⟨⟨⟨⟨⟨⟨⟨⟨⟨⟨⟨⟨⟨⟨⟨⟨⟨⟨⟨⟨⟨⟨⟨⟨⟨⟨⟨⟨⟨⟨⟨⟨⟨⟨⟨⟨⟨⟨⟨⟨⟨⟨trivial, ckX0⟩, ckX1⟩, ckX2⟩, ckX3⟩, ckX4⟩, ckX5⟩, ckX6⟩, ckX7⟩, ckX8⟩, ckX9⟩, ckX10⟩, ckX11⟩, ckX12⟩, ckX13⟩, ckX14⟩, ckX15⟩, ckX16⟩, ckX17⟩, ckX18⟩, ckX19⟩, ckX20⟩, ckX21⟩, ckX22⟩, ckX23⟩, ckX24⟩, ckX25⟩, ckX26⟩, ckX27⟩, ckX28⟩, ckX29⟩, ckX30⟩, ckX31⟩, ckX32⟩, ckX33⟩, ckX34⟩, ckX35⟩, ckX36⟩, ckX37⟩, ckX38⟩, ckX39⟩, ckX40⟩, ckX41⟩, ckX42⟩, ckX43⟩, ckX44⟩, ckX45⟩, ckX46⟩, ckX47⟩, ckX48⟩, ckX49⟩, ckX50⟩, ckX51⟩, ckX52⟩, ckX53⟩, ckX54⟩, ckX55⟩, ckX56⟩, ckX57⟩, ckX58⟩, ckX59⟩, ckX60⟩, ckX61⟩, ckX62⟩, ckX63⟩, ckX64⟩, ckX65⟩, ckX66⟩, ckX67⟩, ckX68⟩, ckX69⟩, ckX70⟩, ckX71⟩, ckX72⟩, ckX73⟩, ckX74⟩, ckX75⟩, ckX76⟩, ckX77⟩, ckX78⟩, ckX79⟩, ckX80⟩, ckX81⟩, ckX82⟩, ckX83⟩, ckX84⟩, ckX85⟩, ckX86⟩, ckX87⟩, ckX88⟩, ckX89⟩, ckX90⟩, ckX91⟩, ckX92⟩, ckX93⟩, ckX94⟩, ckX95⟩, ckX96⟩, ckX97⟩, ckX98⟩, ckX99⟩, ckX100⟩, ckX101⟩, ckX102⟩, ckX103⟩, ckX104⟩, ckX105⟩, ckX106⟩, ckX107⟩, ckX108⟩, ckX109⟩, ckX110⟩, ckX111⟩, ckX112⟩, ckX113⟩, ckX114⟩, ckX115⟩, ckX116⟩, ckX117⟩, ckX118⟩, ckX119⟩, ckX120⟩, ckX121⟩, ckX122⟩, ckX123⟩, ckX124⟩, ckX125⟩, ckX126⟩, ckX127⟩, ckX128⟩, ckX129⟩, ckX130⟩, ckX131⟩, ckX132⟩, ckX133⟩, ckX134⟩, ckX135⟩, ckX136⟩, ckX137⟩, ckX138⟩, ckX139⟩, ckX140⟩, ckX141⟩, ckX142⟩, ckX143⟩, ckX144⟩, ckX145⟩, ckX146⟩, ckX147⟩, ckX148⟩, ckX149⟩, ckX150⟩, ckX151⟩
