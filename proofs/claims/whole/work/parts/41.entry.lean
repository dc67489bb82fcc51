/-! the constants at the law's entry, out of what the Statement gives -/
def fl : List Cond := flatC (Jvm.Cond.and given_1 narrow_1)
def tS (i : Nat) : Term := .static RX9 (aSn i) "LFoldedRealm$Sort;"
def kTL : List Nat := [127, 127, 127, 127, 136, 139, 142, 145, 148, 151, 154, 157, 160, 163, 166, 169, 172, 175, 178, 181, 184, 187, 190, 193, 196, 199, 202, 205, 208, 211, 214, 217, 220, 117, 117, 117, 117, 117, 117, 117, 117, 123, 125, 127, 129, 131, 133, 135]
def tT (j : Nat) : Term := .string (cond (Nat.blt j 33) RX9 RX2) (kTL.getD j 135)
def tV (j : Nat) : Term := .field (tT j) "java/lang/String" "value" "[B"
def tSO : Term := .static RX12 "SORTS" "[LFoldedRealm$Sort;"
def tSW : Term := .static RX0 "$SwitchMap$FoldedRealm$Sort" "[I"
def fS1P : List Nat := [4, 7, 10, 56, 151, 154, 95, 98, 101, 104, 157, 160, 163, 166, 169, 140, 143, 146, 172, 175, 178, 181, 107, 131, 134, 110, 113, 125, 128, 119, 122, 116, 137]
set_option maxRecDepth 100000 in
theorem fS1 : ∀ i, i < 33 → fl[fS1P.getD i 0]? = some (Cond.exactly (tS i) RX9) := by decide +kernel
def fS2P : List Nat := [5, 8, 11, 57, 152, 155, 96, 99, 102, 105, 158, 161, 164, 167, 170, 141, 144, 147, 173, 176, 179, 182, 108, 132, 135, 111, 114, 126, 129, 120, 123, 117, 138]
set_option maxRecDepth 100000 in
theorem fS2 : ∀ i, i < 33 → fl[fS2P.getD i 0]? = some (Cond.eq (.field (tS i) "java/lang/Enum" "ordinal" "I") (.int (Int32.ofNat i))) := by decide +kernel
def fS3P : List Nat := [6, 9, 12, 58, 153, 156, 97, 100, 103, 106, 159, 162, 165, 168, 171, 142, 145, 148, 174, 177, 180, 183, 109, 133, 136, 112, 115, 127, 130, 121, 124, 118, 139]
set_option maxRecDepth 100000 in
theorem fS3 : ∀ i, i < 33 → fl[fS3P.getD i 0]? = some (Cond.eq (.field (tS i) RX9 "text" "Ljava/lang/String;") (tT i)) := by decide +kernel
def fO1P : List Nat := [18, 19, 20, 21, 22, 23, 24, 25, 26, 27, 28, 29, 30, 31, 32, 33, 34, 35, 36, 37, 38, 39, 40, 41, 42, 43, 44, 45, 46, 47, 48, 49, 50]
set_option maxRecDepth 100000 in
theorem fO1 : ∀ i, i < 33 → fl[fO1P.getD i 0]? = some (Cond.eq (.elem tSO (.int (Int32.ofNat i))) (tS i)) := by decide +kernel
def fW1P : List Nat := [62, 63, 64, 65, 66, 67, 68, 69, 70, 71, 72, 73, 74, 75, 76, 77, 78, 79, 80, 81, 82, 83, 84, 85, 86, 87, 88, 89, 90, 91, 92, 93, 94]
set_option maxRecDepth 100000 in
theorem fW1 : ∀ i, i < 33 → fl[fW1P.getD i 0]? = some (Cond.eq (.elem tSW (.int (Int32.ofNat i))) (.int (asm i))) := by decide +kernel
theorem fN0 : fl[15]? = some (Cond.arrayOf tSO (.object RX9)) := by decide +kernel
theorem fN1 : fl[16]? = some (Cond.eq (.length tSO) (.int (Int32.ofNat 33))) := by decide +kernel
theorem fN2 : fl[60]? = some (Cond.arrayOf tSW .int) := by decide +kernel
theorem fN3 : fl[61]? = some (Cond.eq (.length tSW) (.int (Int32.ofNat 33))) := by decide +kernel
theorem fN4 : fl[51]? = some (Cond.eq (.static "java/lang/String" "COMPACT_STRINGS" "Z") (.int 1)) := by decide +kernel
theorem fN5 : fl[52]? = some (Cond.isRef (.static "jdk/internal/util/Preconditions" "SIOOBE_FORMATTER" "Ljava/util/function/BiFunction;")) := by decide +kernel
def fT1P : List Nat := [332, 332, 332, 332, 455, 465, 336, 344, 354, 362, 473, 482, 491, 500, 510, 430, 439, 447, 518, 527, 535, 543, 370, 412, 419, 377, 382, 402, 407, 392, 397, 387, 425, 227, 227, 227, 227, 227, 227, 227, 227, 236, 244, 253, 261, 270, 277, 285]
set_option maxRecDepth 100000 in
theorem fT1 : ∀ i, i < 48 → fl[fT1P.getD i 0]? = some (Cond.exactly (tT i) "java/lang/String") := by decide +kernel
def fT2P : List Nat := [333, 333, 333, 333, 456, 466, 337, 345, 355, 363, 474, 483, 492, 501, 511, 431, 440, 448, 519, 528, 536, 544, 371, 413, 420, 378, 383, 403, 408, 393, 398, 388, 426, 228, 228, 228, 228, 228, 228, 228, 228, 237, 245, 254, 262, 271, 278, 286]
set_option maxRecDepth 100000 in
theorem fT2 : ∀ i, i < 48 → fl[fT2P.getD i 0]? = some (Cond.eq (.field (tT i) "java/lang/String" "coder" "B") (.int 0)) := by decide +kernel
def fT3P : List Nat := [334, 334, 334, 334, 457, 467, 338, 346, 356, 364, 475, 484, 493, 502, 512, 432, 441, 449, 520, 529, 537, 545, 372, 414, 421, 379, 384, 404, 409, 394, 399, 389, 427, 229, 229, 229, 229, 229, 229, 229, 229, 238, 246, 255, 263, 272, 279, 287]
set_option maxRecDepth 100000 in
theorem fT3 : ∀ i, i < 48 → fl[fT3P.getD i 0]? = some (Cond.arrayOf (tV i) .byte) := by decide +kernel
def fT4P : List Nat := [335, 335, 335, 335, 458, 468, 339, 347, 357, 365, 476, 485, 494, 503, 513, 433, 442, 450, 521, 530, 538, 546, 373, 415, 422, 380, 385, 405, 410, 395, 400, 390, 428, 230, 230, 230, 230, 230, 230, 230, 230, 239, 247, 256, 264, 273, 280, 288]
set_option maxRecDepth 100000 in
theorem fT4 : ∀ i, i < 48 → fl[fT4P.getD i 0]? = some (Cond.eq (.length (tV i)) (.int (Int32.ofNat (asl (2200 + i))))) := by decide +kernel
def fT5P : List (List Nat) := [[], [], [], [], [459, 460, 461, 462, 463, 464], [469, 470, 471, 472], [340, 341, 342, 343], [348, 349, 350, 351, 352, 353], [358, 359, 360, 361], [366, 367, 368, 369], [477, 478, 479, 480, 481], [486, 487, 488, 489, 490], [495, 496, 497, 498, 499], [504, 505, 506, 507, 508, 509], [514, 515, 516, 517], [434, 435, 436, 437, 438], [443, 444, 445, 446], [451, 452, 453, 454], [522, 523, 524, 525, 526], [531, 532, 533, 534], [539, 540, 541, 542], [547, 548, 549], [374, 375, 376], [416, 417, 418], [423, 424], [381], [386], [406], [411], [396], [401], [391], [429], [231, 232, 233, 234, 235], [231, 232, 233, 234, 235], [231, 232, 233, 234, 235], [231, 232, 233, 234, 235], [231, 232, 233, 234, 235], [231, 232, 233, 234, 235], [231, 232, 233, 234, 235], [231, 232, 233, 234, 235], [240, 241, 242, 243], [248, 249, 250, 251, 252], [257, 258, 259, 260], [265, 266, 267, 268, 269], [274, 275, 276], [281, 282, 283, 284], [289, 290, 291, 292, 293, 294]]
set_option maxRecDepth 100000 in
theorem fT5 : ∀ i, i < 48 → ∀ k, k < asl (2200 + i) → fl[(fT5P.getD i []).getD k 0]? = some (Cond.eq (.elem (tV i) (.int (Int32.ofNat k))) (.int (asc (2200 + i) k))) := by decide +kernel
def fLP : List Nat := [42, 445, 447, 503, 1921, 1922, 548, 559, 561, 563, 1923, 1924, 1925, 1926, 1927, 727, 729, 731, 1928, 1929, 1930, 1931, 664, 696, 698, 666, 684, 692, 694, 688, 690, 686, 700]
set_option maxRecDepth 100000 in
theorem fL : ∀ i, i < 33 → tables_1[fLP.getD i 0]? = some (Cond.laysStatic RX9 (aSn i) "LFoldedRealm$Sort;") := by decide +kernel
theorem fI0 : tables_1[449]? = some (Cond.laysStatic "FoldedRealm" "SORTS" "[LFoldedRealm$Sort;") := by decide +kernel
theorem fI1 : tables_1[510]? = some (Cond.laysStatic "FoldedRealm$1" "$SwitchMap$FoldedRealm$Sort" "[I") := by decide +kernel
theorem fI2 : tables_1[463]? = some (Cond.laysStatic "java/lang/String" "COMPACT_STRINGS" "Z") := by decide +kernel
theorem fI3 : tables_1[479]? = some (Cond.laysStatic "jdk/internal/util/Preconditions" "SIOOBE_FORMATTER" "Ljava/util/function/BiFunction;") := by decide +kernel
theorem fI4 : tables_1[4]? = some (Cond.initialized "FoldedRealm$Sort") := by decide +kernel
theorem fI5 : tables_1[1]? = some (Cond.initialized "FoldedRealm") := by decide +kernel
theorem fI6 : tables_1[20]? = some (Cond.initialized "FoldedRealm$1") := by decide +kernel
theorem fI7 : tables_1[16]? = some (Cond.initialized "java/lang/String") := by decide +kernel
theorem fI8 : tables_1[18]? = some (Cond.initialized "jdk/internal/util/Preconditions") := by decide +kernel
def fRP : List Nat := [649, 651, 652, 653, 654, 659, 660, 661]
theorem fR : ∀ i, i < 8 → tables_1[fRP.getD i 0]? = (ldcL[i]?).map fun q => Cond.stringRef (aCN q.1) q.2.1 q.2.2.2 := by decide +kernel
