/-! X out of the tables at the start -/
def cGN : Cond := Jvm.Cond.and given_1 narrow_1
def gAt (i : Nat) (c : Cond) : Bool := decide ((flatC cGN)[i]? = some c)
theorem gAt_mem {i : Nat} {c : Cond} (h : gAt i c = true) : c ∈ flatC cGN := List.mem_of_getElem? (i := i) (of_decide_eq_true h)
def tAt (i : Nat) (c : Cond) : Bool := decide (lw_tbl[i]? = some c)
theorem tAt_mem {i : Nat} {c : Cond} (h : tAt i c = true) : c ∈ lw_tbl := List.mem_of_getElem? (i := i) (of_decide_eq_true h)
theorem gt0_a : gAt 5 (Cond.arrayOf (.static "DeafWall$Reader" "FIRST_KIND" "[I") .int) = true := by decide +kernel
theorem gt0_l : gAt 6 (Cond.eq (.length (.static "DeafWall$Reader" "FIRST_KIND" "[I")) (.int (Int32.ofNat 4))) = true := by decide +kernel
theorem gt0_e : ∀ j, j < 4 → gAt (([7, 8, 9, 10] : List Nat).getD j 0) (Cond.eq (.elem (.static "DeafWall$Reader" "FIRST_KIND" "[I") (.int (Int32.ofNat j))) (.int (([0, 5, 11, 13] : List Int32).getD j 0))) = true := by decide +kernel
theorem gt0_s : tAt 525 (Cond.laysStatic "DeafWall$Reader" "FIRST_KIND" "[I") = true := by decide +kernel
theorem gt1_a : gAt 81 (Cond.arrayOf (.static "DeafWall$Reader" "NUMBERS" "[I") .int) = true := by decide +kernel
theorem gt1_l : gAt 82 (Cond.eq (.length (.static "DeafWall$Reader" "NUMBERS" "[I")) (.int (Int32.ofNat 13))) = true := by decide +kernel
theorem gt1_e : ∀ j, j < 13 → gAt (([83, 84, 85, 86, 87, 88, 89, 90, 91, 92, 93, 94, 95] : List Nat).getD j 0) (Cond.eq (.elem (.static "DeafWall$Reader" "NUMBERS" "[I") (.int (Int32.ofNat j))) (.int (([2, 2, 1, 2, 1, 1, 1, 1, 1, 1, 2, 2, 2] : List Int32).getD j 0))) = true := by decide +kernel
theorem gt1_s : tAt 628 (Cond.laysStatic "DeafWall$Reader" "NUMBERS" "[I") = true := by decide +kernel
theorem gt2_a : gAt 17 (Cond.arrayOf (.static "DeafWall$Reader" "LEAST_FIRST" "[I") .int) = true := by decide +kernel
theorem gt2_l : gAt 18 (Cond.eq (.length (.static "DeafWall$Reader" "LEAST_FIRST" "[I")) (.int (Int32.ofNat 13))) = true := by decide +kernel
theorem gt2_e : ∀ j, j < 13 → gAt (([19, 20, 21, 22, 23, 24, 25, 26, 27, 28, 29, 30, 31] : List Nat).getD j 0) (Cond.eq (.elem (.static "DeafWall$Reader" "LEAST_FIRST" "[I") (.int (Int32.ofNat j))) (.int (([1, 0, 0, 0, 0, 0, 0, 0, 0, 0, 0, 0, 0] : List Int32).getD j 0))) = true := by decide +kernel
theorem gt2_s : tAt 616 (Cond.laysStatic "DeafWall$Reader" "LEAST_FIRST" "[I") = true := by decide +kernel
theorem gt3_a : gAt 49 (Cond.arrayOf (.static "DeafWall$Reader" "MOST_FIRST" "[I") .int) = true := by decide +kernel
theorem gt3_l : gAt 50 (Cond.eq (.length (.static "DeafWall$Reader" "MOST_FIRST" "[I")) (.int (Int32.ofNat 13))) = true := by decide +kernel
theorem gt3_e : ∀ j, j < 13 → gAt (([51, 52, 53, 54, 55, 56, 57, 58, 59, 60, 61, 62, 63] : List Nat).getD j 0) (Cond.eq (.elem (.static "DeafWall$Reader" "MOST_FIRST" "[I") (.int (Int32.ofNat j))) (.int (([8, 31, 31, 31, 1, 9, 31, 31, 5, 5, 5, 5, 5] : List Int32).getD j 0))) = true := by decide +kernel
theorem gt3_s : tAt 620 (Cond.laysStatic "DeafWall$Reader" "MOST_FIRST" "[I") = true := by decide +kernel
theorem gt4_a : gAt 33 (Cond.arrayOf (.static "DeafWall$Reader" "LEAST_SECOND" "[I") .int) = true := by decide +kernel
theorem gt4_l : gAt 34 (Cond.eq (.length (.static "DeafWall$Reader" "LEAST_SECOND" "[I")) (.int (Int32.ofNat 13))) = true := by decide +kernel
theorem gt4_e : ∀ j, j < 13 → gAt (([35, 36, 37, 38, 39, 40, 41, 42, 43, 44, 45, 46, 47] : List Nat).getD j 0) (Cond.eq (.elem (.static "DeafWall$Reader" "LEAST_SECOND" "[I") (.int (Int32.ofNat j))) (.int (([1, 1, 0, 1, 0, 0, 0, 0, 0, 0, 0, 0, 0] : List Int32).getD j 0))) = true := by decide +kernel
theorem gt4_s : tAt 618 (Cond.laysStatic "DeafWall$Reader" "LEAST_SECOND" "[I") = true := by decide +kernel
theorem gt5_a : gAt 65 (Cond.arrayOf (.static "DeafWall$Reader" "MOST_SECOND" "[I") .int) = true := by decide +kernel
theorem gt5_l : gAt 66 (Cond.eq (.length (.static "DeafWall$Reader" "MOST_SECOND" "[I")) (.int (Int32.ofNat 13))) = true := by decide +kernel
theorem gt5_e : ∀ j, j < 13 → gAt (([67, 68, 69, 70, 71, 72, 73, 74, 75, 76, 77, 78, 79] : List Nat).getD j 0) (Cond.eq (.elem (.static "DeafWall$Reader" "MOST_SECOND" "[I") (.int (Int32.ofNat j))) (.int (([4, 9, 0, 9, 0, 0, 0, 0, 0, 0, 31, 19, 19] : List Int32).getD j 0))) = true := by decide +kernel
theorem gt5_s : tAt 622 (Cond.laysStatic "DeafWall$Reader" "MOST_SECOND" "[I") = true := by decide +kernel
def sTm (i : Nat) : Term := .string "DeafWall$Reader" (zS.getD i (0, "")).1
theorem gs_ex : ∀ i, i < 14 → gAt (([126, 134, 143, 155, 168, 180, 193, 206, 220, 236, 254, 272, 291, 310] : List Nat).getD i 0) (Cond.exactly (sTm i) "java/lang/String") = true := by decide +kernel
theorem gs_co : ∀ i, i < 14 → gAt (([127, 135, 144, 156, 169, 181, 194, 207, 221, 237, 255, 273, 292, 311] : List Nat).getD i 0) (Cond.eq (.field (sTm i) "java/lang/String" "coder" "B") (.int 0)) = true := by decide +kernel
theorem gs_ar : ∀ i, i < 14 → gAt (([128, 136, 145, 157, 170, 182, 195, 208, 222, 238, 256, 274, 293, 312] : List Nat).getD i 0) (Cond.arrayOf (.field (sTm i) "java/lang/String" "value" "[B") .byte) = true := by decide +kernel
theorem gs_le : ∀ i, i < 14 → gAt (([129, 137, 146, 158, 171, 183, 196, 209, 223, 239, 257, 275, 294, 313] : List Nat).getD i 0) (Cond.eq (.length (.field (sTm i) "java/lang/String" "value" "[B")) (.int (Int32.ofNat (zLen.getD i 0)))) = true := by decide +kernel
theorem gs_el0 : ∀ j, j < 4 → gAt (([130, 131, 132, 133] : List Nat).getD j 0) (Cond.eq (.elem (.field (sTm 0) "java/lang/String" "value" "[B") (.int (Int32.ofNat j))) (.int ((zByt.getD 0 []).getD j 0))) = true := by decide +kernel
theorem gs_el1 : ∀ j, j < 4 → gAt (([138, 139, 140, 141] : List Nat).getD j 0) (Cond.eq (.elem (.field (sTm 1) "java/lang/String" "value" "[B") (.int (Int32.ofNat j))) (.int ((zByt.getD 1 []).getD j 0))) = true := by decide +kernel
theorem gs_el2 : ∀ j, j < 6 → gAt (([147, 148, 149, 150, 151, 152] : List Nat).getD j 0) (Cond.eq (.elem (.field (sTm 2) "java/lang/String" "value" "[B") (.int (Int32.ofNat j))) (.int ((zByt.getD 2 []).getD j 0))) = true := by decide +kernel
theorem gs_el3 : ∀ j, j < 6 → gAt (([159, 160, 161, 162, 163, 164] : List Nat).getD j 0) (Cond.eq (.elem (.field (sTm 3) "java/lang/String" "value" "[B") (.int (Int32.ofNat j))) (.int ((zByt.getD 3 []).getD j 0))) = true := by decide +kernel
theorem gs_el4 : ∀ j, j < 4 → gAt (([172, 173, 174, 175] : List Nat).getD j 0) (Cond.eq (.elem (.field (sTm 4) "java/lang/String" "value" "[B") (.int (Int32.ofNat j))) (.int ((zByt.getD 4 []).getD j 0))) = true := by decide +kernel
theorem gs_el5 : ∀ j, j < 4 → gAt (([184, 185, 186, 187] : List Nat).getD j 0) (Cond.eq (.elem (.field (sTm 5) "java/lang/String" "value" "[B") (.int (Int32.ofNat j))) (.int ((zByt.getD 5 []).getD j 0))) = true := by decide +kernel
theorem gs_el6 : ∀ j, j < 3 → gAt (([197, 198, 199] : List Nat).getD j 0) (Cond.eq (.elem (.field (sTm 6) "java/lang/String" "value" "[B") (.int (Int32.ofNat j))) (.int ((zByt.getD 6 []).getD j 0))) = true := by decide +kernel
theorem gs_el7 : ∀ j, j < 3 → gAt (([210, 211, 212] : List Nat).getD j 0) (Cond.eq (.elem (.field (sTm 7) "java/lang/String" "value" "[B") (.int (Int32.ofNat j))) (.int ((zByt.getD 7 []).getD j 0))) = true := by decide +kernel
theorem gs_el8 : ∀ j, j < 4 → gAt (([224, 225, 226, 227] : List Nat).getD j 0) (Cond.eq (.elem (.field (sTm 8) "java/lang/String" "value" "[B") (.int (Int32.ofNat j))) (.int ((zByt.getD 8 []).getD j 0))) = true := by decide +kernel
theorem gs_el9 : ∀ j, j < 5 → gAt (([240, 241, 242, 243, 244] : List Nat).getD j 0) (Cond.eq (.elem (.field (sTm 9) "java/lang/String" "value" "[B") (.int (Int32.ofNat j))) (.int ((zByt.getD 9 []).getD j 0))) = true := by decide +kernel
theorem gs_el10 : ∀ j, j < 4 → gAt (([258, 259, 260, 261] : List Nat).getD j 0) (Cond.eq (.elem (.field (sTm 10) "java/lang/String" "value" "[B") (.int (Int32.ofNat j))) (.int ((zByt.getD 10 []).getD j 0))) = true := by decide +kernel
theorem gs_el11 : ∀ j, j < 4 → gAt (([276, 277, 278, 279] : List Nat).getD j 0) (Cond.eq (.elem (.field (sTm 11) "java/lang/String" "value" "[B") (.int (Int32.ofNat j))) (.int ((zByt.getD 11 []).getD j 0))) = true := by decide +kernel
theorem gs_el12 : ∀ j, j < 3 → gAt (([295, 296, 297] : List Nat).getD j 0) (Cond.eq (.elem (.field (sTm 12) "java/lang/String" "value" "[B") (.int (Int32.ofNat j))) (.int ((zByt.getD 12 []).getD j 0))) = true := by decide +kernel
theorem gs_el13 : ∀ j, j < 0 → gAt (([] : List Nat).getD j 0) (Cond.eq (.elem (.field (sTm 13) "java/lang/String" "value" "[B") (.int (Int32.ofNat j))) (.int ((zByt.getD 13 []).getD j 0))) = true := by decide +kernel
theorem gs_ne0 : ∀ j, j < 14 → 0 < j → gAt (([0, 142, 153, 165, 176, 188, 200, 213, 228, 245, 262, 280, 298, 314] : List Nat).getD j 0) (Cond.not (Cond.eq (sTm 0) (sTm j))) = true := by decide +kernel
theorem gs_ne1 : ∀ j, j < 14 → 1 < j → gAt (([0, 0, 154, 166, 177, 189, 201, 214, 229, 246, 263, 281, 299, 315] : List Nat).getD j 0) (Cond.not (Cond.eq (sTm 1) (sTm j))) = true := by decide +kernel
theorem gs_ne2 : ∀ j, j < 14 → 2 < j → gAt (([0, 0, 0, 167, 178, 190, 202, 215, 230, 247, 264, 282, 300, 316] : List Nat).getD j 0) (Cond.not (Cond.eq (sTm 2) (sTm j))) = true := by decide +kernel
theorem gs_ne3 : ∀ j, j < 14 → 3 < j → gAt (([0, 0, 0, 0, 179, 191, 203, 216, 231, 248, 265, 283, 301, 317] : List Nat).getD j 0) (Cond.not (Cond.eq (sTm 3) (sTm j))) = true := by decide +kernel
theorem gs_ne4 : ∀ j, j < 14 → 4 < j → gAt (([0, 0, 0, 0, 0, 192, 204, 217, 232, 249, 266, 284, 302, 318] : List Nat).getD j 0) (Cond.not (Cond.eq (sTm 4) (sTm j))) = true := by decide +kernel
theorem gs_ne5 : ∀ j, j < 14 → 5 < j → gAt (([0, 0, 0, 0, 0, 0, 205, 218, 233, 250, 267, 285, 303, 319] : List Nat).getD j 0) (Cond.not (Cond.eq (sTm 5) (sTm j))) = true := by decide +kernel
theorem gs_ne6 : ∀ j, j < 14 → 6 < j → gAt (([0, 0, 0, 0, 0, 0, 0, 219, 234, 251, 268, 286, 304, 320] : List Nat).getD j 0) (Cond.not (Cond.eq (sTm 6) (sTm j))) = true := by decide +kernel
theorem gs_ne7 : ∀ j, j < 14 → 7 < j → gAt (([0, 0, 0, 0, 0, 0, 0, 0, 235, 252, 269, 287, 305, 321] : List Nat).getD j 0) (Cond.not (Cond.eq (sTm 7) (sTm j))) = true := by decide +kernel
theorem gs_ne8 : ∀ j, j < 14 → 8 < j → gAt (([0, 0, 0, 0, 0, 0, 0, 0, 0, 253, 270, 288, 306, 322] : List Nat).getD j 0) (Cond.not (Cond.eq (sTm 8) (sTm j))) = true := by decide +kernel
theorem gs_ne9 : ∀ j, j < 14 → 9 < j → gAt (([0, 0, 0, 0, 0, 0, 0, 0, 0, 0, 271, 289, 307, 323] : List Nat).getD j 0) (Cond.not (Cond.eq (sTm 9) (sTm j))) = true := by decide +kernel
theorem gs_ne10 : ∀ j, j < 14 → 10 < j → gAt (([0, 0, 0, 0, 0, 0, 0, 0, 0, 0, 0, 290, 308, 324] : List Nat).getD j 0) (Cond.not (Cond.eq (sTm 10) (sTm j))) = true := by decide +kernel
theorem gs_ne11 : ∀ j, j < 14 → 11 < j → gAt (([0, 0, 0, 0, 0, 0, 0, 0, 0, 0, 0, 0, 309, 325] : List Nat).getD j 0) (Cond.not (Cond.eq (sTm 11) (sTm j))) = true := by decide +kernel
theorem gs_ne12 : ∀ j, j < 14 → 12 < j → gAt (([0, 0, 0, 0, 0, 0, 0, 0, 0, 0, 0, 0, 0, 326] : List Nat).getD j 0) (Cond.not (Cond.eq (sTm 12) (sTm j))) = true := by decide +kernel
theorem gs_ne13 : ∀ j, j < 14 → 13 < j → gAt (([0, 0, 0, 0, 0, 0, 0, 0, 0, 0, 0, 0, 0, 0] : List Nat).getD j 0) (Cond.not (Cond.eq (sTm 13) (sTm j))) = true := by decide +kernel
theorem gs_rf : ∀ i, i < 14 → tAt (([529, 530, 531, 532, 533, 534, 535, 536, 537, 538, 539, 540, 541, 542] : List Nat).getD i 0) (Cond.stringRef "DeafWall$Reader" (zS.getD i (0, "")).1 (zS.getD i (0, "")).2) = true := by decide +kernel
theorem gz_c : gAt 11 (Cond.eq (.static "java/lang/String" "COMPACT_STRINGS" "Z") (.int 1)) = true := by decide +kernel
theorem gz_f : gAt 12 (Cond.isRef (Term.static "jdk/internal/util/Preconditions" "SIOOBE_FORMATTER" "Ljava/util/function/BiFunction;")) = true := by decide +kernel
theorem gw0 : tAt 129 (Cond.initialized "java/lang/String") = true := by decide +kernel
theorem gw1 : tAt 131 (Cond.initialized "jdk/internal/util/Preconditions") = true := by decide +kernel
theorem gw2 : tAt 120 (Cond.initialized "DeafWall$Reader") = true := by decide +kernel
theorem gw3 : tAt 556 (Cond.laysStatic "java/lang/String" "COMPACT_STRINGS" "Z") = true := by decide +kernel
theorem gw4 : tAt 572 (Cond.laysStatic "jdk/internal/util/Preconditions" "SIOOBE_FORMATTER" "Ljava/util/function/BiFunction;") = true := by decide +kernel
theorem ga0 : tAt 187 (Cond.arrayClass .byte) = true := by decide +kernel
theorem ga1 : tAt 188 (Cond.arrayClass .int) = true := by decide +kernel
theorem ga2 : tAt 443 (Cond.arrayClass .long) = true := by decide +kernel
theorem ga3 : tAt 1274 (Cond.arrayClass .boolean) = true := by decide +kernel
theorem goW : tAt 151 (Cond.arrayOver (.object "DeafWall$Wall")) = true := by decide +kernel
theorem goL : tAt 153 (Cond.arrayOver (.object "DeafWall$Lines")) = true := by decide +kernel
theorem goT : tAt 189 (Cond.arrayOver (.object "DeafWall$Told")) = true := by decide +kernel
theorem goI : tAt 375 (Cond.arrayOver (.array .int)) = true := by decide +kernel
theorem gi0 : tAt 808 (Cond.instantiable nR0 1) = true := by decide +kernel
theorem gi1 : tAt 369 (Cond.instantiable nR1 2) = true := by decide +kernel
theorem gi2 : tAt 474 (Cond.instantiable nR2 4) = true := by decide +kernel
theorem gi3 : tAt 384 (Cond.instantiable nR3 1) = true := by decide +kernel
theorem gi4 : tAt 191 (Cond.instantiable nR4 15) = true := by decide +kernel
theorem gi5 : tAt 247 (Cond.instantiable nR5 16) = true := by decide +kernel
theorem gi6 : tAt 145 (Cond.instantiable nR6 8) = true := by decide +kernel
theorem gi7 : tAt 253 (Cond.instantiable nR7 10) = true := by decide +kernel
theorem gi8 : tAt 137 (Cond.instantiable nR8 16) = true := by decide +kernel
theorem gi9 : tAt 1130 (Cond.instantiable nR9 46) = true := by decide +kernel
