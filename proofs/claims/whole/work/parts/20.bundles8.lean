def y18_fillI : MethodName := ⟨"java/util/Arrays", "fill", "([II)V"⟩
def B18_fillI : BB := (y18_fillI, prog_18_method_103_code, 4, none, { frames := 0, cells := 0, slots := 0, locals := 0 })
theorem m18_fillI : mOK B18_fillI 2 := ⟨by decide +kernel, in_g (List.mem_of_getElem? (i := 260) (by decide +kernel)) (by decide +kernel), in_g (List.mem_of_getElem? (i := 123) (by decide +kernel)) rfl, by decide +kernel⟩
theorem k18_fillI : Cond.static B18_fillI.1 ∈ lw_g := in_g (List.mem_of_getElem? (i := 259) (by decide +kernel)) rfl
def y12_bitCount : MethodName := ⟨"java/lang/Integer", "bitCount", "(I)I"⟩
def B12_bitCount : BB := (y12_bitCount, prog_12_method_49_code, 1, (some .int), { frames := 0, cells := 0, slots := 0, locals := 0 })
theorem m12_bitCount : mOK B12_bitCount 1 := ⟨by decide +kernel, in_g (List.mem_of_getElem? (i := 790) (by decide +kernel)) (by decide +kernel), in_g (List.mem_of_getElem? (i := 134) (by decide +kernel)) rfl, by decide +kernel⟩
theorem k12_bitCount : Cond.static B12_bitCount.1 ∈ lw_g := in_g (List.mem_of_getElem? (i := 789) (by decide +kernel)) rfl
def y12_numberOfTrailingZeros : MethodName := ⟨"java/lang/Integer", "numberOfTrailingZeros", "(I)I"⟩
def B12_numberOfTrailingZeros : BB := (y12_numberOfTrailingZeros, prog_12_method_48_code, 2, (some .int), { frames := 0, cells := 0, slots := 0, locals := 0 })
theorem m12_numberOfTrailingZeros : mOK B12_numberOfTrailingZeros 1 := ⟨by decide +kernel, in_g (List.mem_of_getElem? (i := 931) (by decide +kernel)) (by decide +kernel), in_g (List.mem_of_getElem? (i := 134) (by decide +kernel)) rfl, by decide +kernel⟩
theorem k12_numberOfTrailingZeros : Cond.static B12_numberOfTrailingZeros.1 ∈ lw_g := in_g (List.mem_of_getElem? (i := 930) (by decide +kernel)) rfl
def y18_fillJ : MethodName := ⟨"java/util/Arrays", "fill", "([JJ)V"⟩
def B18_fillJ : BB := (y18_fillJ, prog_18_method_101_code, 5, none, { frames := 0, cells := 0, slots := 0, locals := 0 })
theorem m18_fillJ : mOK B18_fillJ 2 := ⟨by decide +kernel, in_g (List.mem_of_getElem? (i := 993) (by decide +kernel)) (by decide +kernel), in_g (List.mem_of_getElem? (i := 123) (by decide +kernel)) rfl, by decide +kernel⟩
theorem k18_fillJ : Cond.static B18_fillJ.1 ∈ lw_g := in_g (List.mem_of_getElem? (i := 992) (by decide +kernel)) rfl
def y12_numberOfLeadingZeros : MethodName := ⟨"java/lang/Integer", "numberOfLeadingZeros", "(I)I"⟩
def B12_numberOfLeadingZeros : BB := (y12_numberOfLeadingZeros, prog_12_method_47_code, 2, (some .int), { frames := 0, cells := 0, slots := 0, locals := 0 })
theorem m12_numberOfLeadingZeros : mOK B12_numberOfLeadingZeros 1 := ⟨by decide +kernel, in_g (List.mem_of_getElem? (i := 1019) (by decide +kernel)) (by decide +kernel), in_g (List.mem_of_getElem? (i := 134) (by decide +kernel)) rfl, by decide +kernel⟩
theorem k12_numberOfLeadingZeros : Cond.static B12_numberOfLeadingZeros.1 ∈ lw_g := in_g (List.mem_of_getElem? (i := 1018) (by decide +kernel)) rfl
def y6_init : MethodName := ⟨"DeafWall$Told", "<init>", "()V"⟩
def B6_init : BB := (y6_init, prog_8_method_1_code, 1, none, { frames := 1, cells := 5, slots := 609, locals := 20 })
theorem m6_init : mOK B6_init 0 := ⟨by decide +kernel, in_g (List.mem_of_getElem? (i := 148) (by decide +kernel)) (by decide +kernel), in_g (List.mem_of_getElem? (i := 119) (by decide +kernel)) rfl, by decide +kernel⟩
theorem k6_init : Cond.instanceMethod B6_init.1 ∈ lw_g := in_g (List.mem_of_getElem? (i := 147) (by decide +kernel)) rfl
def y4_init : MethodName := ⟨"DeafWall$Reader", "<init>", "()V"⟩
def B4_init : BB := (y4_init, prog_6_method_1_code, 1, none, { frames := 1, cells := 1, slots := 0, locals := 20 })
theorem m4_init : mOK B4_init 0 := ⟨by decide +kernel, in_g (List.mem_of_getElem? (i := 194) (by decide +kernel)) (by decide +kernel), in_g (List.mem_of_getElem? (i := 120) (by decide +kernel)) rfl, by decide +kernel⟩
theorem k4_init : Cond.instanceMethod B4_init.1 ∈ lw_g := in_g (List.mem_of_getElem? (i := 193) (by decide +kernel)) rfl
def y7_init : MethodName := ⟨"DeafWall$Wall", "<init>", "()V"⟩
def B7_init : BB := (y7_init, prog_9_method_1_code, 1, none, { frames := 1, cells := 5, slots := 56, locals := 23 })
theorem m7_init : mOK B7_init 0 := ⟨by decide +kernel, in_g (List.mem_of_getElem? (i := 256) (by decide +kernel)) (by decide +kernel), in_g (List.mem_of_getElem? (i := 122) (by decide +kernel)) rfl, by decide +kernel⟩
theorem k7_init : Cond.instanceMethod B7_init.1 ∈ lw_g := in_g (List.mem_of_getElem? (i := 255) (by decide +kernel)) rfl
def y5_init : MethodName := ⟨"DeafWall$Stand", "<init>", "()V"⟩
def B5_init : BB := (y5_init, prog_7_method_1_code, 1, none, { frames := 2, cells := 13, slots := 186, locals := 43 })
theorem m5_init : mOK B5_init 0 := ⟨by decide +kernel, in_g (List.mem_of_getElem? (i := 250) (by decide +kernel)) (by decide +kernel), in_g (List.mem_of_getElem? (i := 121) (by decide +kernel)) rfl, by decide +kernel⟩
theorem k5_init : Cond.instanceMethod B5_init.1 ∈ lw_g := in_g (List.mem_of_getElem? (i := 249) (by decide +kernel)) rfl
def y1_init : MethodName := ⟨"DeafWall$Echo", "<init>", "()V"⟩
def B1_init : BB := (y1_init, prog_3_method_1_code, 1, none, { frames := 1, cells := 22, slots := 692, locals := 20 })
theorem m1_init : mOK B1_init 0 := ⟨by decide +kernel, in_g (List.mem_of_getElem? (i := 372) (by decide +kernel)) (by decide +kernel), in_g (List.mem_of_getElem? (i := 124) (by decide +kernel)) rfl, by decide +kernel⟩
theorem k1_init : Cond.instanceMethod B1_init.1 ∈ lw_g := in_g (List.mem_of_getElem? (i := 371) (by decide +kernel)) rfl
def y3_init : MethodName := ⟨"DeafWall$Paths", "<init>", "()V"⟩
def B3_init : BB := (y3_init, prog_5_method_1_code, 1, none, { frames := 1, cells := 10, slots := 297, locals := 20 })
theorem m3_init : mOK B3_init 0 := ⟨by decide +kernel, in_g (List.mem_of_getElem? (i := 387) (by decide +kernel)) (by decide +kernel), in_g (List.mem_of_getElem? (i := 125) (by decide +kernel)) rfl, by decide +kernel⟩
theorem k3_init : Cond.instanceMethod B3_init.1 ∈ lw_g := in_g (List.mem_of_getElem? (i := 386) (by decide +kernel)) rfl
def y8_init : MethodName := ⟨"DeafWall", "<init>", "()V"⟩
def B8_init : BB := (y8_init, prog_1_method_1_code, 1, none, { frames := 3, cells := 67, slots := 2654, locals := 63 })
theorem m8_init : mOK B8_init 0 := ⟨by decide +kernel, in_g (List.mem_of_getElem? (i := 140) (by decide +kernel)) (by decide +kernel), in_g (List.mem_of_getElem? (i := 118) (by decide +kernel)) rfl, by decide +kernel⟩
theorem k8_init : Cond.instanceMethod B8_init.1 ∈ lw_g := in_g (List.mem_of_getElem? (i := 139) (by decide +kernel)) rfl
def y6_put : MethodName := ⟨"DeafWall$Told", "put", "(I)V"⟩
def B6_put : BB := (y6_put, prog_8_method_2_code, 3, none, { frames := 0, cells := 0, slots := 0, locals := 0 })
theorem m6_put : mOK B6_put 1 := ⟨by decide +kernel, in_g (List.mem_of_getElem? (i := 451) (by decide +kernel)) (by decide +kernel), in_g (List.mem_of_getElem? (i := 119) (by decide +kernel)) rfl, by decide +kernel⟩
theorem k6_put : Cond.instanceMethod B6_put.1 ∈ lw_g := in_g (List.mem_of_getElem? (i := 449) (by decide +kernel)) rfl
theorem e6_put : Cond.selects B6_put.1.cls B6_put.1 B6_put.1 ∈ lw_g := in_g (List.mem_of_getElem? (i := 450) (by decide +kernel)) rfl
def y8_feed : MethodName := ⟨"DeafWall", "feed", "(IIIII)I"⟩
def B8_feed : BB := (y8_feed, prog_1_method_2_code, 6, (some .int), { frames := 1, cells := 0, slots := 0, locals := 22 })
theorem m8_feed : mOK B8_feed 5 := ⟨by decide +kernel, in_g (List.mem_of_getElem? (i := 447) (by decide +kernel)) (by decide +kernel), in_g (List.mem_of_getElem? (i := 118) (by decide +kernel)) rfl, by decide +kernel⟩
theorem k8_feed : Cond.instanceMethod B8_feed.1 ∈ lw_g := in_g (List.mem_of_getElem? (i := 445) (by decide +kernel)) rfl
theorem e8_feed : Cond.selects B8_feed.1.cls B8_feed.1 B8_feed.1 ∈ lw_g := in_g (List.mem_of_getElem? (i := 446) (by decide +kernel)) rfl
def y8_end : MethodName := ⟨"DeafWall", "end", "(I)I"⟩
def B8_end : BB := (y8_end, prog_1_method_3_code, 2, (some .int), { frames := 0, cells := 0, slots := 0, locals := 0 })
theorem m8_end : mOK B8_end 1 := ⟨by decide +kernel, in_g (List.mem_of_getElem? (i := 455) (by decide +kernel)) (by decide +kernel), in_g (List.mem_of_getElem? (i := 118) (by decide +kernel)) rfl, by decide +kernel⟩
theorem k8_end : Cond.instanceMethod B8_end.1 ∈ lw_g := in_g (List.mem_of_getElem? (i := 453) (by decide +kernel)) rfl
theorem e8_end : Cond.selects B8_end.1.cls B8_end.1 B8_end.1 ∈ lw_g := in_g (List.mem_of_getElem? (i := 454) (by decide +kernel)) rfl
def y8_placeOf : MethodName := ⟨"DeafWall", "placeOf", "(II)I"⟩
def B8_placeOf : BB := (y8_placeOf, prog_1_method_5_code, 4, (some .int), { frames := 0, cells := 0, slots := 0, locals := 0 })
theorem m8_placeOf : mOK B8_placeOf 2 := ⟨by decide +kernel, in_g (List.mem_of_getElem? (i := 463) (by decide +kernel)) (by decide +kernel), in_g (List.mem_of_getElem? (i := 118) (by decide +kernel)) rfl, by decide +kernel⟩
theorem k8_placeOf : Cond.instanceMethod B8_placeOf.1 ∈ lw_g := in_g (List.mem_of_getElem? (i := 462) (by decide +kernel)) rfl
theorem e8_placeOf : Cond.selects B8_placeOf.1.cls B8_placeOf.1 B8_placeOf.1 ∈ lw_g := in_g (List.mem_of_getElem? (i := 0) (by decide +kernel)) rfl
def y2_init : MethodName := ⟨"DeafWall$Lines", "<init>", "(Z)V"⟩
def B2_init : BB := (y2_init, prog_4_method_1_code, 3, none, { frames := 1, cells := 3, slots := 120, locals := 20 })
theorem m2_init : mOK B2_init 1 := ⟨by decide +kernel, in_g (List.mem_of_getElem? (i := 477) (by decide +kernel)) (by decide +kernel), in_g (List.mem_of_getElem? (i := 128) (by decide +kernel)) rfl, by decide +kernel⟩
theorem k2_init : Cond.instanceMethod B2_init.1 ∈ lw_g := in_g (List.mem_of_getElem? (i := 476) (by decide +kernel)) rfl
def y4_isLetter : MethodName := ⟨"DeafWall$Reader", "isLetter", "(I)Z"⟩
def B4_isLetter : BB := (y4_isLetter, prog_6_method_5_code, 2, (some .boolean), { frames := 0, cells := 0, slots := 0, locals := 0 })
theorem m4_isLetter : mOK B4_isLetter 1 := ⟨by decide +kernel, in_g (List.mem_of_getElem? (i := 507) (by decide +kernel)) (by decide +kernel), in_g (List.mem_of_getElem? (i := 120) (by decide +kernel)) rfl, by decide +kernel⟩
theorem k4_isLetter : Cond.instanceMethod B4_isLetter.1 ∈ lw_g := in_g (List.mem_of_getElem? (i := 506) (by decide +kernel)) rfl
theorem e4_isLetter : Cond.selects B4_isLetter.1.cls B4_isLetter.1 B4_isLetter.1 ∈ lw_g := in_g (List.mem_of_getElem? (i := 2) (by decide +kernel)) rfl
def y4_isDigit : MethodName := ⟨"DeafWall$Reader", "isDigit", "(I)Z"⟩
def B4_isDigit : BB := (y4_isDigit, prog_6_method_6_code, 2, (some .boolean), { frames := 0, cells := 0, slots := 0, locals := 0 })
theorem m4_isDigit : mOK B4_isDigit 1 := ⟨by decide +kernel, in_g (List.mem_of_getElem? (i := 511) (by decide +kernel)) (by decide +kernel), in_g (List.mem_of_getElem? (i := 120) (by decide +kernel)) rfl, by decide +kernel⟩
theorem k4_isDigit : Cond.instanceMethod B4_isDigit.1 ∈ lw_g := in_g (List.mem_of_getElem? (i := 510) (by decide +kernel)) rfl
theorem e4_isDigit : Cond.selects B4_isDigit.1.cls B4_isDigit.1 B4_isDigit.1 ∈ lw_g := in_g (List.mem_of_getElem? (i := 3) (by decide +kernel)) rfl
def y4_readNumber : MethodName := ⟨"DeafWall$Reader", "readNumber", "()V"⟩
def B4_readNumber : BB := (y4_readNumber, prog_6_method_4_code, 1, none, { frames := 1, cells := 0, slots := 0, locals := 21 })
theorem m4_readNumber : mOK B4_readNumber 0 := ⟨by decide +kernel, in_g (List.mem_of_getElem? (i := 515) (by decide +kernel)) (by decide +kernel), in_g (List.mem_of_getElem? (i := 120) (by decide +kernel)) rfl, by decide +kernel⟩
theorem k4_readNumber : Cond.instanceMethod B4_readNumber.1 ∈ lw_g := in_g (List.mem_of_getElem? (i := 514) (by decide +kernel)) rfl
theorem e4_readNumber : Cond.selects B4_readNumber.1.cls B4_readNumber.1 B4_readNumber.1 ∈ lw_g := in_g (List.mem_of_getElem? (i := 4) (by decide +kernel)) rfl
def y4_nextToken : MethodName := ⟨"DeafWall$Reader", "nextToken", "()V"⟩
def B4_nextToken : BB := (y4_nextToken, prog_6_method_3_code, 1, none, { frames := 2, cells := 0, slots := 0, locals := 41 })
theorem m4_nextToken : mOK B4_nextToken 0 := ⟨by decide +kernel, in_g (List.mem_of_getElem? (i := 503) (by decide +kernel)) (by decide +kernel), in_g (List.mem_of_getElem? (i := 120) (by decide +kernel)) rfl, by decide +kernel⟩
theorem k4_nextToken : Cond.instanceMethod B4_nextToken.1 ∈ lw_g := in_g (List.mem_of_getElem? (i := 502) (by decide +kernel)) rfl
theorem e4_nextToken : Cond.selects B4_nextToken.1.cls B4_nextToken.1 B4_nextToken.1 ∈ lw_g := in_g (List.mem_of_getElem? (i := 1) (by decide +kernel)) rfl
def y4_wordOf : MethodName := ⟨"DeafWall$Reader", "wordOf", "(I)Ljava/lang/String;"⟩
def B4_wordOf : BB := (y4_wordOf, prog_6_method_12_code, 1, (some (.object "java/lang/String")), { frames := 0, cells := 0, slots := 0, locals := 0 })
theorem m4_wordOf : mOK B4_wordOf 1 := ⟨by decide +kernel, in_g (List.mem_of_getElem? (i := 528) (by decide +kernel)) (by decide +kernel), in_g (List.mem_of_getElem? (i := 120) (by decide +kernel)) rfl, by decide +kernel⟩
theorem k4_wordOf : Cond.static B4_wordOf.1 ∈ lw_g := in_g (List.mem_of_getElem? (i := 527) (by decide +kernel)) rfl
def y4_isWord : MethodName := ⟨"DeafWall$Reader", "isWord", "(Ljava/lang/String;)Z"⟩
def B4_isWord : BB := (y4_isWord, prog_6_method_11_code, 3, (some .boolean), { frames := 4, cells := 0, slots := 0, locals := 141 })
theorem m4_isWord : mOK B4_isWord 1 := ⟨by decide +kernel, in_g (List.mem_of_getElem? (i := 546) (by decide +kernel)) (by decide +kernel), in_g (List.mem_of_getElem? (i := 120) (by decide +kernel)) rfl, by decide +kernel⟩
theorem k4_isWord : Cond.instanceMethod B4_isWord.1 ∈ lw_g := in_g (List.mem_of_getElem? (i := 545) (by decide +kernel)) rfl
theorem e4_isWord : Cond.selects B4_isWord.1.cls B4_isWord.1 B4_isWord.1 ∈ lw_g := in_g (List.mem_of_getElem? (i := 7) (by decide +kernel)) rfl
def y4_kindOfWord : MethodName := ⟨"DeafWall$Reader", "kindOfWord", "()I"⟩
def B4_kindOfWord : BB := (y4_kindOfWord, prog_6_method_10_code, 2, (some .int), { frames := 5, cells := 0, slots := 0, locals := 163 })
theorem m4_kindOfWord : mOK B4_kindOfWord 0 := ⟨by decide +kernel, in_g (List.mem_of_getElem? (i := 523) (by decide +kernel)) (by decide +kernel), in_g (List.mem_of_getElem? (i := 120) (by decide +kernel)) rfl, by decide +kernel⟩
theorem k4_kindOfWord : Cond.instanceMethod B4_kindOfWord.1 ∈ lw_g := in_g (List.mem_of_getElem? (i := 522) (by decide +kernel)) rfl
theorem e4_kindOfWord : Cond.selects B4_kindOfWord.1.cls B4_kindOfWord.1 B4_kindOfWord.1 ∈ lw_g := in_g (List.mem_of_getElem? (i := 6) (by decide +kernel)) rfl
def y4_note : MethodName := ⟨"DeafWall$Reader", "note", "(II)V"⟩
def B4_note : BB := (y4_note, prog_6_method_7_code, 3, none, { frames := 0, cells := 0, slots := 0, locals := 0 })
theorem m4_note : mOK B4_note 2 := ⟨by decide +kernel, in_g (List.mem_of_getElem? (i := 602) (by decide +kernel)) (by decide +kernel), in_g (List.mem_of_getElem? (i := 120) (by decide +kernel)) rfl, by decide +kernel⟩
theorem k4_note : Cond.instanceMethod B4_note.1 ∈ lw_g := in_g (List.mem_of_getElem? (i := 601) (by decide +kernel)) rfl
theorem e4_note : Cond.selects B4_note.1.cls B4_note.1 B4_note.1 ∈ lw_g := in_g (List.mem_of_getElem? (i := 9) (by decide +kernel)) rfl
def y4_refuse : MethodName := ⟨"DeafWall$Reader", "refuse", "()Z"⟩
def B4_refuse : BB := (y4_refuse, prog_6_method_8_code, 1, (some .boolean), { frames := 1, cells := 0, slots := 0, locals := 22 })
theorem m4_refuse : mOK B4_refuse 0 := ⟨by decide +kernel, in_g (List.mem_of_getElem? (i := 598) (by decide +kernel)) (by decide +kernel), in_g (List.mem_of_getElem? (i := 120) (by decide +kernel)) rfl, by decide +kernel⟩
theorem k4_refuse : Cond.instanceMethod B4_refuse.1 ∈ lw_g := in_g (List.mem_of_getElem? (i := 597) (by decide +kernel)) rfl
theorem e4_refuse : Cond.selects B4_refuse.1.cls B4_refuse.1 B4_refuse.1 ∈ lw_g := in_g (List.mem_of_getElem? (i := 8) (by decide +kernel)) rfl
def y4_countLine : MethodName := ⟨"DeafWall$Reader", "countLine", "(I)V"⟩
def B4_countLine : BB := (y4_countLine, prog_6_method_13_code, 3, none, { frames := 1, cells := 0, slots := 0, locals := 22 })
theorem m4_countLine : mOK B4_countLine 1 := ⟨by decide +kernel, in_g (List.mem_of_getElem? (i := 606) (by decide +kernel)) (by decide +kernel), in_g (List.mem_of_getElem? (i := 120) (by decide +kernel)) rfl, by decide +kernel⟩
theorem k4_countLine : Cond.instanceMethod B4_countLine.1 ∈ lw_g := in_g (List.mem_of_getElem? (i := 605) (by decide +kernel)) rfl
theorem e4_countLine : Cond.selects B4_countLine.1.cls B4_countLine.1 B4_countLine.1 ∈ lw_g := in_g (List.mem_of_getElem? (i := 10) (by decide +kernel)) rfl
def y4_lookAtNumber : MethodName := ⟨"DeafWall$Reader", "lookAtNumber", "(II)V"⟩
def B4_lookAtNumber : BB := (y4_lookAtNumber, prog_6_method_14_code, 5, none, { frames := 1, cells := 0, slots := 0, locals := 22 })
theorem m4_lookAtNumber : mOK B4_lookAtNumber 2 := ⟨by decide +kernel, in_g (List.mem_of_getElem? (i := 614) (by decide +kernel)) (by decide +kernel), in_g (List.mem_of_getElem? (i := 120) (by decide +kernel)) rfl, by decide +kernel⟩
theorem k4_lookAtNumber : Cond.instanceMethod B4_lookAtNumber.1 ∈ lw_g := in_g (List.mem_of_getElem? (i := 613) (by decide +kernel)) rfl
theorem e4_lookAtNumber : Cond.selects B4_lookAtNumber.1.cls B4_lookAtNumber.1 B4_lookAtNumber.1 ∈ lw_g := in_g (List.mem_of_getElem? (i := 12) (by decide +kernel)) rfl
def y7_addTale : MethodName := ⟨"DeafWall$Wall", "addTale", "(II)V"⟩
def B7_addTale : BB := (y7_addTale, prog_9_method_10_code, 3, none, { frames := 0, cells := 0, slots := 0, locals := 0 })
theorem m7_addTale : mOK B7_addTale 2 := ⟨by decide +kernel, in_g (List.mem_of_getElem? (i := 626) (by decide +kernel)) (by decide +kernel), in_g (List.mem_of_getElem? (i := 122) (by decide +kernel)) rfl, by decide +kernel⟩
theorem k7_addTale : Cond.instanceMethod B7_addTale.1 ∈ lw_g := in_g (List.mem_of_getElem? (i := 624) (by decide +kernel)) rfl
theorem e7_addTale : Cond.selects B7_addTale.1.cls B7_addTale.1 B7_addTale.1 ∈ lw_g := in_g (List.mem_of_getElem? (i := 625) (by decide +kernel)) rfl
def y4_readTale : MethodName := ⟨"DeafWall$Reader", "readTale", "()Z"⟩
def B4_readTale : BB := (y4_readTale, prog_6_method_15_code, 4, (some .boolean), { frames := 3, cells := 0, slots := 0, locals := 61 })
theorem m4_readTale : mOK B4_readTale 0 := ⟨by decide +kernel, in_g (List.mem_of_getElem? (i := 610) (by decide +kernel)) (by decide +kernel), in_g (List.mem_of_getElem? (i := 120) (by decide +kernel)) rfl, by decide +kernel⟩
theorem k4_readTale : Cond.instanceMethod B4_readTale.1 ∈ lw_g := in_g (List.mem_of_getElem? (i := 609) (by decide +kernel)) rfl
theorem e4_readTale : Cond.selects B4_readTale.1.cls B4_readTale.1 B4_readTale.1 ∈ lw_g := in_g (List.mem_of_getElem? (i := 11) (by decide +kernel)) rfl
def y2_addLine : MethodName := ⟨"DeafWall$Lines", "addLine", "(III)V"⟩
def B2_addLine : BB := (y2_addLine, prog_4_method_2_code, 4, none, { frames := 0, cells := 0, slots := 0, locals := 0 })
theorem m2_addLine : mOK B2_addLine 3 := ⟨by decide +kernel, in_g (List.mem_of_getElem? (i := 636) (by decide +kernel)) (by decide +kernel), in_g (List.mem_of_getElem? (i := 128) (by decide +kernel)) rfl, by decide +kernel⟩
theorem k2_addLine : Cond.instanceMethod B2_addLine.1 ∈ lw_g := in_g (List.mem_of_getElem? (i := 634) (by decide +kernel)) rfl
theorem e2_addLine : Cond.selects B2_addLine.1.cls B2_addLine.1 B2_addLine.1 ∈ lw_g := in_g (List.mem_of_getElem? (i := 635) (by decide +kernel)) rfl
def y7_resize : MethodName := ⟨"DeafWall$Wall", "resize", "(II)V"⟩
def B7_resize : BB := (y7_resize, prog_9_method_6_code, 3, none, { frames := 0, cells := 0, slots := 0, locals := 0 })
theorem m7_resize : mOK B7_resize 2 := ⟨by decide +kernel, in_g (List.mem_of_getElem? (i := 644) (by decide +kernel)) (by decide +kernel), in_g (List.mem_of_getElem? (i := 122) (by decide +kernel)) rfl, by decide +kernel⟩
theorem k7_resize : Cond.instanceMethod B7_resize.1 ∈ lw_g := in_g (List.mem_of_getElem? (i := 642) (by decide +kernel)) rfl
theorem e7_resize : Cond.selects B7_resize.1.cls B7_resize.1 B7_resize.1 ∈ lw_g := in_g (List.mem_of_getElem? (i := 643) (by decide +kernel)) rfl
def y7_deaden : MethodName := ⟨"DeafWall$Wall", "deaden", "(II)V"⟩
def B7_deaden : BB := (y7_deaden, prog_9_method_7_code, 3, none, { frames := 0, cells := 0, slots := 0, locals := 0 })
theorem m7_deaden : mOK B7_deaden 2 := ⟨by decide +kernel, in_g (List.mem_of_getElem? (i := 651) (by decide +kernel)) (by decide +kernel), in_g (List.mem_of_getElem? (i := 122) (by decide +kernel)) rfl, by decide +kernel⟩
theorem k7_deaden : Cond.instanceMethod B7_deaden.1 ∈ lw_g := in_g (List.mem_of_getElem? (i := 649) (by decide +kernel)) rfl
theorem e7_deaden : Cond.selects B7_deaden.1.cls B7_deaden.1 B7_deaden.1 ∈ lw_g := in_g (List.mem_of_getElem? (i := 650) (by decide +kernel)) rfl
def y7_putSource : MethodName := ⟨"DeafWall$Wall", "putSource", "(I)V"⟩
def B7_putSource : BB := (y7_putSource, prog_9_method_8_code, 2, none, { frames := 0, cells := 0, slots := 0, locals := 0 })
theorem m7_putSource : mOK B7_putSource 1 := ⟨by decide +kernel, in_g (List.mem_of_getElem? (i := 655) (by decide +kernel)) (by decide +kernel), in_g (List.mem_of_getElem? (i := 122) (by decide +kernel)) rfl, by decide +kernel⟩
theorem k7_putSource : Cond.instanceMethod B7_putSource.1 ∈ lw_g := in_g (List.mem_of_getElem? (i := 653) (by decide +kernel)) rfl
theorem e7_putSource : Cond.selects B7_putSource.1.cls B7_putSource.1 B7_putSource.1 ∈ lw_g := in_g (List.mem_of_getElem? (i := 654) (by decide +kernel)) rfl
def y7_addFeeler : MethodName := ⟨"DeafWall$Wall", "addFeeler", "(II)V"⟩
def B7_addFeeler : BB := (y7_addFeeler, prog_9_method_9_code, 3, none, { frames := 0, cells := 0, slots := 0, locals := 0 })
theorem m7_addFeeler : mOK B7_addFeeler 2 := ⟨by decide +kernel, in_g (List.mem_of_getElem? (i := 659) (by decide +kernel)) (by decide +kernel), in_g (List.mem_of_getElem? (i := 122) (by decide +kernel)) rfl, by decide +kernel⟩
theorem k7_addFeeler : Cond.instanceMethod B7_addFeeler.1 ∈ lw_g := in_g (List.mem_of_getElem? (i := 657) (by decide +kernel)) rfl
theorem e7_addFeeler : Cond.selects B7_addFeeler.1.cls B7_addFeeler.1 B7_addFeeler.1 ∈ lw_g := in_g (List.mem_of_getElem? (i := 658) (by decide +kernel)) rfl
def y4_keepWallLine : MethodName := ⟨"DeafWall$Reader", "keepWallLine", "(III)V"⟩
def B4_keepWallLine : BB := (y4_keepWallLine, prog_6_method_17_code, 4, none, { frames := 1, cells := 0, slots := 0, locals := 22 })
theorem m4_keepWallLine : mOK B4_keepWallLine 3 := ⟨by decide +kernel, in_g (List.mem_of_getElem? (i := 640) (by decide +kernel)) (by decide +kernel), in_g (List.mem_of_getElem? (i := 120) (by decide +kernel)) rfl, by decide +kernel⟩
theorem k4_keepWallLine : Cond.instanceMethod B4_keepWallLine.1 ∈ lw_g := in_g (List.mem_of_getElem? (i := 639) (by decide +kernel)) rfl
theorem e4_keepWallLine : Cond.selects B4_keepWallLine.1.cls B4_keepWallLine.1 B4_keepWallLine.1 ∈ lw_g := in_g (List.mem_of_getElem? (i := 14) (by decide +kernel)) rfl
def y4_keepLine : MethodName := ⟨"DeafWall$Reader", "keepLine", "(III)V"⟩
def B4_keepLine : BB := (y4_keepLine, prog_6_method_16_code, 4, none, { frames := 2, cells := 0, slots := 0, locals := 45 })
theorem m4_keepLine : mOK B4_keepLine 3 := ⟨by decide +kernel, in_g (List.mem_of_getElem? (i := 632) (by decide +kernel)) (by decide +kernel), in_g (List.mem_of_getElem? (i := 120) (by decide +kernel)) rfl, by decide +kernel⟩
theorem k4_keepLine : Cond.instanceMethod B4_keepLine.1 ∈ lw_g := in_g (List.mem_of_getElem? (i := 631) (by decide +kernel)) rfl
theorem e4_keepLine : Cond.selects B4_keepLine.1.cls B4_keepLine.1 B4_keepLine.1 ∈ lw_g := in_g (List.mem_of_getElem? (i := 13) (by decide +kernel)) rfl
def y4_readLine : MethodName := ⟨"DeafWall$Reader", "readLine", "()Z"⟩
def B4_readLine : BB := (y4_readLine, prog_6_method_9_code, 5, (some .boolean), { frames := 6, cells := 0, slots := 0, locals := 184 })
theorem m4_readLine : mOK B4_readLine 0 := ⟨by decide +kernel, in_g (List.mem_of_getElem? (i := 519) (by decide +kernel)) (by decide +kernel), in_g (List.mem_of_getElem? (i := 120) (by decide +kernel)) rfl, by decide +kernel⟩
theorem k4_readLine : Cond.instanceMethod B4_readLine.1 ∈ lw_g := in_g (List.mem_of_getElem? (i := 518) (by decide +kernel)) rfl
theorem e4_readLine : Cond.selects B4_readLine.1.cls B4_readLine.1 B4_readLine.1 ∈ lw_g := in_g (List.mem_of_getElem? (i := 5) (by decide +kernel)) rfl
def y7_hasCell : MethodName := ⟨"DeafWall$Wall", "hasCell", "(I)Z"⟩
def B7_hasCell : BB := (y7_hasCell, prog_9_method_3_code, 2, (some .boolean), { frames := 0, cells := 0, slots := 0, locals := 0 })
theorem m7_hasCell : mOK B7_hasCell 1 := ⟨by decide +kernel, in_g (List.mem_of_getElem? (i := 663) (by decide +kernel)) (by decide +kernel), in_g (List.mem_of_getElem? (i := 122) (by decide +kernel)) rfl, by decide +kernel⟩
theorem k7_hasCell : Cond.instanceMethod B7_hasCell.1 ∈ lw_g := in_g (List.mem_of_getElem? (i := 661) (by decide +kernel)) rfl
theorem e7_hasCell : Cond.selects B7_hasCell.1.cls B7_hasCell.1 B7_hasCell.1 ∈ lw_g := in_g (List.mem_of_getElem? (i := 662) (by decide +kernel)) rfl
def y4_read : MethodName := ⟨"DeafWall$Reader", "read", "([BII)V"⟩
def B4_read : BB := (y4_read, prog_6_method_2_code, 6, none, { frames := 7, cells := 10, slots := 190, locals := 208 })
theorem m4_read : mOK B4_read 3 := ⟨by decide +kernel, in_g (List.mem_of_getElem? (i := 467) (by decide +kernel)) (by decide +kernel), in_g (List.mem_of_getElem? (i := 120) (by decide +kernel)) rfl, by decide +kernel⟩
theorem k4_read : Cond.instanceMethod B4_read.1 ∈ lw_g := in_g (List.mem_of_getElem? (i := 465) (by decide +kernel)) rfl
theorem e4_read : Cond.selects B4_read.1.cls B4_read.1 B4_read.1 ∈ lw_g := in_g (List.mem_of_getElem? (i := 466) (by decide +kernel)) rfl
def y6_keep : MethodName := ⟨"DeafWall$Told", "keep", "(IILDeafWall$Wall;LDeafWall$Lines;)V"⟩
def B6_keep : BB := (y6_keep, prog_8_method_3_code, 5, none, { frames := 1, cells := 0, slots := 0, locals := 21 })
theorem m6_keep : mOK B6_keep 4 := ⟨by decide +kernel, in_g (List.mem_of_getElem? (i := 667) (by decide +kernel)) (by decide +kernel), in_g (List.mem_of_getElem? (i := 119) (by decide +kernel)) rfl, by decide +kernel⟩
theorem k6_keep : Cond.instanceMethod B6_keep.1 ∈ lw_g := in_g (List.mem_of_getElem? (i := 665) (by decide +kernel)) rfl
theorem e6_keep : Cond.selects B6_keep.1.cls B6_keep.1 B6_keep.1 ∈ lw_g := in_g (List.mem_of_getElem? (i := 666) (by decide +kernel)) rfl
def y8_text : MethodName := ⟨"DeafWall", "text", "(II)I"⟩
def B8_text : BB := (y8_text, prog_1_method_4_code, 5, (some .int), { frames := 8, cells := 10, slots := 190, locals := 233 })
theorem m8_text : mOK B8_text 2 := ⟨by decide +kernel, in_g (List.mem_of_getElem? (i := 459) (by decide +kernel)) (by decide +kernel), in_g (List.mem_of_getElem? (i := 118) (by decide +kernel)) rfl, by decide +kernel⟩
theorem k8_text : Cond.instanceMethod B8_text.1 ∈ lw_g := in_g (List.mem_of_getElem? (i := 457) (by decide +kernel)) rfl
theorem e8_text : Cond.selects B8_text.1.cls B8_text.1 B8_text.1 ∈ lw_g := in_g (List.mem_of_getElem? (i := 458) (by decide +kernel)) rfl
def y8_fault : MethodName := ⟨"DeafWall", "fault", "(I)I"⟩
def B8_fault : BB := (y8_fault, prog_1_method_6_code, 2, (some .int), { frames := 0, cells := 0, slots := 0, locals := 0 })
theorem m8_fault : mOK B8_fault 1 := ⟨by decide +kernel, in_g (List.mem_of_getElem? (i := 672) (by decide +kernel)) (by decide +kernel), in_g (List.mem_of_getElem? (i := 118) (by decide +kernel)) rfl, by decide +kernel⟩
theorem k8_fault : Cond.instanceMethod B8_fault.1 ∈ lw_g := in_g (List.mem_of_getElem? (i := 670) (by decide +kernel)) rfl
theorem e8_fault : Cond.selects B8_fault.1.cls B8_fault.1 B8_fault.1 ∈ lw_g := in_g (List.mem_of_getElem? (i := 671) (by decide +kernel)) rfl
def y8_count : MethodName := ⟨"DeafWall", "count", "(I)I"⟩
def B8_count : BB := (y8_count, prog_1_method_7_code, 2, (some .int), { frames := 0, cells := 0, slots := 0, locals := 0 })
theorem m8_count : mOK B8_count 1 := ⟨by decide +kernel, in_g (List.mem_of_getElem? (i := 676) (by decide +kernel)) (by decide +kernel), in_g (List.mem_of_getElem? (i := 118) (by decide +kernel)) rfl, by decide +kernel⟩
theorem k8_count : Cond.instanceMethod B8_count.1 ∈ lw_g := in_g (List.mem_of_getElem? (i := 674) (by decide +kernel)) rfl
theorem e8_count : Cond.selects B8_count.1.cls B8_count.1 B8_count.1 ∈ lw_g := in_g (List.mem_of_getElem? (i := 675) (by decide +kernel)) rfl
def y6_become : MethodName := ⟨"DeafWall$Told", "become", "(LDeafWall$Told;)V"⟩
def B6_become : BB := (y6_become, prog_8_method_4_code, 3, none, { frames := 1, cells := 0, slots := 0, locals := 40 })
theorem m6_become : mOK B6_become 1 := ⟨by decide +kernel, in_g (List.mem_of_getElem? (i := 684) (by decide +kernel)) (by decide +kernel), in_g (List.mem_of_getElem? (i := 119) (by decide +kernel)) rfl, by decide +kernel⟩
theorem k6_become : Cond.instanceMethod B6_become.1 ∈ lw_g := in_g (List.mem_of_getElem? (i := 682) (by decide +kernel)) rfl
theorem e6_become : Cond.selects B6_become.1.cls B6_become.1 B6_become.1 ∈ lw_g := in_g (List.mem_of_getElem? (i := 683) (by decide +kernel)) rfl
def y8_image : MethodName := ⟨"DeafWall", "image", "(I)Z"⟩
def B8_image : BB := (y8_image, prog_1_method_8_code, 2, (some .boolean), { frames := 2, cells := 6, slots := 617, locals := 62 })
theorem m8_image : mOK B8_image 1 := ⟨by decide +kernel, in_g (List.mem_of_getElem? (i := 680) (by decide +kernel)) (by decide +kernel), in_g (List.mem_of_getElem? (i := 118) (by decide +kernel)) rfl, by decide +kernel⟩
theorem k8_image : Cond.instanceMethod B8_image.1 ∈ lw_g := in_g (List.mem_of_getElem? (i := 678) (by decide +kernel)) rfl
theorem e8_image : Cond.selects B8_image.1.cls B8_image.1 B8_image.1 ∈ lw_g := in_g (List.mem_of_getElem? (i := 679) (by decide +kernel)) rfl
def y8_again : MethodName := ⟨"DeafWall", "again", "(I)Z"⟩
def B8_again : BB := (y8_again, prog_1_method_9_code, 2, (some .boolean), { frames := 2, cells := 0, slots := 0, locals := 62 })
theorem m8_again : mOK B8_again 1 := ⟨by decide +kernel, in_g (List.mem_of_getElem? (i := 691) (by decide +kernel)) (by decide +kernel), in_g (List.mem_of_getElem? (i := 118) (by decide +kernel)) rfl, by decide +kernel⟩
theorem k8_again : Cond.instanceMethod B8_again.1 ∈ lw_g := in_g (List.mem_of_getElem? (i := 689) (by decide +kernel)) rfl
theorem e8_again : Cond.selects B8_again.1.cls B8_again.1 B8_again.1 ∈ lw_g := in_g (List.mem_of_getElem? (i := 690) (by decide +kernel)) rfl
def y8_wallAt : MethodName := ⟨"DeafWall", "wallAt", "(I)LDeafWall$Wall;"⟩
def B8_wallAt : BB := (y8_wallAt, prog_1_method_14_code, 2, (some (.object "DeafWall$Wall")), { frames := 0, cells := 0, slots := 0, locals := 0 })
theorem m8_wallAt : mOK B8_wallAt 1 := ⟨by decide +kernel, in_g (List.mem_of_getElem? (i := 699) (by decide +kernel)) (by decide +kernel), in_g (List.mem_of_getElem? (i := 118) (by decide +kernel)) rfl, by decide +kernel⟩
theorem k8_wallAt : Cond.instanceMethod B8_wallAt.1 ∈ lw_g := in_g (List.mem_of_getElem? (i := 698) (by decide +kernel)) rfl
theorem e8_wallAt : Cond.selects B8_wallAt.1.cls B8_wallAt.1 B8_wallAt.1 ∈ lw_g := in_g (List.mem_of_getElem? (i := 15) (by decide +kernel)) rfl
def y7_hasTale : MethodName := ⟨"DeafWall$Wall", "hasTale", "(I)Z"⟩
def B7_hasTale : BB := (y7_hasTale, prog_9_method_5_code, 2, (some .boolean), { frames := 0, cells := 0, slots := 0, locals := 0 })
theorem m7_hasTale : mOK B7_hasTale 1 := ⟨by decide +kernel, in_g (List.mem_of_getElem? (i := 704) (by decide +kernel)) (by decide +kernel), in_g (List.mem_of_getElem? (i := 122) (by decide +kernel)) rfl, by decide +kernel⟩
theorem k7_hasTale : Cond.instanceMethod B7_hasTale.1 ∈ lw_g := in_g (List.mem_of_getElem? (i := 702) (by decide +kernel)) rfl
theorem e7_hasTale : Cond.selects B7_hasTale.1.cls B7_hasTale.1 B7_hasTale.1 ∈ lw_g := in_g (List.mem_of_getElem? (i := 703) (by decide +kernel)) rfl
def y7_hasFeeler : MethodName := ⟨"DeafWall$Wall", "hasFeeler", "(I)Z"⟩
def B7_hasFeeler : BB := (y7_hasFeeler, prog_9_method_4_code, 2, (some .boolean), { frames := 0, cells := 0, slots := 0, locals := 0 })
theorem m7_hasFeeler : mOK B7_hasFeeler 1 := ⟨by decide +kernel, in_g (List.mem_of_getElem? (i := 708) (by decide +kernel)) (by decide +kernel), in_g (List.mem_of_getElem? (i := 122) (by decide +kernel)) rfl, by decide +kernel⟩
theorem k7_hasFeeler : Cond.instanceMethod B7_hasFeeler.1 ∈ lw_g := in_g (List.mem_of_getElem? (i := 706) (by decide +kernel)) rfl
theorem e7_hasFeeler : Cond.selects B7_hasFeeler.1.cls B7_hasFeeler.1 B7_hasFeeler.1 ∈ lw_g := in_g (List.mem_of_getElem? (i := 707) (by decide +kernel)) rfl
def y8_wall : MethodName := ⟨"DeafWall", "wall", "(II)I"⟩
def B8_wall : BB := (y8_wall, prog_1_method_10_code, 4, (some .int), { frames := 1, cells := 0, slots := 0, locals := 21 })
theorem m8_wall : mOK B8_wall 2 := ⟨by decide +kernel, in_g (List.mem_of_getElem? (i := 695) (by decide +kernel)) (by decide +kernel), in_g (List.mem_of_getElem? (i := 118) (by decide +kernel)) rfl, by decide +kernel⟩
theorem k8_wall : Cond.instanceMethod B8_wall.1 ∈ lw_g := in_g (List.mem_of_getElem? (i := 693) (by decide +kernel)) rfl
theorem e8_wall : Cond.selects B8_wall.1.cls B8_wall.1 B8_wall.1 ∈ lw_g := in_g (List.mem_of_getElem? (i := 694) (by decide +kernel)) rfl
def y8_linesAt : MethodName := ⟨"DeafWall", "linesAt", "(II)LDeafWall$Lines;"⟩
def B8_linesAt : BB := (y8_linesAt, prog_1_method_15_code, 3, (some (.object "DeafWall$Lines")), { frames := 0, cells := 0, slots := 0, locals := 0 })
theorem m8_linesAt : mOK B8_linesAt 2 := ⟨by decide +kernel, in_g (List.mem_of_getElem? (i := 716) (by decide +kernel)) (by decide +kernel), in_g (List.mem_of_getElem? (i := 118) (by decide +kernel)) rfl, by decide +kernel⟩
theorem k8_linesAt : Cond.instanceMethod B8_linesAt.1 ∈ lw_g := in_g (List.mem_of_getElem? (i := 715) (by decide +kernel)) rfl
theorem e8_linesAt : Cond.selects B8_linesAt.1.cls B8_linesAt.1 B8_linesAt.1 ∈ lw_g := in_g (List.mem_of_getElem? (i := 16) (by decide +kernel)) rfl
def y8_lineOf : MethodName := ⟨"DeafWall", "lineOf", "(LDeafWall$Lines;II)I"⟩
def B8_lineOf : BB := (y8_lineOf, prog_1_method_13_code, 3, (some .int), { frames := 0, cells := 0, slots := 0, locals := 0 })
theorem m8_lineOf : mOK B8_lineOf 3 := ⟨by decide +kernel, in_g (List.mem_of_getElem? (i := 719) (by decide +kernel)) (by decide +kernel), in_g (List.mem_of_getElem? (i := 118) (by decide +kernel)) rfl, by decide +kernel⟩
theorem k8_lineOf : Cond.static B8_lineOf.1 ∈ lw_g := in_g (List.mem_of_getElem? (i := 718) (by decide +kernel)) rfl
def y8_deed : MethodName := ⟨"DeafWall", "deed", "(III)I"⟩
def B8_deed : BB := (y8_deed, prog_1_method_11_code, 4, (some .int), { frames := 1, cells := 0, slots := 0, locals := 22 })
theorem m8_deed : mOK B8_deed 3 := ⟨by decide +kernel, in_g (List.mem_of_getElem? (i := 712) (by decide +kernel)) (by decide +kernel), in_g (List.mem_of_getElem? (i := 118) (by decide +kernel)) rfl, by decide +kernel⟩
theorem k8_deed : Cond.instanceMethod B8_deed.1 ∈ lw_g := in_g (List.mem_of_getElem? (i := 710) (by decide +kernel)) rfl
theorem e8_deed : Cond.selects B8_deed.1.cls B8_deed.1 B8_deed.1 ∈ lw_g := in_g (List.mem_of_getElem? (i := 711) (by decide +kernel)) rfl
def y8_fact : MethodName := ⟨"DeafWall", "fact", "(III)I"⟩
def B8_fact : BB := (y8_fact, prog_1_method_12_code, 4, (some .int), { frames := 1, cells := 0, slots := 0, locals := 22 })
theorem m8_fact : mOK B8_fact 3 := ⟨by decide +kernel, in_g (List.mem_of_getElem? (i := 723) (by decide +kernel)) (by decide +kernel), in_g (List.mem_of_getElem? (i := 118) (by decide +kernel)) rfl, by decide +kernel⟩
theorem k8_fact : Cond.instanceMethod B8_fact.1 ∈ lw_g := in_g (List.mem_of_getElem? (i := 721) (by decide +kernel)) rfl
theorem e8_fact : Cond.selects B8_fact.1.cls B8_fact.1 B8_fact.1 ∈ lw_g := in_g (List.mem_of_getElem? (i := 722) (by decide +kernel)) rfl
def y5_begin : MethodName := ⟨"DeafWall$Stand", "begin", "(LDeafWall$Wall;)V"⟩
def B5_begin : BB := (y5_begin, prog_7_method_2_code, 2, none, { frames := 1, cells := 0, slots := 0, locals := 40 })
theorem m5_begin : mOK B5_begin 1 := ⟨by decide +kernel, in_g (List.mem_of_getElem? (i := 735) (by decide +kernel)) (by decide +kernel), in_g (List.mem_of_getElem? (i := 121) (by decide +kernel)) rfl, by decide +kernel⟩
theorem k5_begin : Cond.instanceMethod B5_begin.1 ∈ lw_g := in_g (List.mem_of_getElem? (i := 733) (by decide +kernel)) rfl
theorem e5_begin : Cond.selects B5_begin.1.cls B5_begin.1 B5_begin.1 ∈ lw_g := in_g (List.mem_of_getElem? (i := 734) (by decide +kernel)) rfl
def y8_passOn : MethodName := ⟨"DeafWall", "passOn", "(LDeafWall$Wall;[I[I[I)V"⟩
def B8_passOn : BB := (y8_passOn, prog_1_method_78_code, 8, none, { frames := 1, cells := 0, slots := 0, locals := 21 })
theorem m8_passOn : mOK B8_passOn 4 := ⟨by decide +kernel, in_g (List.mem_of_getElem? (i := 748) (by decide +kernel)) (by decide +kernel), in_g (List.mem_of_getElem? (i := 118) (by decide +kernel)) rfl, by decide +kernel⟩
theorem k8_passOn : Cond.static B8_passOn.1 ∈ lw_g := in_g (List.mem_of_getElem? (i := 747) (by decide +kernel)) rfl
def y8_markOf : MethodName := ⟨"DeafWall", "markOf", "(LDeafWall$Wall;II)I"⟩
def B8_markOf : BB := (y8_markOf, prog_1_method_60_code, 3, (some .int), { frames := 0, cells := 0, slots := 0, locals := 0 })
theorem m8_markOf : mOK B8_markOf 3 := ⟨by decide +kernel, in_g (List.mem_of_getElem? (i := 761) (by decide +kernel)) (by decide +kernel), in_g (List.mem_of_getElem? (i := 118) (by decide +kernel)) rfl, by decide +kernel⟩
theorem k8_markOf : Cond.static B8_markOf.1 ∈ lw_g := in_g (List.mem_of_getElem? (i := 760) (by decide +kernel)) rfl
def y5_endsWith : MethodName := ⟨"DeafWall$Stand", "endsWith", "(II)Z"⟩
def B5_endsWith : BB := (y5_endsWith, prog_7_method_10_code, 4, (some .boolean), { frames := 1, cells := 0, slots := 0, locals := 22 })
theorem m5_endsWith : mOK B5_endsWith 2 := ⟨by decide +kernel, in_g (List.mem_of_getElem? (i := 758) (by decide +kernel)) (by decide +kernel), in_g (List.mem_of_getElem? (i := 121) (by decide +kernel)) rfl, by decide +kernel⟩
theorem k5_endsWith : Cond.instanceMethod B5_endsWith.1 ∈ lw_g := in_g (List.mem_of_getElem? (i := 757) (by decide +kernel)) rfl
theorem e5_endsWith : Cond.selects B5_endsWith.1.cls B5_endsWith.1 B5_endsWith.1 ∈ lw_g := in_g (List.mem_of_getElem? (i := 19) (by decide +kernel)) rfl
def y5_feel : MethodName := ⟨"DeafWall$Stand", "feel", "(I)I"⟩
def B5_feel : BB := (y5_feel, prog_7_method_9_code, 5, (some .int), { frames := 2, cells := 0, slots := 0, locals := 45 })
theorem m5_feel : mOK B5_feel 1 := ⟨by decide +kernel, in_g (List.mem_of_getElem? (i := 754) (by decide +kernel)) (by decide +kernel), in_g (List.mem_of_getElem? (i := 121) (by decide +kernel)) rfl, by decide +kernel⟩
theorem k5_feel : Cond.instanceMethod B5_feel.1 ∈ lw_g := in_g (List.mem_of_getElem? (i := 753) (by decide +kernel)) rfl
theorem e5_feel : Cond.selects B5_feel.1.cls B5_feel.1 B5_feel.1 ∈ lw_g := in_g (List.mem_of_getElem? (i := 18) (by decide +kernel)) rfl
def y5_beat : MethodName := ⟨"DeafWall$Stand", "beat", "(I)V"⟩
def B5_beat : BB := (y5_beat, prog_7_method_8_code, 5, none, { frames := 3, cells := 0, slots := 0, locals := 69 })
theorem m5_beat : mOK B5_beat 1 := ⟨by decide +kernel, in_g (List.mem_of_getElem? (i := 745) (by decide +kernel)) (by decide +kernel), in_g (List.mem_of_getElem? (i := 121) (by decide +kernel)) rfl, by decide +kernel⟩
theorem k5_beat : Cond.instanceMethod B5_beat.1 ∈ lw_g := in_g (List.mem_of_getElem? (i := 744) (by decide +kernel)) rfl
theorem e5_beat : Cond.selects B5_beat.1.cls B5_beat.1 B5_beat.1 ∈ lw_g := in_g (List.mem_of_getElem? (i := 17) (by decide +kernel)) rfl
def y5_deaden : MethodName := ⟨"DeafWall$Stand", "deaden", "(II)Z"⟩
def B5_deaden : BB := (y5_deaden, prog_7_method_5_code, 3, (some .boolean), { frames := 1, cells := 0, slots := 0, locals := 21 })
theorem m5_deaden : mOK B5_deaden 2 := ⟨by decide +kernel, in_g (List.mem_of_getElem? (i := 765) (by decide +kernel)) (by decide +kernel), in_g (List.mem_of_getElem? (i := 121) (by decide +kernel)) rfl, by decide +kernel⟩
theorem k5_deaden : Cond.instanceMethod B5_deaden.1 ∈ lw_g := in_g (List.mem_of_getElem? (i := 764) (by decide +kernel)) rfl
theorem e5_deaden : Cond.selects B5_deaden.1.cls B5_deaden.1 B5_deaden.1 ∈ lw_g := in_g (List.mem_of_getElem? (i := 20) (by decide +kernel)) rfl
def y5_silence : MethodName := ⟨"DeafWall$Stand", "silence", "(IZ)Z"⟩
def B5_silence : BB := (y5_silence, prog_7_method_6_code, 3, (some .boolean), { frames := 1, cells := 0, slots := 0, locals := 21 })
theorem m5_silence : mOK B5_silence 2 := ⟨by decide +kernel, in_g (List.mem_of_getElem? (i := 770) (by decide +kernel)) (by decide +kernel), in_g (List.mem_of_getElem? (i := 121) (by decide +kernel)) rfl, by decide +kernel⟩
theorem k5_silence : Cond.instanceMethod B5_silence.1 ∈ lw_g := in_g (List.mem_of_getElem? (i := 769) (by decide +kernel)) rfl
theorem e5_silence : Cond.selects B5_silence.1.cls B5_silence.1 B5_silence.1 ∈ lw_g := in_g (List.mem_of_getElem? (i := 21) (by decide +kernel)) rfl
def y5_stroll : MethodName := ⟨"DeafWall$Stand", "stroll", "(II)Z"⟩
def B5_stroll : BB := (y5_stroll, prog_7_method_7_code, 3, (some .boolean), { frames := 1, cells := 0, slots := 0, locals := 21 })
theorem m5_stroll : mOK B5_stroll 2 := ⟨by decide +kernel, in_g (List.mem_of_getElem? (i := 775) (by decide +kernel)) (by decide +kernel), in_g (List.mem_of_getElem? (i := 121) (by decide +kernel)) rfl, by decide +kernel⟩
theorem k5_stroll : Cond.instanceMethod B5_stroll.1 ∈ lw_g := in_g (List.mem_of_getElem? (i := 774) (by decide +kernel)) rfl
theorem e5_stroll : Cond.selects B5_stroll.1.cls B5_stroll.1 B5_stroll.1 ∈ lw_g := in_g (List.mem_of_getElem? (i := 22) (by decide +kernel)) rfl
def y5_does : MethodName := ⟨"DeafWall$Stand", "does", "(III)Z"⟩
def B5_does : BB := (y5_does, prog_7_method_4_code, 4, (some .boolean), { frames := 4, cells := 0, slots := 0, locals := 93 })
theorem m5_does : mOK B5_does 3 := ⟨by decide +kernel, in_g (List.mem_of_getElem? (i := 741) (by decide +kernel)) (by decide +kernel), in_g (List.mem_of_getElem? (i := 121) (by decide +kernel)) rfl, by decide +kernel⟩
theorem k5_does : Cond.instanceMethod B5_does.1 ∈ lw_g := in_g (List.mem_of_getElem? (i := 739) (by decide +kernel)) rfl
theorem e5_does : Cond.selects B5_does.1.cls B5_does.1 B5_does.1 ∈ lw_g := in_g (List.mem_of_getElem? (i := 740) (by decide +kernel)) rfl
def y5_live : MethodName := ⟨"DeafWall$Stand", "live", "(LDeafWall$Wall;LDeafWall$Lines;I)I"⟩
def B5_live : BB := (y5_live, prog_7_method_3_code, 5, (some .int), { frames := 5, cells := 0, slots := 0, locals := 116 })
theorem m5_live : mOK B5_live 3 := ⟨by decide +kernel, in_g (List.mem_of_getElem? (i := 731) (by decide +kernel)) (by decide +kernel), in_g (List.mem_of_getElem? (i := 121) (by decide +kernel)) rfl, by decide +kernel⟩
theorem k5_live : Cond.instanceMethod B5_live.1 ∈ lw_g := in_g (List.mem_of_getElem? (i := 729) (by decide +kernel)) rfl
theorem e5_live : Cond.selects B5_live.1.cls B5_live.1 B5_live.1 ∈ lw_g := in_g (List.mem_of_getElem? (i := 730) (by decide +kernel)) rfl
def y8_stop : MethodName := ⟨"DeafWall", "stop", "(II)I"⟩
def B8_stop : BB := (y8_stop, prog_1_method_16_code, 5, (some .int), { frames := 6, cells := 0, slots := 0, locals := 140 })
theorem m8_stop : mOK B8_stop 2 := ⟨by decide +kernel, in_g (List.mem_of_getElem? (i := 727) (by decide +kernel)) (by decide +kernel), in_g (List.mem_of_getElem? (i := 118) (by decide +kernel)) rfl, by decide +kernel⟩
theorem k8_stop : Cond.instanceMethod B8_stop.1 ∈ lw_g := in_g (List.mem_of_getElem? (i := 725) (by decide +kernel)) rfl
theorem e8_stop : Cond.selects B8_stop.1.cls B8_stop.1 B8_stop.1 ∈ lw_g := in_g (List.mem_of_getElem? (i := 726) (by decide +kernel)) rfl
def y5_couples : MethodName := ⟨"DeafWall$Stand", "couples", "()I"⟩
def B5_couples : BB := (y5_couples, prog_7_method_13_code, 3, (some .int), { frames := 1, cells := 0, slots := 0, locals := 20 })
theorem m5_couples : mOK B5_couples 0 := ⟨by decide +kernel, in_g (List.mem_of_getElem? (i := 787) (by decide +kernel)) (by decide +kernel), in_g (List.mem_of_getElem? (i := 121) (by decide +kernel)) rfl, by decide +kernel⟩
theorem k5_couples : Cond.instanceMethod B5_couples.1 ∈ lw_g := in_g (List.mem_of_getElem? (i := 786) (by decide +kernel)) rfl
theorem e5_couples : Cond.selects B5_couples.1.cls B5_couples.1 B5_couples.1 ∈ lw_g := in_g (List.mem_of_getElem? (i := 23) (by decide +kernel)) rfl
def y5_answer : MethodName := ⟨"DeafWall$Stand", "answer", "(I)I"⟩
def B5_answer : BB := (y5_answer, prog_7_method_12_code, 2, (some .int), { frames := 2, cells := 0, slots := 0, locals := 42 })
theorem m5_answer : mOK B5_answer 1 := ⟨by decide +kernel, in_g (List.mem_of_getElem? (i := 783) (by decide +kernel)) (by decide +kernel), in_g (List.mem_of_getElem? (i := 121) (by decide +kernel)) rfl, by decide +kernel⟩
theorem k5_answer : Cond.instanceMethod B5_answer.1 ∈ lw_g := in_g (List.mem_of_getElem? (i := 781) (by decide +kernel)) rfl
theorem e5_answer : Cond.selects B5_answer.1.cls B5_answer.1 B5_answer.1 ∈ lw_g := in_g (List.mem_of_getElem? (i := 782) (by decide +kernel)) rfl
def y8_state : MethodName := ⟨"DeafWall", "state", "(IIII)I"⟩
def B8_state : BB := (y8_state, prog_1_method_17_code, 7, (some .int), { frames := 6, cells := 0, slots := 0, locals := 140 })
theorem m8_state : mOK B8_state 4 := ⟨by decide +kernel, in_g (List.mem_of_getElem? (i := 779) (by decide +kernel)) (by decide +kernel), in_g (List.mem_of_getElem? (i := 118) (by decide +kernel)) rfl, by decide +kernel⟩
theorem k8_state : Cond.instanceMethod B8_state.1 ∈ lw_g := in_g (List.mem_of_getElem? (i := 777) (by decide +kernel)) rfl
theorem e8_state : Cond.selects B8_state.1.cls B8_state.1 B8_state.1 ∈ lw_g := in_g (List.mem_of_getElem? (i := 778) (by decide +kernel)) rfl
def y5_keenest : MethodName := ⟨"DeafWall$Stand", "keenest", "()I"⟩
def B5_keenest : BB := (y5_keenest, prog_7_method_11_code, 3, (some .int), { frames := 0, cells := 0, slots := 0, locals := 0 })
theorem m5_keenest : mOK B5_keenest 0 := ⟨by decide +kernel, in_g (List.mem_of_getElem? (i := 801) (by decide +kernel)) (by decide +kernel), in_g (List.mem_of_getElem? (i := 121) (by decide +kernel)) rfl, by decide +kernel⟩
theorem k5_keenest : Cond.instanceMethod B5_keenest.1 ∈ lw_g := in_g (List.mem_of_getElem? (i := 799) (by decide +kernel)) rfl
theorem e5_keenest : Cond.selects B5_keenest.1.cls B5_keenest.1 B5_keenest.1 ∈ lw_g := in_g (List.mem_of_getElem? (i := 800) (by decide +kernel)) rfl
def y8_after : MethodName := ⟨"DeafWall", "after", "(III)I"⟩
def B8_after : BB := (y8_after, prog_1_method_18_code, 6, (some .int), { frames := 6, cells := 0, slots := 0, locals := 140 })
theorem m8_after : mOK B8_after 3 := ⟨by decide +kernel, in_g (List.mem_of_getElem? (i := 797) (by decide +kernel)) (by decide +kernel), in_g (List.mem_of_getElem? (i := 118) (by decide +kernel)) rfl, by decide +kernel⟩
theorem k8_after : Cond.instanceMethod B8_after.1 ∈ lw_g := in_g (List.mem_of_getElem? (i := 795) (by decide +kernel)) rfl
theorem e8_after : Cond.selects B8_after.1.cls B8_after.1 B8_after.1 ∈ lw_g := in_g (List.mem_of_getElem? (i := 796) (by decide +kernel)) rfl
def y0_init : MethodName := ⟨"DeafWall$Draw", "<init>", "(I)V"⟩
def B0_init : BB := (y0_init, prog_2_method_1_code, 2, none, { frames := 1, cells := 0, slots := 0, locals := 20 })
theorem m0_init : mOK B0_init 1 := ⟨by decide +kernel, in_g (List.mem_of_getElem? (i := 811) (by decide +kernel)) (by decide +kernel), in_g (List.mem_of_getElem? (i := 135) (by decide +kernel)) rfl, by decide +kernel⟩
theorem k0_init : Cond.instanceMethod B0_init.1 ∈ lw_g := in_g (List.mem_of_getElem? (i := 810) (by decide +kernel)) rfl
def y0_below : MethodName := ⟨"DeafWall$Draw", "below", "(I)I"⟩
def B0_below : BB := (y0_below, prog_2_method_2_code, 2, (some .int), { frames := 0, cells := 0, slots := 0, locals := 0 })
theorem m0_below : mOK B0_below 1 := ⟨by decide +kernel, in_g (List.mem_of_getElem? (i := 824) (by decide +kernel)) (by decide +kernel), in_g (List.mem_of_getElem? (i := 135) (by decide +kernel)) rfl, by decide +kernel⟩
theorem k0_below : Cond.instanceMethod B0_below.1 ∈ lw_g := in_g (List.mem_of_getElem? (i := 822) (by decide +kernel)) rfl
theorem e0_below : Cond.selects B0_below.1.cls B0_below.1 B0_below.1 ∈ lw_g := in_g (List.mem_of_getElem? (i := 823) (by decide +kernel)) rfl
def y7_cells : MethodName := ⟨"DeafWall$Wall", "cells", "()I"⟩
def B7_cells : BB := (y7_cells, prog_9_method_2_code, 1, (some .int), { frames := 0, cells := 0, slots := 0, locals := 0 })
theorem m7_cells : mOK B7_cells 0 := ⟨by decide +kernel, in_g (List.mem_of_getElem? (i := 830) (by decide +kernel)) (by decide +kernel), in_g (List.mem_of_getElem? (i := 122) (by decide +kernel)) rfl, by decide +kernel⟩
theorem k7_cells : Cond.instanceMethod B7_cells.1 ∈ lw_g := in_g (List.mem_of_getElem? (i := 828) (by decide +kernel)) rfl
theorem e7_cells : Cond.selects B7_cells.1.cls B7_cells.1 B7_cells.1 ∈ lw_g := in_g (List.mem_of_getElem? (i := 829) (by decide +kernel)) rfl
def y8_drawDeed : MethodName := ⟨"DeafWall", "drawDeed", "(LDeafWall$Wall;LDeafWall$Draw;)V"⟩
def B8_drawDeed : BB := (y8_drawDeed, prog_1_method_20_code, 5, none, { frames := 5, cells := 0, slots := 0, locals := 116 })
theorem m8_drawDeed : mOK B8_drawDeed 2 := ⟨by decide +kernel, in_g (List.mem_of_getElem? (i := 820) (by decide +kernel)) (by decide +kernel), in_g (List.mem_of_getElem? (i := 118) (by decide +kernel)) rfl, by decide +kernel⟩
theorem k8_drawDeed : Cond.instanceMethod B8_drawDeed.1 ∈ lw_g := in_g (List.mem_of_getElem? (i := 819) (by decide +kernel)) rfl
theorem e8_drawDeed : Cond.selects B8_drawDeed.1.cls B8_drawDeed.1 B8_drawDeed.1 ∈ lw_g := in_g (List.mem_of_getElem? (i := 24) (by decide +kernel)) rfl
def y8_drawn : MethodName := ⟨"DeafWall", "drawn", "(IIII)I"⟩
def B8_drawn : BB := (y8_drawn, prog_1_method_19_code, 8, (some .int), { frames := 6, cells := 1, slots := 1, locals := 140 })
theorem m8_drawn : mOK B8_drawn 4 := ⟨by decide +kernel, in_g (List.mem_of_getElem? (i := 805) (by decide +kernel)) (by decide +kernel), in_g (List.mem_of_getElem? (i := 118) (by decide +kernel)) rfl, by decide +kernel⟩
theorem k8_drawn : Cond.instanceMethod B8_drawn.1 ∈ lw_g := in_g (List.mem_of_getElem? (i := 803) (by decide +kernel)) rfl
theorem e8_drawn : Cond.selects B8_drawn.1.cls B8_drawn.1 B8_drawn.1 ∈ lw_g := in_g (List.mem_of_getElem? (i := 804) (by decide +kernel)) rfl
def y8_isLength : MethodName := ⟨"DeafWall", "isLength", "(I)Z"⟩
def B8_isLength : BB := (y8_isLength, prog_1_method_22_code, 1, (some .boolean), { frames := 0, cells := 0, slots := 0, locals := 0 })
theorem m8_isLength : mOK B8_isLength 1 := ⟨by decide +kernel, in_g (List.mem_of_getElem? (i := 840) (by decide +kernel)) (by decide +kernel), in_g (List.mem_of_getElem? (i := 118) (by decide +kernel)) rfl, by decide +kernel⟩
theorem k8_isLength : Cond.static B8_isLength.1 ∈ lw_g := in_g (List.mem_of_getElem? (i := 839) (by decide +kernel)) rfl
def y8_isTune : MethodName := ⟨"DeafWall", "isTune", "(II)Z"⟩
def B8_isTune : BB := (y8_isTune, prog_1_method_23_code, 2, (some .boolean), { frames := 1, cells := 0, slots := 0, locals := 20 })
theorem m8_isTune : mOK B8_isTune 2 := ⟨by decide +kernel, in_g (List.mem_of_getElem? (i := 837) (by decide +kernel)) (by decide +kernel), in_g (List.mem_of_getElem? (i := 118) (by decide +kernel)) rfl, by decide +kernel⟩
theorem k8_isTune : Cond.static B8_isTune.1 ∈ lw_g := in_g (List.mem_of_getElem? (i := 836) (by decide +kernel)) rfl
def y1_soundWith : MethodName := ⟨"DeafWall$Echo", "soundWith", "(LDeafWall$Wall;II)V"⟩
def B1_soundWith : BB := (y1_soundWith, prog_3_method_3_code, 5, none, { frames := 2, cells := 0, slots := 0, locals := 48 })
theorem m1_soundWith : mOK B1_soundWith 3 := ⟨by decide +kernel, in_g (List.mem_of_getElem? (i := 852) (by decide +kernel)) (by decide +kernel), in_g (List.mem_of_getElem? (i := 124) (by decide +kernel)) rfl, by decide +kernel⟩
theorem k1_soundWith : Cond.instanceMethod B1_soundWith.1 ∈ lw_g := in_g (List.mem_of_getElem? (i := 850) (by decide +kernel)) rfl
theorem e1_soundWith : Cond.selects B1_soundWith.1.cls B1_soundWith.1 B1_soundWith.1 ∈ lw_g := in_g (List.mem_of_getElem? (i := 851) (by decide +kernel)) rfl
def y1_sound : MethodName := ⟨"DeafWall$Echo", "sound", "(LDeafWall$Wall;)V"⟩
def B1_sound : BB := (y1_sound, prog_3_method_2_code, 2, none, { frames := 3, cells := 0, slots := 0, locals := 72 })
theorem m1_sound : mOK B1_sound 1 := ⟨by decide +kernel, in_g (List.mem_of_getElem? (i := 848) (by decide +kernel)) (by decide +kernel), in_g (List.mem_of_getElem? (i := 124) (by decide +kernel)) rfl, by decide +kernel⟩
theorem k1_sound : Cond.instanceMethod B1_sound.1 ∈ lw_g := in_g (List.mem_of_getElem? (i := 846) (by decide +kernel)) rfl
theorem e1_sound : Cond.selects B1_sound.1.cls B1_sound.1 B1_sound.1 ∈ lw_g := in_g (List.mem_of_getElem? (i := 847) (by decide +kernel)) rfl
def y1_beatsFelt : MethodName := ⟨"DeafWall$Echo", "beatsFelt", "(III)I"⟩
def B1_beatsFelt : BB := (y1_beatsFelt, prog_3_method_4_code, 6, (some .int), { frames := 0, cells := 0, slots := 0, locals := 0 })
theorem m1_beatsFelt : mOK B1_beatsFelt 3 := ⟨by decide +kernel, in_g (List.mem_of_getElem? (i := 864) (by decide +kernel)) (by decide +kernel), in_g (List.mem_of_getElem? (i := 124) (by decide +kernel)) rfl, by decide +kernel⟩
theorem k1_beatsFelt : Cond.instanceMethod B1_beatsFelt.1 ∈ lw_g := in_g (List.mem_of_getElem? (i := 862) (by decide +kernel)) rfl
theorem e1_beatsFelt : Cond.selects B1_beatsFelt.1.cls B1_beatsFelt.1 B1_beatsFelt.1 ∈ lw_g := in_g (List.mem_of_getElem? (i := 863) (by decide +kernel)) rfl
def y8_hear : MethodName := ⟨"DeafWall", "hear", "(LDeafWall$Wall;)V"⟩
def B8_hear : BB := (y8_hear, prog_1_method_25_code, 3, none, { frames := 1, cells := 0, slots := 0, locals := 25 })
theorem m8_hear : mOK B8_hear 1 := ⟨by decide +kernel, in_g (List.mem_of_getElem? (i := 860) (by decide +kernel)) (by decide +kernel), in_g (List.mem_of_getElem? (i := 118) (by decide +kernel)) rfl, by decide +kernel⟩
theorem k8_hear : Cond.instanceMethod B8_hear.1 ∈ lw_g := in_g (List.mem_of_getElem? (i := 859) (by decide +kernel)) rfl
theorem e8_hear : Cond.selects B8_hear.1.cls B8_hear.1 B8_hear.1 ∈ lw_g := in_g (List.mem_of_getElem? (i := 26) (by decide +kernel)) rfl
def y8_listen : MethodName := ⟨"DeafWall", "listen", "(LDeafWall$Wall;)V"⟩
def B8_listen : BB := (y8_listen, prog_1_method_24_code, 2, none, { frames := 4, cells := 0, slots := 0, locals := 93 })
theorem m8_listen : mOK B8_listen 1 := ⟨by decide +kernel, in_g (List.mem_of_getElem? (i := 844) (by decide +kernel)) (by decide +kernel), in_g (List.mem_of_getElem? (i := 118) (by decide +kernel)) rfl, by decide +kernel⟩
theorem k8_listen : Cond.instanceMethod B8_listen.1 ∈ lw_g := in_g (List.mem_of_getElem? (i := 843) (by decide +kernel)) rfl
theorem e8_listen : Cond.selects B8_listen.1.cls B8_listen.1 B8_listen.1 ∈ lw_g := in_g (List.mem_of_getElem? (i := 25) (by decide +kernel)) rfl
def y8_feltBy : MethodName := ⟨"DeafWall", "feltBy", "(II)I"⟩
def B8_feltBy : BB := (y8_feltBy, prog_1_method_26_code, 4, (some .int), { frames := 0, cells := 0, slots := 0, locals := 0 })
theorem m8_feltBy : mOK B8_feltBy 2 := ⟨by decide +kernel, in_g (List.mem_of_getElem? (i := 871) (by decide +kernel)) (by decide +kernel), in_g (List.mem_of_getElem? (i := 118) (by decide +kernel)) rfl, by decide +kernel⟩
theorem k8_feltBy : Cond.static B8_feltBy.1 ∈ lw_g := in_g (List.mem_of_getElem? (i := 870) (by decide +kernel)) rfl
def y8_feelersAt : MethodName := ⟨"DeafWall", "feelersAt", "(LDeafWall$Wall;II)I"⟩
def B8_feelersAt : BB := (y8_feelersAt, prog_1_method_27_code, 6, (some .int), { frames := 1, cells := 0, slots := 0, locals := 23 })
theorem m8_feelersAt : mOK B8_feelersAt 3 := ⟨by decide +kernel, in_g (List.mem_of_getElem? (i := 868) (by decide +kernel)) (by decide +kernel), in_g (List.mem_of_getElem? (i := 118) (by decide +kernel)) rfl, by decide +kernel⟩
theorem k8_feelersAt : Cond.instanceMethod B8_feelersAt.1 ∈ lw_g := in_g (List.mem_of_getElem? (i := 867) (by decide +kernel)) rfl
theorem e8_feelersAt : Cond.selects B8_feelersAt.1.cls B8_feelersAt.1 B8_feelersAt.1 ∈ lw_g := in_g (List.mem_of_getElem? (i := 27) (by decide +kernel)) rfl
def y1_forceBy : MethodName := ⟨"DeafWall$Echo", "forceBy", "(III)I"⟩
def B1_forceBy : BB := (y1_forceBy, prog_3_method_6_code, 6, (some .int), { frames := 1, cells := 0, slots := 0, locals := 21 })
theorem m1_forceBy : mOK B1_forceBy 3 := ⟨by decide +kernel, in_g (List.mem_of_getElem? (i := 881) (by decide +kernel)) (by decide +kernel), in_g (List.mem_of_getElem? (i := 124) (by decide +kernel)) rfl, by decide +kernel⟩
theorem k1_forceBy : Cond.instanceMethod B1_forceBy.1 ∈ lw_g := in_g (List.mem_of_getElem? (i := 880) (by decide +kernel)) rfl
theorem e1_forceBy : Cond.selects B1_forceBy.1.cls B1_forceBy.1 B1_forceBy.1 ∈ lw_g := in_g (List.mem_of_getElem? (i := 28) (by decide +kernel)) rfl
def y1_allForce : MethodName := ⟨"DeafWall$Echo", "allForce", "(LDeafWall$Wall;I)I"⟩
def B1_allForce : BB := (y1_allForce, prog_3_method_5_code, 6, (some .int), { frames := 2, cells := 0, slots := 0, locals := 46 })
theorem m1_allForce : mOK B1_allForce 2 := ⟨by decide +kernel, in_g (List.mem_of_getElem? (i := 876) (by decide +kernel)) (by decide +kernel), in_g (List.mem_of_getElem? (i := 124) (by decide +kernel)) rfl, by decide +kernel⟩
theorem k1_allForce : Cond.instanceMethod B1_allForce.1 ∈ lw_g := in_g (List.mem_of_getElem? (i := 874) (by decide +kernel)) rfl
theorem e1_allForce : Cond.selects B1_allForce.1.cls B1_allForce.1 B1_allForce.1 ∈ lw_g := in_g (List.mem_of_getElem? (i := 875) (by decide +kernel)) rfl
def y8_isTold : MethodName := ⟨"DeafWall", "isTold", "(III)Z"⟩
def B8_isTold : BB := (y8_isTold, prog_1_method_29_code, 5, (some .boolean), { frames := 0, cells := 0, slots := 0, locals := 0 })
theorem m8_isTold : mOK B8_isTold 3 := ⟨by decide +kernel, in_g (List.mem_of_getElem? (i := 888) (by decide +kernel)) (by decide +kernel), in_g (List.mem_of_getElem? (i := 118) (by decide +kernel)) rfl, by decide +kernel⟩
theorem k8_isTold : Cond.static B8_isTold.1 ∈ lw_g := in_g (List.mem_of_getElem? (i := 887) (by decide +kernel)) rfl
def y8_talesTold : MethodName := ⟨"DeafWall", "talesTold", "(LDeafWall$Wall;I)I"⟩
def B8_talesTold : BB := (y8_talesTold, prog_1_method_28_code, 4, (some .int), { frames := 1, cells := 0, slots := 0, locals := 24 })
theorem m8_talesTold : mOK B8_talesTold 2 := ⟨by decide +kernel, in_g (List.mem_of_getElem? (i := 885) (by decide +kernel)) (by decide +kernel), in_g (List.mem_of_getElem? (i := 118) (by decide +kernel)) rfl, by decide +kernel⟩
theorem k8_talesTold : Cond.static B8_talesTold.1 ∈ lw_g := in_g (List.mem_of_getElem? (i := 884) (by decide +kernel)) rfl
def y8_tune : MethodName := ⟨"DeafWall", "tune", "(IIII)I"⟩
def B8_tune : BB := (y8_tune, prog_1_method_21_code, 6, (some .int), { frames := 5, cells := 0, slots := 0, locals := 114 })
theorem m8_tune : mOK B8_tune 4 := ⟨by decide +kernel, in_g (List.mem_of_getElem? (i := 834) (by decide +kernel)) (by decide +kernel), in_g (List.mem_of_getElem? (i := 118) (by decide +kernel)) rfl, by decide +kernel⟩
theorem k8_tune : Cond.instanceMethod B8_tune.1 ∈ lw_g := in_g (List.mem_of_getElem? (i := 832) (by decide +kernel)) rfl
theorem e8_tune : Cond.selects B8_tune.1.cls B8_tune.1 B8_tune.1 ∈ lw_g := in_g (List.mem_of_getElem? (i := 833) (by decide +kernel)) rfl
def y8_play : MethodName := ⟨"DeafWall", "play", "(IIIZ)I"⟩
def B8_play : BB := (y8_play, prog_1_method_30_code, 8, (some .int), { frames := 5, cells := 0, slots := 0, locals := 114 })
theorem m8_play : mOK B8_play 4 := ⟨by decide +kernel, in_g (List.mem_of_getElem? (i := 892) (by decide +kernel)) (by decide +kernel), in_g (List.mem_of_getElem? (i := 118) (by decide +kernel)) rfl, by decide +kernel⟩
theorem k8_play : Cond.instanceMethod B8_play.1 ∈ lw_g := in_g (List.mem_of_getElem? (i := 890) (by decide +kernel)) rfl
theorem e8_play : Cond.selects B8_play.1.cls B8_play.1 B8_play.1 ∈ lw_g := in_g (List.mem_of_getElem? (i := 891) (by decide +kernel)) rfl
def y8_couplesTold : MethodName := ⟨"DeafWall", "couplesTold", "(LDeafWall$Wall;I)I"⟩
def B8_couplesTold : BB := (y8_couplesTold, prog_1_method_34_code, 5, (some .int), { frames := 2, cells := 0, slots := 0, locals := 47 })
theorem m8_couplesTold : mOK B8_couplesTold 2 := ⟨by decide +kernel, in_g (List.mem_of_getElem? (i := 904) (by decide +kernel)) (by decide +kernel), in_g (List.mem_of_getElem? (i := 118) (by decide +kernel)) rfl, by decide +kernel⟩
theorem k8_couplesTold : Cond.instanceMethod B8_couplesTold.1 ∈ lw_g := in_g (List.mem_of_getElem? (i := 903) (by decide +kernel)) rfl
theorem e8_couplesTold : Cond.selects B8_couplesTold.1.cls B8_couplesTold.1 B8_couplesTold.1 ∈ lw_g := in_g (List.mem_of_getElem? (i := 30) (by decide +kernel)) rfl
def y8_beatsFeltByAll : MethodName := ⟨"DeafWall", "beatsFeltByAll", "(LDeafWall$Wall;I)I"⟩
def B8_beatsFeltByAll : BB := (y8_beatsFeltByAll, prog_1_method_35_code, 5, (some .int), { frames := 1, cells := 0, slots := 0, locals := 23 })
theorem m8_beatsFeltByAll : mOK B8_beatsFeltByAll 2 := ⟨by decide +kernel, in_g (List.mem_of_getElem? (i := 909) (by decide +kernel)) (by decide +kernel), in_g (List.mem_of_getElem? (i := 118) (by decide +kernel)) rfl, by decide +kernel⟩
theorem k8_beatsFeltByAll : Cond.instanceMethod B8_beatsFeltByAll.1 ∈ lw_g := in_g (List.mem_of_getElem? (i := 908) (by decide +kernel)) rfl
theorem e8_beatsFeltByAll : Cond.selects B8_beatsFeltByAll.1.cls B8_beatsFeltByAll.1 B8_beatsFeltByAll.1 ∈ lw_g := in_g (List.mem_of_getElem? (i := 31) (by decide +kernel)) rfl
def y8_best : MethodName := ⟨"DeafWall", "best", "(LDeafWall$Wall;IZZ)I"⟩
def B8_best : BB := (y8_best, prog_1_method_33_code, 9, (some .int), { frames := 5, cells := 0, slots := 0, locals := 114 })
theorem m8_best : mOK B8_best 4 := ⟨by decide +kernel, in_g (List.mem_of_getElem? (i := 900) (by decide +kernel)) (by decide +kernel), in_g (List.mem_of_getElem? (i := 118) (by decide +kernel)) rfl, by decide +kernel⟩
theorem k8_best : Cond.instanceMethod B8_best.1 ∈ lw_g := in_g (List.mem_of_getElem? (i := 899) (by decide +kernel)) rfl
theorem e8_best : Cond.selects B8_best.1.cls B8_best.1 B8_best.1 ∈ lw_g := in_g (List.mem_of_getElem? (i := 29) (by decide +kernel)) rfl
def y8_most : MethodName := ⟨"DeafWall", "most", "(IIZ)I"⟩
def B8_most : BB := (y8_most, prog_1_method_31_code, 5, (some .int), { frames := 6, cells := 0, slots := 0, locals := 142 })
theorem m8_most : mOK B8_most 3 := ⟨by decide +kernel, in_g (List.mem_of_getElem? (i := 896) (by decide +kernel)) (by decide +kernel), in_g (List.mem_of_getElem? (i := 118) (by decide +kernel)) rfl, by decide +kernel⟩
theorem k8_most : Cond.instanceMethod B8_most.1 ∈ lw_g := in_g (List.mem_of_getElem? (i := 894) (by decide +kernel)) rfl
theorem e8_most : Cond.selects B8_most.1.cls B8_most.1 B8_most.1 ∈ lw_g := in_g (List.mem_of_getElem? (i := 895) (by decide +kernel)) rfl
def y8_loud : MethodName := ⟨"DeafWall", "loud", "(IIZ)I"⟩
def B8_loud : BB := (y8_loud, prog_1_method_32_code, 5, (some .int), { frames := 6, cells := 0, slots := 0, locals := 142 })
theorem m8_loud : mOK B8_loud 3 := ⟨by decide +kernel, in_g (List.mem_of_getElem? (i := 913) (by decide +kernel)) (by decide +kernel), in_g (List.mem_of_getElem? (i := 118) (by decide +kernel)) rfl, by decide +kernel⟩
theorem k8_loud : Cond.instanceMethod B8_loud.1 ∈ lw_g := in_g (List.mem_of_getElem? (i := 911) (by decide +kernel)) rfl
theorem e8_loud : Cond.selects B8_loud.1.cls B8_loud.1 B8_loud.1 ∈ lw_g := in_g (List.mem_of_getElem? (i := 912) (by decide +kernel)) rfl
def y8_areTwo : MethodName := ⟨"DeafWall", "areTwo", "(LDeafWall$Wall;II)Z"⟩
def B8_areTwo : BB := (y8_areTwo, prog_1_method_37_code, 3, (some .boolean), { frames := 1, cells := 0, slots := 0, locals := 21 })
theorem m8_areTwo : mOK B8_areTwo 3 := ⟨by decide +kernel, in_g (List.mem_of_getElem? (i := 920) (by decide +kernel)) (by decide +kernel), in_g (List.mem_of_getElem? (i := 118) (by decide +kernel)) rfl, by decide +kernel⟩
theorem k8_areTwo : Cond.static B8_areTwo.1 ∈ lw_g := in_g (List.mem_of_getElem? (i := 919) (by decide +kernel)) rfl
def y8_apart : MethodName := ⟨"DeafWall", "apart", "(IIII)I"⟩
def B8_apart : BB := (y8_apart, prog_1_method_36_code, 8, (some .int), { frames := 5, cells := 0, slots := 0, locals := 114 })
theorem m8_apart : mOK B8_apart 4 := ⟨by decide +kernel, in_g (List.mem_of_getElem? (i := 917) (by decide +kernel)) (by decide +kernel), in_g (List.mem_of_getElem? (i := 118) (by decide +kernel)) rfl, by decide +kernel⟩
theorem k8_apart : Cond.instanceMethod B8_apart.1 ∈ lw_g := in_g (List.mem_of_getElem? (i := 915) (by decide +kernel)) rfl
theorem e8_apart : Cond.selects B8_apart.1.cls B8_apart.1 B8_apart.1 ∈ lw_g := in_g (List.mem_of_getElem? (i := 916) (by decide +kernel)) rfl
def y8_leastPush : MethodName := ⟨"DeafWall", "leastPush", "(LDeafWall$Wall;I)I"⟩
def B8_leastPush : BB := (y8_leastPush, prog_1_method_39_code, 4, (some .int), { frames := 1, cells := 0, slots := 0, locals := 25 })
theorem m8_leastPush : mOK B8_leastPush 2 := ⟨by decide +kernel, in_g (List.mem_of_getElem? (i := 928) (by decide +kernel)) (by decide +kernel), in_g (List.mem_of_getElem? (i := 118) (by decide +kernel)) rfl, by decide +kernel⟩
theorem k8_leastPush : Cond.instanceMethod B8_leastPush.1 ∈ lw_g := in_g (List.mem_of_getElem? (i := 927) (by decide +kernel)) rfl
theorem e8_leastPush : Cond.selects B8_leastPush.1.cls B8_leastPush.1 B8_leastPush.1 ∈ lw_g := in_g (List.mem_of_getElem? (i := 32) (by decide +kernel)) rfl
def y8_reach : MethodName := ⟨"DeafWall", "reach", "(IIZ)I"⟩
def B8_reach : BB := (y8_reach, prog_1_method_38_code, 6, (some .int), { frames := 4, cells := 0, slots := 0, locals := 93 })
theorem m8_reach : mOK B8_reach 3 := ⟨by decide +kernel, in_g (List.mem_of_getElem? (i := 924) (by decide +kernel)) (by decide +kernel), in_g (List.mem_of_getElem? (i := 118) (by decide +kernel)) rfl, by decide +kernel⟩
theorem k8_reach : Cond.instanceMethod B8_reach.1 ∈ lw_g := in_g (List.mem_of_getElem? (i := 922) (by decide +kernel)) rfl
theorem e8_reach : Cond.selects B8_reach.1.cls B8_reach.1 B8_reach.1 ∈ lw_g := in_g (List.mem_of_getElem? (i := 923) (by decide +kernel)) rfl
def y8_keys : MethodName := ⟨"DeafWall", "keys", "(IIZ)I"⟩
def B8_keys : BB := (y8_keys, prog_1_method_40_code, 7, (some .int), { frames := 4, cells := 0, slots := 0, locals := 93 })
theorem m8_keys : mOK B8_keys 3 := ⟨by decide +kernel, in_g (List.mem_of_getElem? (i := 936) (by decide +kernel)) (by decide +kernel), in_g (List.mem_of_getElem? (i := 118) (by decide +kernel)) rfl, by decide +kernel⟩
theorem k8_keys : Cond.instanceMethod B8_keys.1 ∈ lw_g := in_g (List.mem_of_getElem? (i := 934) (by decide +kernel)) rfl
theorem e8_keys : Cond.selects B8_keys.1.cls B8_keys.1 B8_keys.1 ∈ lw_g := in_g (List.mem_of_getElem? (i := 935) (by decide +kernel)) rfl
def y3_leastBeside : MethodName := ⟨"DeafWall$Paths", "leastBeside", "(LDeafWall$Wall;[III)I"⟩
def B3_leastBeside : BB := (y3_leastBeside, prog_5_method_5_code, 6, (some .int), { frames := 1, cells := 0, slots := 0, locals := 21 })
theorem m3_leastBeside : mOK B3_leastBeside 4 := ⟨by decide +kernel, in_g (List.mem_of_getElem? (i := 953) (by decide +kernel)) (by decide +kernel), in_g (List.mem_of_getElem? (i := 125) (by decide +kernel)) rfl, by decide +kernel⟩
theorem k3_leastBeside : Cond.static B3_leastBeside.1 ∈ lw_g := in_g (List.mem_of_getElem? (i := 952) (by decide +kernel)) rfl
def y3_shorten : MethodName := ⟨"DeafWall$Paths", "shorten", "(LDeafWall$Wall;[I[IZ)Z"⟩
def B3_shorten : BB := (y3_shorten, prog_5_method_4_code, 9, (some .boolean), { frames := 2, cells := 0, slots := 0, locals := 46 })
theorem m3_shorten : mOK B3_shorten 4 := ⟨by decide +kernel, in_g (List.mem_of_getElem? (i := 950) (by decide +kernel)) (by decide +kernel), in_g (List.mem_of_getElem? (i := 125) (by decide +kernel)) rfl, by decide +kernel⟩
theorem k3_shorten : Cond.static B3_shorten.1 ∈ lw_g := in_g (List.mem_of_getElem? (i := 949) (by decide +kernel)) rfl
def y3_lay : MethodName := ⟨"DeafWall$Paths", "lay", "(LDeafWall$Wall;II)V"⟩
def B3_lay : BB := (y3_lay, prog_5_method_2_code, 7, none, { frames := 3, cells := 0, slots := 0, locals := 74 })
theorem m3_lay : mOK B3_lay 3 := ⟨by decide +kernel, in_g (List.mem_of_getElem? (i := 945) (by decide +kernel)) (by decide +kernel), in_g (List.mem_of_getElem? (i := 125) (by decide +kernel)) rfl, by decide +kernel⟩
theorem k3_lay : Cond.instanceMethod B3_lay.1 ∈ lw_g := in_g (List.mem_of_getElem? (i := 943) (by decide +kernel)) rfl
theorem e3_lay : Cond.selects B3_lay.1.cls B3_lay.1 B3_lay.1 ∈ lw_g := in_g (List.mem_of_getElem? (i := 944) (by decide +kernel)) rfl
def y3_lossTo : MethodName := ⟨"DeafWall$Paths", "lossTo", "(II)I"⟩
def B3_lossTo : BB := (y3_lossTo, prog_5_method_3_code, 3, (some .int), { frames := 0, cells := 0, slots := 0, locals := 0 })
theorem m3_lossTo : mOK B3_lossTo 2 := ⟨by decide +kernel, in_g (List.mem_of_getElem? (i := 958) (by decide +kernel)) (by decide +kernel), in_g (List.mem_of_getElem? (i := 125) (by decide +kernel)) rfl, by decide +kernel⟩
theorem k3_lossTo : Cond.instanceMethod B3_lossTo.1 ∈ lw_g := in_g (List.mem_of_getElem? (i := 956) (by decide +kernel)) rfl
theorem e3_lossTo : Cond.selects B3_lossTo.1.cls B3_lossTo.1 B3_lossTo.1 ∈ lw_g := in_g (List.mem_of_getElem? (i := 957) (by decide +kernel)) rfl
def y8_dried : MethodName := ⟨"DeafWall", "dried", "(III)I"⟩
def B8_dried : BB := (y8_dried, prog_1_method_41_code, 6, (some .int), { frames := 4, cells := 0, slots := 0, locals := 100 })
theorem m8_dried : mOK B8_dried 3 := ⟨by decide +kernel, in_g (List.mem_of_getElem? (i := 941) (by decide +kernel)) (by decide +kernel), in_g (List.mem_of_getElem? (i := 118) (by decide +kernel)) rfl, by decide +kernel⟩
theorem k8_dried : Cond.instanceMethod B8_dried.1 ∈ lw_g := in_g (List.mem_of_getElem? (i := 939) (by decide +kernel)) rfl
theorem e8_dried : Cond.selects B8_dried.1.cls B8_dried.1 B8_dried.1 ∈ lw_g := in_g (List.mem_of_getElem? (i := 940) (by decide +kernel)) rfl
def y8_longestRow : MethodName := ⟨"DeafWall", "longestRow", "(I)I"⟩
def B8_longestRow : BB := (y8_longestRow, prog_1_method_43_code, 4, (some .int), { frames := 1, cells := 0, slots := 0, locals := 21 })
theorem m8_longestRow : mOK B8_longestRow 1 := ⟨by decide +kernel, in_g (List.mem_of_getElem? (i := 965) (by decide +kernel)) (by decide +kernel), in_g (List.mem_of_getElem? (i := 118) (by decide +kernel)) rfl, by decide +kernel⟩
theorem k8_longestRow : Cond.static B8_longestRow.1 ∈ lw_g := in_g (List.mem_of_getElem? (i := 964) (by decide +kernel)) rfl
def y8_hold : MethodName := ⟨"DeafWall", "hold", "(IIII)I"⟩
def B8_hold : BB := (y8_hold, prog_1_method_42_code, 9, (some .int), { frames := 4, cells := 0, slots := 0, locals := 93 })
theorem m8_hold : mOK B8_hold 4 := ⟨by decide +kernel, in_g (List.mem_of_getElem? (i := 962) (by decide +kernel)) (by decide +kernel), in_g (List.mem_of_getElem? (i := 118) (by decide +kernel)) rfl, by decide +kernel⟩
theorem k8_hold : Cond.instanceMethod B8_hold.1 ∈ lw_g := in_g (List.mem_of_getElem? (i := 960) (by decide +kernel)) rfl
theorem e8_hold : Cond.selects B8_hold.1.cls B8_hold.1 B8_hold.1 ∈ lw_g := in_g (List.mem_of_getElem? (i := 961) (by decide +kernel)) rfl
def y8_hearDuet : MethodName := ⟨"DeafWall", "hearDuet", "(LDeafWall$Wall;II)V"⟩
def B8_hearDuet : BB := (y8_hearDuet, prog_1_method_45_code, 5, none, { frames := 4, cells := 0, slots := 0, locals := 93 })
theorem m8_hearDuet : mOK B8_hearDuet 3 := ⟨by decide +kernel, in_g (List.mem_of_getElem? (i := 973) (by decide +kernel)) (by decide +kernel), in_g (List.mem_of_getElem? (i := 118) (by decide +kernel)) rfl, by decide +kernel⟩
theorem k8_hearDuet : Cond.instanceMethod B8_hearDuet.1 ∈ lw_g := in_g (List.mem_of_getElem? (i := 972) (by decide +kernel)) rfl
theorem e8_hearDuet : Cond.selects B8_hearDuet.1.cls B8_hearDuet.1 B8_hearDuet.1 ∈ lw_g := in_g (List.mem_of_getElem? (i := 33) (by decide +kernel)) rfl
def y8_gain : MethodName := ⟨"DeafWall", "gain", "(II)I"⟩
def B8_gain : BB := (y8_gain, prog_1_method_46_code, 7, (some .int), { frames := 1, cells := 0, slots := 0, locals := 20 })
theorem m8_gain : mOK B8_gain 2 := ⟨by decide +kernel, in_g (List.mem_of_getElem? (i := 977) (by decide +kernel)) (by decide +kernel), in_g (List.mem_of_getElem? (i := 118) (by decide +kernel)) rfl, by decide +kernel⟩
theorem k8_gain : Cond.instanceMethod B8_gain.1 ∈ lw_g := in_g (List.mem_of_getElem? (i := 976) (by decide +kernel)) rfl
theorem e8_gain : Cond.selects B8_gain.1.cls B8_gain.1 B8_gain.1 ∈ lw_g := in_g (List.mem_of_getElem? (i := 34) (by decide +kernel)) rfl
def y8_bestOfFour : MethodName := ⟨"DeafWall", "bestOfFour", "(IZ)I"⟩
def B8_bestOfFour : BB := (y8_bestOfFour, prog_1_method_47_code, 5, (some .int), { frames := 0, cells := 0, slots := 0, locals := 0 })
theorem m8_bestOfFour : mOK B8_bestOfFour 2 := ⟨by decide +kernel, in_g (List.mem_of_getElem? (i := 981) (by decide +kernel)) (by decide +kernel), in_g (List.mem_of_getElem? (i := 118) (by decide +kernel)) rfl, by decide +kernel⟩
theorem k8_bestOfFour : Cond.instanceMethod B8_bestOfFour.1 ∈ lw_g := in_g (List.mem_of_getElem? (i := 980) (by decide +kernel)) rfl
theorem e8_bestOfFour : Cond.selects B8_bestOfFour.1.cls B8_bestOfFour.1 B8_bestOfFour.1 ∈ lw_g := in_g (List.mem_of_getElem? (i := 35) (by decide +kernel)) rfl
def y8_duet : MethodName := ⟨"DeafWall", "duet", "(IIIIZ)I"⟩
def B8_duet : BB := (y8_duet, prog_1_method_44_code, 9, (some .int), { frames := 5, cells := 0, slots := 0, locals := 117 })
theorem m8_duet : mOK B8_duet 5 := ⟨by decide +kernel, in_g (List.mem_of_getElem? (i := 969) (by decide +kernel)) (by decide +kernel), in_g (List.mem_of_getElem? (i := 118) (by decide +kernel)) rfl, by decide +kernel⟩
theorem k8_duet : Cond.instanceMethod B8_duet.1 ∈ lw_g := in_g (List.mem_of_getElem? (i := 967) (by decide +kernel)) rfl
theorem e8_duet : Cond.selects B8_duet.1.cls B8_duet.1 B8_duet.1 ∈ lw_g := in_g (List.mem_of_getElem? (i := 968) (by decide +kernel)) rfl
def y8_weaken : MethodName := ⟨"DeafWall", "weaken", "(II)V"⟩
def B8_weaken : BB := (y8_weaken, prog_1_method_49_code, 5, none, { frames := 1, cells := 0, slots := 0, locals := 24 })
theorem m8_weaken : mOK B8_weaken 2 := ⟨by decide +kernel, in_g (List.mem_of_getElem? (i := 990) (by decide +kernel)) (by decide +kernel), in_g (List.mem_of_getElem? (i := 118) (by decide +kernel)) rfl, by decide +kernel⟩
theorem k8_weaken : Cond.instanceMethod B8_weaken.1 ∈ lw_g := in_g (List.mem_of_getElem? (i := 989) (by decide +kernel)) rfl
theorem e8_weaken : Cond.selects B8_weaken.1.cls B8_weaken.1 B8_weaken.1 ∈ lw_g := in_g (List.mem_of_getElem? (i := 36) (by decide +kernel)) rfl
def y8_greatestDivisor : MethodName := ⟨"DeafWall", "greatestDivisor", "(JJ)J"⟩
def B8_greatestDivisor : BB := (y8_greatestDivisor, prog_1_method_51_code, 11, (some .long), { frames := 0, cells := 0, slots := 0, locals := 0 })
theorem m8_greatestDivisor : mOK B8_greatestDivisor 2 := ⟨by decide +kernel, in_g (List.mem_of_getElem? (i := 1000) (by decide +kernel)) (by decide +kernel), in_g (List.mem_of_getElem? (i := 118) (by decide +kernel)) rfl, by decide +kernel⟩
theorem k8_greatestDivisor : Cond.static B8_greatestDivisor.1 ∈ lw_g := in_g (List.mem_of_getElem? (i := 999) (by decide +kernel)) rfl
def y8_leastTerm : MethodName := ⟨"DeafWall", "leastTerm", "(JJZ)J"⟩
def B8_leastTerm : BB := (y8_leastTerm, prog_1_method_50_code, 7, (some .long), { frames := 1, cells := 0, slots := 0, locals := 30 })
theorem m8_leastTerm : mOK B8_leastTerm 3 := ⟨by decide +kernel, in_g (List.mem_of_getElem? (i := 997) (by decide +kernel)) (by decide +kernel), in_g (List.mem_of_getElem? (i := 118) (by decide +kernel)) rfl, by decide +kernel⟩
theorem k8_leastTerm : Cond.static B8_leastTerm.1 ∈ lw_g := in_g (List.mem_of_getElem? (i := 996) (by decide +kernel)) rfl
def y8_arm : MethodName := ⟨"DeafWall", "arm", "(IIIIZ)J"⟩
def B8_arm : BB := (y8_arm, prog_1_method_48_code, 13, (some .long), { frames := 4, cells := 0, slots := 0, locals := 93 })
theorem m8_arm : mOK B8_arm 5 := ⟨by decide +kernel, in_g (List.mem_of_getElem? (i := 985) (by decide +kernel)) (by decide +kernel), in_g (List.mem_of_getElem? (i := 118) (by decide +kernel)) rfl, by decide +kernel⟩
theorem k8_arm : Cond.instanceMethod B8_arm.1 ∈ lw_g := in_g (List.mem_of_getElem? (i := 983) (by decide +kernel)) rfl
theorem e8_arm : Cond.selects B8_arm.1.cls B8_arm.1 B8_arm.1 ∈ lw_g := in_g (List.mem_of_getElem? (i := 984) (by decide +kernel)) rfl
def y8_tail : MethodName := ⟨"DeafWall", "tail", "(LDeafWall$Wall;I)I"⟩
def B8_tail : BB := (y8_tail, prog_1_method_53_code, 2, (some .int), { frames := 0, cells := 0, slots := 0, locals := 0 })
theorem m8_tail : mOK B8_tail 2 := ⟨by decide +kernel, in_g (List.mem_of_getElem? (i := 1009) (by decide +kernel)) (by decide +kernel), in_g (List.mem_of_getElem? (i := 118) (by decide +kernel)) rfl, by decide +kernel⟩
theorem k8_tail : Cond.static B8_tail.1 ∈ lw_g := in_g (List.mem_of_getElem? (i := 1008) (by decide +kernel)) rfl
def y8_lengthOf : MethodName := ⟨"DeafWall", "lengthOf", "(I)I"⟩
def B8_lengthOf : BB := (y8_lengthOf, prog_1_method_54_code, 1, (some .int), { frames := 1, cells := 0, slots := 0, locals := 21 })
theorem m8_lengthOf : mOK B8_lengthOf 1 := ⟨by decide +kernel, in_g (List.mem_of_getElem? (i := 1016) (by decide +kernel)) (by decide +kernel), in_g (List.mem_of_getElem? (i := 118) (by decide +kernel)) rfl, by decide +kernel⟩
theorem k8_lengthOf : Cond.static B8_lengthOf.1 ∈ lw_g := in_g (List.mem_of_getElem? (i := 1015) (by decide +kernel)) rfl
def y8_overhang : MethodName := ⟨"DeafWall", "overhang", "(II)I"⟩
def B8_overhang : BB := (y8_overhang, prog_1_method_55_code, 6, (some .int), { frames := 2, cells := 0, slots := 0, locals := 41 })
theorem m8_overhang : mOK B8_overhang 2 := ⟨by decide +kernel, in_g (List.mem_of_getElem? (i := 1012) (by decide +kernel)) (by decide +kernel), in_g (List.mem_of_getElem? (i := 118) (by decide +kernel)) rfl, by decide +kernel⟩
theorem k8_overhang : Cond.static B8_overhang.1 ∈ lw_g := in_g (List.mem_of_getElem? (i := 1011) (by decide +kernel)) rfl
def y8_lay : MethodName := ⟨"DeafWall", "lay", "(II)Z"⟩
def B8_lay : BB := (y8_lay, prog_1_method_56_code, 3, (some .boolean), { frames := 0, cells := 0, slots := 0, locals := 0 })
theorem m8_lay : mOK B8_lay 2 := ⟨by decide +kernel, in_g (List.mem_of_getElem? (i := 1023) (by decide +kernel)) (by decide +kernel), in_g (List.mem_of_getElem? (i := 118) (by decide +kernel)) rfl, by decide +kernel⟩
theorem k8_lay : Cond.instanceMethod B8_lay.1 ∈ lw_g := in_g (List.mem_of_getElem? (i := 1022) (by decide +kernel)) rfl
theorem e8_lay : Cond.selects B8_lay.1.cls B8_lay.1 B8_lay.1 ∈ lw_g := in_g (List.mem_of_getElem? (i := 37) (by decide +kernel)) rfl
def y8_layFurther : MethodName := ⟨"DeafWall", "layFurther", "(LDeafWall$Wall;)Z"⟩
def B8_layFurther : BB := (y8_layFurther, prog_1_method_57_code, 6, (some .boolean), { frames := 3, cells := 0, slots := 0, locals := 66 })
theorem m8_layFurther : mOK B8_layFurther 1 := ⟨by decide +kernel, in_g (List.mem_of_getElem? (i := 1027) (by decide +kernel)) (by decide +kernel), in_g (List.mem_of_getElem? (i := 118) (by decide +kernel)) rfl, by decide +kernel⟩
theorem k8_layFurther : Cond.instanceMethod B8_layFurther.1 ∈ lw_g := in_g (List.mem_of_getElem? (i := 1026) (by decide +kernel)) rfl
theorem e8_layFurther : Cond.selects B8_layFurther.1.cls B8_layFurther.1 B8_layFurther.1 ∈ lw_g := in_g (List.mem_of_getElem? (i := 38) (by decide +kernel)) rfl
def y8_code : MethodName := ⟨"DeafWall", "code", "(I)I"⟩
def B8_code : BB := (y8_code, prog_1_method_52_code, 5, (some .int), { frames := 4, cells := 0, slots := 0, locals := 91 })
theorem m8_code : mOK B8_code 1 := ⟨by decide +kernel, in_g (List.mem_of_getElem? (i := 1004) (by decide +kernel)) (by decide +kernel), in_g (List.mem_of_getElem? (i := 118) (by decide +kernel)) rfl, by decide +kernel⟩
theorem k8_code : Cond.instanceMethod B8_code.1 ∈ lw_g := in_g (List.mem_of_getElem? (i := 1002) (by decide +kernel)) rfl
theorem e8_code : Cond.selects B8_code.1.cls B8_code.1 B8_code.1 ∈ lw_g := in_g (List.mem_of_getElem? (i := 1003) (by decide +kernel)) rfl
def y8_ways : MethodName := ⟨"DeafWall", "ways", "(II)J"⟩
def B8_ways : BB := (y8_ways, prog_1_method_58_code, 6, (some .long), { frames := 1, cells := 0, slots := 0, locals := 24 })
theorem m8_ways : mOK B8_ways 2 := ⟨by decide +kernel, in_g (List.mem_of_getElem? (i := 1031) (by decide +kernel)) (by decide +kernel), in_g (List.mem_of_getElem? (i := 118) (by decide +kernel)) rfl, by decide +kernel⟩
theorem k8_ways : Cond.instanceMethod B8_ways.1 ∈ lw_g := in_g (List.mem_of_getElem? (i := 1029) (by decide +kernel)) rfl
theorem e8_ways : Cond.selects B8_ways.1.cls B8_ways.1 B8_ways.1 ∈ lw_g := in_g (List.mem_of_getElem? (i := 1030) (by decide +kernel)) rfl
def y8_alikeFromBehind : MethodName := ⟨"DeafWall", "alikeFromBehind", "(LDeafWall$Wall;II)I"⟩
def B8_alikeFromBehind : BB := (y8_alikeFromBehind, prog_1_method_61_code, 5, (some .int), { frames := 1, cells := 0, slots := 0, locals := 22 })
theorem m8_alikeFromBehind : mOK B8_alikeFromBehind 3 := ⟨by decide +kernel, in_g (List.mem_of_getElem? (i := 1038) (by decide +kernel)) (by decide +kernel), in_g (List.mem_of_getElem? (i := 118) (by decide +kernel)) rfl, by decide +kernel⟩
theorem k8_alikeFromBehind : Cond.static B8_alikeFromBehind.1 ∈ lw_g := in_g (List.mem_of_getElem? (i := 1037) (by decide +kernel)) rfl
def y8_alikeFrom : MethodName := ⟨"DeafWall", "alikeFrom", "(LDeafWall$Wall;IIII)I"⟩
def B8_alikeFrom : BB := (y8_alikeFrom, prog_1_method_62_code, 7, (some .int), { frames := 1, cells := 0, slots := 0, locals := 22 })
theorem m8_alikeFrom : mOK B8_alikeFrom 5 := ⟨by decide +kernel, in_g (List.mem_of_getElem? (i := 1042) (by decide +kernel)) (by decide +kernel), in_g (List.mem_of_getElem? (i := 118) (by decide +kernel)) rfl, by decide +kernel⟩
theorem k8_alikeFrom : Cond.static B8_alikeFrom.1 ∈ lw_g := in_g (List.mem_of_getElem? (i := 1041) (by decide +kernel)) rfl
def y8_longestShared : MethodName := ⟨"DeafWall", "longestShared", "(LDeafWall$Wall;II)I"⟩
def B8_longestShared : BB := (y8_longestShared, prog_1_method_63_code, 6, (some .int), { frames := 2, cells := 0, slots := 0, locals := 48 })
theorem m8_longestShared : mOK B8_longestShared 3 := ⟨by decide +kernel, in_g (List.mem_of_getElem? (i := 1045) (by decide +kernel)) (by decide +kernel), in_g (List.mem_of_getElem? (i := 118) (by decide +kernel)) rfl, by decide +kernel⟩
theorem k8_longestShared : Cond.static B8_longestShared.1 ∈ lw_g := in_g (List.mem_of_getElem? (i := 1044) (by decide +kernel)) rfl
def y8_isTurned : MethodName := ⟨"DeafWall", "isTurned", "(LDeafWall$Wall;II)Z"⟩
def B8_isTurned : BB := (y8_isTurned, prog_1_method_64_code, 5, (some .boolean), { frames := 1, cells := 0, slots := 0, locals := 22 })
theorem m8_isTurned : mOK B8_isTurned 3 := ⟨by decide +kernel, in_g (List.mem_of_getElem? (i := 1048) (by decide +kernel)) (by decide +kernel), in_g (List.mem_of_getElem? (i := 118) (by decide +kernel)) rfl, by decide +kernel⟩
theorem k8_isTurned : Cond.static B8_isTurned.1 ∈ lw_g := in_g (List.mem_of_getElem? (i := 1047) (by decide +kernel)) rfl
def y8_rhyme : MethodName := ⟨"DeafWall", "rhyme", "(IIII)I"⟩
def B8_rhyme : BB := (y8_rhyme, prog_1_method_59_code, 6, (some .int), { frames := 3, cells := 0, slots := 0, locals := 73 })
theorem m8_rhyme : mOK B8_rhyme 4 := ⟨by decide +kernel, in_g (List.mem_of_getElem? (i := 1035) (by decide +kernel)) (by decide +kernel), in_g (List.mem_of_getElem? (i := 118) (by decide +kernel)) rfl, by decide +kernel⟩
theorem k8_rhyme : Cond.instanceMethod B8_rhyme.1 ∈ lw_g := in_g (List.mem_of_getElem? (i := 1033) (by decide +kernel)) rfl
theorem e8_rhyme : Cond.selects B8_rhyme.1.cls B8_rhyme.1 B8_rhyme.1 ∈ lw_g := in_g (List.mem_of_getElem? (i := 1034) (by decide +kernel)) rfl
def y8_factsAreSo : MethodName := ⟨"DeafWall", "factsAreSo", "(LDeafWall$Wall;LDeafWall$Lines;I)Z"⟩
def B8_factsAreSo : BB := (y8_factsAreSo, prog_1_method_67_code, 6, (some .boolean), { frames := 1, cells := 0, slots := 0, locals := 23 })
theorem m8_factsAreSo : mOK B8_factsAreSo 3 := ⟨by decide +kernel, in_g (List.mem_of_getElem? (i := 1060) (by decide +kernel)) (by decide +kernel), in_g (List.mem_of_getElem? (i := 118) (by decide +kernel)) rfl, by decide +kernel⟩
theorem k8_factsAreSo : Cond.instanceMethod B8_factsAreSo.1 ∈ lw_g := in_g (List.mem_of_getElem? (i := 1059) (by decide +kernel)) rfl
theorem e8_factsAreSo : Cond.selects B8_factsAreSo.1.cls B8_factsAreSo.1 B8_factsAreSo.1 ∈ lw_g := in_g (List.mem_of_getElem? (i := 40) (by decide +kernel)) rfl
def y8_fit : MethodName := ⟨"DeafWall", "fit", "(LDeafWall$Wall;LDeafWall$Lines;I)I"⟩
def B8_fit : BB := (y8_fit, prog_1_method_66_code, 6, (some .int), { frames := 5, cells := 0, slots := 0, locals := 114 })
theorem m8_fit : mOK B8_fit 3 := ⟨by decide +kernel, in_g (List.mem_of_getElem? (i := 1056) (by decide +kernel)) (by decide +kernel), in_g (List.mem_of_getElem? (i := 118) (by decide +kernel)) rfl, by decide +kernel⟩
theorem k8_fit : Cond.instanceMethod B8_fit.1 ∈ lw_g := in_g (List.mem_of_getElem? (i := 1055) (by decide +kernel)) rfl
theorem e8_fit : Cond.selects B8_fit.1.cls B8_fit.1 B8_fit.1 ∈ lw_g := in_g (List.mem_of_getElem? (i := 39) (by decide +kernel)) rfl
def y8_sure : MethodName := ⟨"DeafWall", "sure", "(IIZ)I"⟩
def B8_sure : BB := (y8_sure, prog_1_method_68_code, 6, (some .int), { frames := 0, cells := 0, slots := 0, locals := 0 })
theorem m8_sure : mOK B8_sure 3 := ⟨by decide +kernel, in_g (List.mem_of_getElem? (i := 1064) (by decide +kernel)) (by decide +kernel), in_g (List.mem_of_getElem? (i := 118) (by decide +kernel)) rfl, by decide +kernel⟩
theorem k8_sure : Cond.instanceMethod B8_sure.1 ∈ lw_g := in_g (List.mem_of_getElem? (i := 1063) (by decide +kernel)) rfl
theorem e8_sure : Cond.selects B8_sure.1.cls B8_sure.1 B8_sure.1 ∈ lw_g := in_g (List.mem_of_getElem? (i := 41) (by decide +kernel)) rfl
def y8_countFelt : MethodName := ⟨"DeafWall", "countFelt", "(II)V"⟩
def B8_countFelt : BB := (y8_countFelt, prog_1_method_70_code, 6, none, { frames := 1, cells := 0, slots := 0, locals := 23 })
theorem m8_countFelt : mOK B8_countFelt 2 := ⟨by decide +kernel, in_g (List.mem_of_getElem? (i := 1072) (by decide +kernel)) (by decide +kernel), in_g (List.mem_of_getElem? (i := 118) (by decide +kernel)) rfl, by decide +kernel⟩
theorem k8_countFelt : Cond.instanceMethod B8_countFelt.1 ∈ lw_g := in_g (List.mem_of_getElem? (i := 1071) (by decide +kernel)) rfl
theorem e8_countFelt : Cond.selects B8_countFelt.1.cls B8_countFelt.1 B8_countFelt.1 ∈ lw_g := in_g (List.mem_of_getElem? (i := 43) (by decide +kernel)) rfl
def y8_ask : MethodName := ⟨"DeafWall", "ask", "(LDeafWall$Wall;I)I"⟩
def B8_ask : BB := (y8_ask, prog_1_method_69_code, 7, (some .int), { frames := 2, cells := 0, slots := 0, locals := 48 })
theorem m8_ask : mOK B8_ask 2 := ⟨by decide +kernel, in_g (List.mem_of_getElem? (i := 1068) (by decide +kernel)) (by decide +kernel), in_g (List.mem_of_getElem? (i := 118) (by decide +kernel)) rfl, by decide +kernel⟩
theorem k8_ask : Cond.instanceMethod B8_ask.1 ∈ lw_g := in_g (List.mem_of_getElem? (i := 1067) (by decide +kernel)) rfl
theorem e8_ask : Cond.selects B8_ask.1.cls B8_ask.1 B8_ask.1 ∈ lw_g := in_g (List.mem_of_getElem? (i := 42) (by decide +kernel)) rfl
def y8_fits : MethodName := ⟨"DeafWall", "fits", "(IIII)I"⟩
def B8_fits : BB := (y8_fits, prog_1_method_65_code, 8, (some .int), { frames := 6, cells := 0, slots := 0, locals := 139 })
theorem m8_fits : mOK B8_fits 4 := ⟨by decide +kernel, in_g (List.mem_of_getElem? (i := 1052) (by decide +kernel)) (by decide +kernel), in_g (List.mem_of_getElem? (i := 118) (by decide +kernel)) rfl, by decide +kernel⟩
theorem k8_fits : Cond.instanceMethod B8_fits.1 ∈ lw_g := in_g (List.mem_of_getElem? (i := 1050) (by decide +kernel)) rfl
theorem e8_fits : Cond.selects B8_fits.1.cls B8_fits.1 B8_fits.1 ∈ lw_g := in_g (List.mem_of_getElem? (i := 1051) (by decide +kernel)) rfl
def y8_brick : MethodName := ⟨"DeafWall", "brick", "(IIIII)I"⟩
def B8_brick : BB := (y8_brick, prog_1_method_71_code, 10, (some .int), { frames := 3, cells := 0, slots := 0, locals := 72 })
theorem m8_brick : mOK B8_brick 5 := ⟨by decide +kernel, in_g (List.mem_of_getElem? (i := 1076) (by decide +kernel)) (by decide +kernel), in_g (List.mem_of_getElem? (i := 118) (by decide +kernel)) rfl, by decide +kernel⟩
theorem k8_brick : Cond.instanceMethod B8_brick.1 ∈ lw_g := in_g (List.mem_of_getElem? (i := 1074) (by decide +kernel)) rfl
theorem e8_brick : Cond.selects B8_brick.1.cls B8_brick.1 B8_brick.1 ∈ lw_g := in_g (List.mem_of_getElem? (i := 1075) (by decide +kernel)) rfl
def y8_odds : MethodName := ⟨"DeafWall", "odds", "(IIIIZ)J"⟩
def B8_odds : BB := (y8_odds, prog_1_method_72_code, 11, (some .long), { frames := 6, cells := 0, slots := 0, locals := 139 })
theorem m8_odds : mOK B8_odds 5 := ⟨by decide +kernel, in_g (List.mem_of_getElem? (i := 1080) (by decide +kernel)) (by decide +kernel), in_g (List.mem_of_getElem? (i := 118) (by decide +kernel)) rfl, by decide +kernel⟩
theorem k8_odds : Cond.instanceMethod B8_odds.1 ∈ lw_g := in_g (List.mem_of_getElem? (i := 1078) (by decide +kernel)) rfl
theorem e8_odds : Cond.selects B8_odds.1.cls B8_odds.1 B8_odds.1 ∈ lw_g := in_g (List.mem_of_getElem? (i := 1079) (by decide +kernel)) rfl
def y8_few : MethodName := ⟨"DeafWall", "few", "(IIIZ)I"⟩
def B8_few : BB := (y8_few, prog_1_method_73_code, 11, (some .int), { frames := 6, cells := 0, slots := 0, locals := 139 })
theorem m8_few : mOK B8_few 4 := ⟨by decide +kernel, in_g (List.mem_of_getElem? (i := 1084) (by decide +kernel)) (by decide +kernel), in_g (List.mem_of_getElem? (i := 118) (by decide +kernel)) rfl, by decide +kernel⟩
theorem k8_few : Cond.instanceMethod B8_few.1 ∈ lw_g := in_g (List.mem_of_getElem? (i := 1082) (by decide +kernel)) rfl
theorem e8_few : Cond.selects B8_few.1.cls B8_few.1 B8_few.1 ∈ lw_g := in_g (List.mem_of_getElem? (i := 1083) (by decide +kernel)) rfl
def y7_stepsBetween : MethodName := ⟨"DeafWall$Wall", "stepsBetween", "(II)I"⟩
def B7_stepsBetween : BB := (y7_stepsBetween, prog_9_method_11_code, 3, (some .int), { frames := 1, cells := 0, slots := 0, locals := 20 })
theorem m7_stepsBetween : mOK B7_stepsBetween 2 := ⟨by decide +kernel, in_g (List.mem_of_getElem? (i := 1092) (by decide +kernel)) (by decide +kernel), in_g (List.mem_of_getElem? (i := 122) (by decide +kernel)) rfl, by decide +kernel⟩
theorem k7_stepsBetween : Cond.instanceMethod B7_stepsBetween.1 ∈ lw_g := in_g (List.mem_of_getElem? (i := 1090) (by decide +kernel)) rfl
theorem e7_stepsBetween : Cond.selects B7_stepsBetween.1.cls B7_stepsBetween.1 B7_stepsBetween.1 ∈ lw_g := in_g (List.mem_of_getElem? (i := 1091) (by decide +kernel)) rfl
def y8_loss : MethodName := ⟨"DeafWall", "loss", "(IIIZ)I"⟩
def B8_loss : BB := (y8_loss, prog_1_method_74_code, 6, (some .int), { frames := 4, cells := 0, slots := 0, locals := 100 })
theorem m8_loss : mOK B8_loss 4 := ⟨by decide +kernel, in_g (List.mem_of_getElem? (i := 1088) (by decide +kernel)) (by decide +kernel), in_g (List.mem_of_getElem? (i := 118) (by decide +kernel)) rfl, by decide +kernel⟩
theorem k8_loss : Cond.instanceMethod B8_loss.1 ∈ lw_g := in_g (List.mem_of_getElem? (i := 1086) (by decide +kernel)) rfl
theorem e8_loss : Cond.selects B8_loss.1.cls B8_loss.1 B8_loss.1 ∈ lw_g := in_g (List.mem_of_getElem? (i := 1087) (by decide +kernel)) rfl
def y8_shadow : MethodName := ⟨"DeafWall", "shadow", "(LDeafWall$Wall;Z)I"⟩
def B8_shadow : BB := (y8_shadow, prog_1_method_76_code, 5, (some .int), { frames := 4, cells := 0, slots := 0, locals := 93 })
theorem m8_shadow : mOK B8_shadow 2 := ⟨by decide +kernel, in_g (List.mem_of_getElem? (i := 1103) (by decide +kernel)) (by decide +kernel), in_g (List.mem_of_getElem? (i := 118) (by decide +kernel)) rfl, by decide +kernel⟩
theorem k8_shadow : Cond.instanceMethod B8_shadow.1 ∈ lw_g := in_g (List.mem_of_getElem? (i := 1102) (by decide +kernel)) rfl
theorem e8_shadow : Cond.selects B8_shadow.1.cls B8_shadow.1 B8_shadow.1 ∈ lw_g := in_g (List.mem_of_getElem? (i := 44) (by decide +kernel)) rfl
def y8_farthest : MethodName := ⟨"DeafWall", "farthest", "(LDeafWall$Wall;)I"⟩
def B8_farthest : BB := (y8_farthest, prog_1_method_77_code, 4, (some .int), { frames := 4, cells := 0, slots := 0, locals := 100 })
theorem m8_farthest : mOK B8_farthest 1 := ⟨by decide +kernel, in_g (List.mem_of_getElem? (i := 1107) (by decide +kernel)) (by decide +kernel), in_g (List.mem_of_getElem? (i := 118) (by decide +kernel)) rfl, by decide +kernel⟩
theorem k8_farthest : Cond.instanceMethod B8_farthest.1 ∈ lw_g := in_g (List.mem_of_getElem? (i := 1106) (by decide +kernel)) rfl
theorem e8_farthest : Cond.selects B8_farthest.1.cls B8_farthest.1 B8_farthest.1 ∈ lw_g := in_g (List.mem_of_getElem? (i := 45) (by decide +kernel)) rfl
def y7_deadest : MethodName := ⟨"DeafWall$Wall", "deadest", "()I"⟩
def B7_deadest : BB := (y7_deadest, prog_9_method_12_code, 3, (some .int), { frames := 1, cells := 0, slots := 0, locals := 20 })
theorem m7_deadest : mOK B7_deadest 0 := ⟨by decide +kernel, in_g (List.mem_of_getElem? (i := 1111) (by decide +kernel)) (by decide +kernel), in_g (List.mem_of_getElem? (i := 122) (by decide +kernel)) rfl, by decide +kernel⟩
theorem k7_deadest : Cond.instanceMethod B7_deadest.1 ∈ lw_g := in_g (List.mem_of_getElem? (i := 1109) (by decide +kernel)) rfl
theorem e7_deadest : Cond.selects B7_deadest.1.cls B7_deadest.1 B7_deadest.1 ∈ lw_g := in_g (List.mem_of_getElem? (i := 1110) (by decide +kernel)) rfl
def y7_allDeads : MethodName := ⟨"DeafWall$Wall", "allDeads", "()I"⟩
def B7_allDeads : BB := (y7_allDeads, prog_9_method_13_code, 3, (some .int), { frames := 1, cells := 0, slots := 0, locals := 20 })
theorem m7_allDeads : mOK B7_allDeads 0 := ⟨by decide +kernel, in_g (List.mem_of_getElem? (i := 1116) (by decide +kernel)) (by decide +kernel), in_g (List.mem_of_getElem? (i := 122) (by decide +kernel)) rfl, by decide +kernel⟩
theorem k7_allDeads : Cond.instanceMethod B7_allDeads.1 ∈ lw_g := in_g (List.mem_of_getElem? (i := 1114) (by decide +kernel)) rfl
theorem e7_allDeads : Cond.selects B7_allDeads.1.cls B7_allDeads.1 B7_allDeads.1 ∈ lw_g := in_g (List.mem_of_getElem? (i := 1115) (by decide +kernel)) rfl
def y7_tenderest : MethodName := ⟨"DeafWall$Wall", "tenderest", "()I"⟩
def B7_tenderest : BB := (y7_tenderest, prog_9_method_14_code, 3, (some .int), { frames := 0, cells := 0, slots := 0, locals := 0 })
theorem m7_tenderest : mOK B7_tenderest 0 := ⟨by decide +kernel, in_g (List.mem_of_getElem? (i := 1120) (by decide +kernel)) (by decide +kernel), in_g (List.mem_of_getElem? (i := 122) (by decide +kernel)) rfl, by decide +kernel⟩
theorem k7_tenderest : Cond.instanceMethod B7_tenderest.1 ∈ lw_g := in_g (List.mem_of_getElem? (i := 1118) (by decide +kernel)) rfl
theorem e7_tenderest : Cond.selects B7_tenderest.1.cls B7_tenderest.1 B7_tenderest.1 ∈ lw_g := in_g (List.mem_of_getElem? (i := 1119) (by decide +kernel)) rfl
def y7_sharing : MethodName := ⟨"DeafWall$Wall", "sharing", "()I"⟩
def B7_sharing : BB := (y7_sharing, prog_9_method_15_code, 4, (some .int), { frames := 0, cells := 0, slots := 0, locals := 0 })
theorem m7_sharing : mOK B7_sharing 0 := ⟨by decide +kernel, in_g (List.mem_of_getElem? (i := 1124) (by decide +kernel)) (by decide +kernel), in_g (List.mem_of_getElem? (i := 122) (by decide +kernel)) rfl, by decide +kernel⟩
theorem k7_sharing : Cond.instanceMethod B7_sharing.1 ∈ lw_g := in_g (List.mem_of_getElem? (i := 1122) (by decide +kernel)) rfl
theorem e7_sharing : Cond.selects B7_sharing.1.cls B7_sharing.1 B7_sharing.1 ∈ lw_g := in_g (List.mem_of_getElem? (i := 1123) (by decide +kernel)) rfl
def y7_seams : MethodName := ⟨"DeafWall$Wall", "seams", "()I"⟩
def B7_seams : BB := (y7_seams, prog_9_method_16_code, 5, (some .int), { frames := 0, cells := 0, slots := 0, locals := 0 })
theorem m7_seams : mOK B7_seams 0 := ⟨by decide +kernel, in_g (List.mem_of_getElem? (i := 1128) (by decide +kernel)) (by decide +kernel), in_g (List.mem_of_getElem? (i := 122) (by decide +kernel)) rfl, by decide +kernel⟩
theorem k7_seams : Cond.instanceMethod B7_seams.1 ∈ lw_g := in_g (List.mem_of_getElem? (i := 1126) (by decide +kernel)) rfl
theorem e7_seams : Cond.selects B7_seams.1.cls B7_seams.1 B7_seams.1 ∈ lw_g := in_g (List.mem_of_getElem? (i := 1127) (by decide +kernel)) rfl
def y8_shade : MethodName := ⟨"DeafWall", "shade", "(II)I"⟩
def B8_shade : BB := (y8_shade, prog_1_method_75_code, 4, (some .int), { frames := 5, cells := 0, slots := 0, locals := 123 })
theorem m8_shade : mOK B8_shade 2 := ⟨by decide +kernel, in_g (List.mem_of_getElem? (i := 1099) (by decide +kernel)) (by decide +kernel), in_g (List.mem_of_getElem? (i := 118) (by decide +kernel)) rfl, by decide +kernel⟩
theorem k8_shade : Cond.instanceMethod B8_shade.1 ∈ lw_g := in_g (List.mem_of_getElem? (i := 1097) (by decide +kernel)) rfl
theorem e8_shade : Cond.selects B8_shade.1.cls B8_shade.1 B8_shade.1 ∈ lw_g := in_g (List.mem_of_getElem? (i := 1098) (by decide +kernel)) rfl
