def y9_init : MethodName := ⟨"DeafWallModel", "<init>", "()V"⟩
def B9_init : BB := (y9_init, prog_11_method_1_code, 1, none, { frames := 1, cells := 18, slots := 5585, locals := 20 })
theorem m9_init : mOK B9_init 0 := ⟨by decide +kernel, in_g (List.mem_of_getElem? (i := 1133) (by decide +kernel)) (by decide +kernel), in_g (List.mem_of_getElem? (i := 126) (by decide +kernel)) rfl, by decide +kernel⟩
theorem k9_init : Cond.instanceMethod B9_init.1 ∈ lw_g := in_g (List.mem_of_getElem? (i := 1132) (by decide +kernel)) rfl
def y9_isIn : MethodName := ⟨"DeafWallModel", "isIn", "(III)Z"⟩
def B9_isIn : BB := (y9_isIn, prog_11_method_2_code, 3, (some .boolean), { frames := 0, cells := 0, slots := 0, locals := 0 })
theorem m9_isIn : mOK B9_isIn 3 := ⟨by decide +kernel, in_g (List.mem_of_getElem? (i := 1289) (by decide +kernel)) (by decide +kernel), in_g (List.mem_of_getElem? (i := 126) (by decide +kernel)) rfl, by decide +kernel⟩
theorem k9_isIn : Cond.static B9_isIn.1 ∈ lw_g := in_g (List.mem_of_getElem? (i := 1288) (by decide +kernel)) rfl
def y9_feed : MethodName := ⟨"DeafWallModel", "feed", "(IIIII)I"⟩
def B9_feed : BB := (y9_feed, prog_11_method_3_code, 8, (some .int), { frames := 0, cells := 0, slots := 0, locals := 0 })
theorem m9_feed : mOK B9_feed 5 := ⟨by decide +kernel, in_g (List.mem_of_getElem? (i := 1278) (by decide +kernel)) (by decide +kernel), in_g (List.mem_of_getElem? (i := 126) (by decide +kernel)) rfl, by decide +kernel⟩
theorem k9_feed : Cond.instanceMethod B9_feed.1 ∈ lw_g := in_g (List.mem_of_getElem? (i := 1276) (by decide +kernel)) rfl
theorem e9_feed : Cond.selects B9_feed.1.cls B9_feed.1 B9_feed.1 ∈ lw_g := in_g (List.mem_of_getElem? (i := 1277) (by decide +kernel)) rfl
def y9_end : MethodName := ⟨"DeafWallModel", "end", "(I)I"⟩
def B9_end : BB := (y9_end, prog_11_method_4_code, 2, (some .int), { frames := 0, cells := 0, slots := 0, locals := 0 })
theorem m9_end : mOK B9_end 1 := ⟨by decide +kernel, in_g (List.mem_of_getElem? (i := 1282) (by decide +kernel)) (by decide +kernel), in_g (List.mem_of_getElem? (i := 126) (by decide +kernel)) rfl, by decide +kernel⟩
theorem k9_end : Cond.instanceMethod B9_end.1 ∈ lw_g := in_g (List.mem_of_getElem? (i := 1280) (by decide +kernel)) rfl
theorem e9_end : Cond.selects B9_end.1.cls B9_end.1 B9_end.1 ∈ lw_g := in_g (List.mem_of_getElem? (i := 1281) (by decide +kernel)) rfl
def y9_byteAt : MethodName := ⟨"DeafWallModel", "byteAt", "(I)I"⟩
def B9_byteAt : BB := (y9_byteAt, prog_11_method_5_code, 2, (some .int), { frames := 0, cells := 0, slots := 0, locals := 0 })
theorem m9_byteAt : mOK B9_byteAt 1 := ⟨by decide +kernel, in_g (List.mem_of_getElem? (i := 1305) (by decide +kernel)) (by decide +kernel), in_g (List.mem_of_getElem? (i := 126) (by decide +kernel)) rfl, by decide +kernel⟩
theorem k9_byteAt : Cond.instanceMethod B9_byteAt.1 ∈ lw_g := in_g (List.mem_of_getElem? (i := 1304) (by decide +kernel)) rfl
theorem e9_byteAt : Cond.selects B9_byteAt.1.cls B9_byteAt.1 B9_byteAt.1 ∈ lw_g := in_g (List.mem_of_getElem? (i := 49) (by decide +kernel)) rfl
def y9_isLetter : MethodName := ⟨"DeafWallModel", "isLetter", "(I)Z"⟩
def B9_isLetter : BB := (y9_isLetter, prog_11_method_6_code, 1, (some .boolean), { frames := 0, cells := 0, slots := 0, locals := 0 })
theorem m9_isLetter : mOK B9_isLetter 1 := ⟨by decide +kernel, in_g (List.mem_of_getElem? (i := 1308) (by decide +kernel)) (by decide +kernel), in_g (List.mem_of_getElem? (i := 126) (by decide +kernel)) rfl, by decide +kernel⟩
theorem k9_isLetter : Cond.static B9_isLetter.1 ∈ lw_g := in_g (List.mem_of_getElem? (i := 1307) (by decide +kernel)) rfl
def y9_isDigit : MethodName := ⟨"DeafWallModel", "isDigit", "(I)Z"⟩
def B9_isDigit : BB := (y9_isDigit, prog_11_method_7_code, 1, (some .boolean), { frames := 0, cells := 0, slots := 0, locals := 0 })
theorem m9_isDigit : mOK B9_isDigit 1 := ⟨by decide +kernel, in_g (List.mem_of_getElem? (i := 1323) (by decide +kernel)) (by decide +kernel), in_g (List.mem_of_getElem? (i := 126) (by decide +kernel)) rfl, by decide +kernel⟩
theorem k9_isDigit : Cond.static B9_isDigit.1 ∈ lw_g := in_g (List.mem_of_getElem? (i := 1322) (by decide +kernel)) rfl
def y9_four : MethodName := ⟨"DeafWallModel", "four", "(IIII)J"⟩
def B9_four : BB := (y9_four, prog_11_method_8_code, 4, (some .long), { frames := 0, cells := 0, slots := 0, locals := 0 })
theorem m9_four : mOK B9_four 4 := ⟨by decide +kernel, in_g (List.mem_of_getElem? (i := 1316) (by decide +kernel)) (by decide +kernel), in_g (List.mem_of_getElem? (i := 126) (by decide +kernel)) rfl, by decide +kernel⟩
theorem k9_four : Cond.static B9_four.1 ∈ lw_g := in_g (List.mem_of_getElem? (i := 1315) (by decide +kernel)) rfl
def y9_eight : MethodName := ⟨"DeafWallModel", "eight", "(IIIIIIII)J"⟩
def B9_eight : BB := (y9_eight, prog_11_method_9_code, 8, (some .long), { frames := 1, cells := 0, slots := 0, locals := 23 })
theorem m9_eight : mOK B9_eight 8 := ⟨by decide +kernel, in_g (List.mem_of_getElem? (i := 1319) (by decide +kernel)) (by decide +kernel), in_g (List.mem_of_getElem? (i := 126) (by decide +kernel)) rfl, by decide +kernel⟩
theorem k9_eight : Cond.static B9_eight.1 ∈ lw_g := in_g (List.mem_of_getElem? (i := 1318) (by decide +kernel)) rfl
def y9_wordOf : MethodName := ⟨"DeafWallModel", "wordOf", "(J)I"⟩
def B9_wordOf : BB := (y9_wordOf, prog_11_method_10_code, 2, (some .int), { frames := 2, cells := 0, slots := 0, locals := 50 })
theorem m9_wordOf : mOK B9_wordOf 1 := ⟨by decide +kernel, in_g (List.mem_of_getElem? (i := 1313) (by decide +kernel)) (by decide +kernel), in_g (List.mem_of_getElem? (i := 126) (by decide +kernel)) rfl, by decide +kernel⟩
theorem k9_wordOf : Cond.static B9_wordOf.1 ∈ lw_g := in_g (List.mem_of_getElem? (i := 1312) (by decide +kernel)) rfl
def y9_advance : MethodName := ⟨"DeafWallModel", "advance", "()V"⟩
def B9_advance : BB := (y9_advance, prog_11_method_11_code, 4, none, { frames := 3, cells := 0, slots := 0, locals := 71 })
theorem m9_advance : mOK B9_advance 0 := ⟨by decide +kernel, in_g (List.mem_of_getElem? (i := 1301) (by decide +kernel)) (by decide +kernel), in_g (List.mem_of_getElem? (i := 126) (by decide +kernel)) rfl, by decide +kernel⟩
theorem k9_advance : Cond.instanceMethod B9_advance.1 ∈ lw_g := in_g (List.mem_of_getElem? (i := 1300) (by decide +kernel)) rfl
theorem e9_advance : Cond.selects B9_advance.1.cls B9_advance.1 B9_advance.1 ∈ lw_g := in_g (List.mem_of_getElem? (i := 48) (by decide +kernel)) rfl
def y9_ends : MethodName := ⟨"DeafWallModel", "ends", "()V"⟩
def B9_ends : BB := (y9_ends, prog_11_method_12_code, 1, none, { frames := 0, cells := 0, slots := 0, locals := 0 })
theorem m9_ends : mOK B9_ends 0 := ⟨by decide +kernel, in_g (List.mem_of_getElem? (i := 1335) (by decide +kernel)) (by decide +kernel), in_g (List.mem_of_getElem? (i := 126) (by decide +kernel)) rfl, by decide +kernel⟩
theorem k9_ends : Cond.instanceMethod B9_ends.1 ∈ lw_g := in_g (List.mem_of_getElem? (i := 1334) (by decide +kernel)) rfl
theorem e9_ends : Cond.selects B9_ends.1.cls B9_ends.1 B9_ends.1 ∈ lw_g := in_g (List.mem_of_getElem? (i := 52) (by decide +kernel)) rfl
def y9_also : MethodName := ⟨"DeafWallModel", "also", "(II)V"⟩
def B9_also : BB := (y9_also, prog_11_method_13_code, 3, none, { frames := 0, cells := 0, slots := 0, locals := 0 })
theorem m9_also : mOK B9_also 2 := ⟨by decide +kernel, in_g (List.mem_of_getElem? (i := 1343) (by decide +kernel)) (by decide +kernel), in_g (List.mem_of_getElem? (i := 126) (by decide +kernel)) rfl, by decide +kernel⟩
theorem k9_also : Cond.instanceMethod B9_also.1 ∈ lw_g := in_g (List.mem_of_getElem? (i := 1342) (by decide +kernel)) rfl
theorem e9_also : Cond.selects B9_also.1.cls B9_also.1 B9_also.1 ∈ lw_g := in_g (List.mem_of_getElem? (i := 54) (by decide +kernel)) rfl
def y9_numbered : MethodName := ⟨"DeafWallModel", "numbered", "(II)I"⟩
def B9_numbered : BB := (y9_numbered, prog_11_method_14_code, 4, (some .int), { frames := 4, cells := 0, slots := 0, locals := 94 })
theorem m9_numbered : mOK B9_numbered 2 := ⟨by decide +kernel, in_g (List.mem_of_getElem? (i := 1339) (by decide +kernel)) (by decide +kernel), in_g (List.mem_of_getElem? (i := 126) (by decide +kernel)) rfl, by decide +kernel⟩
theorem k9_numbered : Cond.instanceMethod B9_numbered.1 ∈ lw_g := in_g (List.mem_of_getElem? (i := 1338) (by decide +kernel)) rfl
theorem e9_numbered : Cond.selects B9_numbered.1.cls B9_numbered.1 B9_numbered.1 ∈ lw_g := in_g (List.mem_of_getElem? (i := 53) (by decide +kernel)) rfl
def y9_wordIn : MethodName := ⟨"DeafWallModel", "wordIn", "(II)I"⟩
def B9_wordIn : BB := (y9_wordIn, prog_11_method_15_code, 4, (some .int), { frames := 4, cells := 0, slots := 0, locals := 94 })
theorem m9_wordIn : mOK B9_wordIn 2 := ⟨by decide +kernel, in_g (List.mem_of_getElem? (i := 1331) (by decide +kernel)) (by decide +kernel), in_g (List.mem_of_getElem? (i := 126) (by decide +kernel)) rfl, by decide +kernel⟩
theorem k9_wordIn : Cond.instanceMethod B9_wordIn.1 ∈ lw_g := in_g (List.mem_of_getElem? (i := 1330) (by decide +kernel)) rfl
theorem e9_wordIn : Cond.selects B9_wordIn.1.cls B9_wordIn.1 B9_wordIn.1 ∈ lw_g := in_g (List.mem_of_getElem? (i := 51) (by decide +kernel)) rfl
def y9_endsLine : MethodName := ⟨"DeafWallModel", "endsLine", "()V"⟩
def B9_endsLine : BB := (y9_endsLine, prog_11_method_16_code, 1, none, { frames := 4, cells := 0, slots := 0, locals := 94 })
theorem m9_endsLine : mOK B9_endsLine 0 := ⟨by decide +kernel, in_g (List.mem_of_getElem? (i := 1359) (by decide +kernel)) (by decide +kernel), in_g (List.mem_of_getElem? (i := 126) (by decide +kernel)) rfl, by decide +kernel⟩
theorem k9_endsLine : Cond.instanceMethod B9_endsLine.1 ∈ lw_g := in_g (List.mem_of_getElem? (i := 1358) (by decide +kernel)) rfl
theorem e9_endsLine : Cond.selects B9_endsLine.1.cls B9_endsLine.1 B9_endsLine.1 ∈ lw_g := in_g (List.mem_of_getElem? (i := 58) (by decide +kernel)) rfl
def y9_cellTold : MethodName := ⟨"DeafWallModel", "cellTold", "()I"⟩
def B9_cellTold : BB := (y9_cellTold, prog_11_method_17_code, 2, (some .int), { frames := 5, cells := 0, slots := 0, locals := 117 })
theorem m9_cellTold : mOK B9_cellTold 0 := ⟨by decide +kernel, in_g (List.mem_of_getElem? (i := 1347) (by decide +kernel)) (by decide +kernel), in_g (List.mem_of_getElem? (i := 126) (by decide +kernel)) rfl, by decide +kernel⟩
theorem k9_cellTold : Cond.instanceMethod B9_cellTold.1 ∈ lw_g := in_g (List.mem_of_getElem? (i := 1346) (by decide +kernel)) rfl
theorem e9_cellTold : Cond.selects B9_cellTold.1.cls B9_cellTold.1 B9_cellTold.1 ∈ lw_g := in_g (List.mem_of_getElem? (i := 55) (by decide +kernel)) rfl
def y9_feelerTold : MethodName := ⟨"DeafWallModel", "feelerTold", "(I)V"⟩
def B9_feelerTold : BB := (y9_feelerTold, prog_11_method_18_code, 4, none, { frames := 6, cells := 0, slots := 0, locals := 138 })
theorem m9_feelerTold : mOK B9_feelerTold 1 := ⟨by decide +kernel, in_g (List.mem_of_getElem? (i := 1351) (by decide +kernel)) (by decide +kernel), in_g (List.mem_of_getElem? (i := 126) (by decide +kernel)) rfl, by decide +kernel⟩
theorem k9_feelerTold : Cond.instanceMethod B9_feelerTold.1 ∈ lw_g := in_g (List.mem_of_getElem? (i := 1350) (by decide +kernel)) rfl
theorem e9_feelerTold : Cond.selects B9_feelerTold.1.cls B9_feelerTold.1 B9_feelerTold.1 ∈ lw_g := in_g (List.mem_of_getElem? (i := 56) (by decide +kernel)) rfl
def y9_taleTold : MethodName := ⟨"DeafWallModel", "taleTold", "(I)V"⟩
def B9_taleTold : BB := (y9_taleTold, prog_11_method_19_code, 5, none, { frames := 5, cells := 0, slots := 0, locals := 117 })
theorem m9_taleTold : mOK B9_taleTold 1 := ⟨by decide +kernel, in_g (List.mem_of_getElem? (i := 1355) (by decide +kernel)) (by decide +kernel), in_g (List.mem_of_getElem? (i := 126) (by decide +kernel)) rfl, by decide +kernel⟩
theorem k9_taleTold : Cond.instanceMethod B9_taleTold.1 ∈ lw_g := in_g (List.mem_of_getElem? (i := 1354) (by decide +kernel)) rfl
theorem e9_taleTold : Cond.selects B9_taleTold.1.cls B9_taleTold.1 B9_taleTold.1 ∈ lw_g := in_g (List.mem_of_getElem? (i := 57) (by decide +kernel)) rfl
def y9_wallLine : MethodName := ⟨"DeafWallModel", "wallLine", "()V"⟩
def B9_wallLine : BB := (y9_wallLine, prog_11_method_20_code, 4, none, { frames := 7, cells := 0, slots := 0, locals := 161 })
theorem m9_wallLine : mOK B9_wallLine 0 := ⟨by decide +kernel, in_g (List.mem_of_getElem? (i := 1327) (by decide +kernel)) (by decide +kernel), in_g (List.mem_of_getElem? (i := 126) (by decide +kernel)) rfl, by decide +kernel⟩
theorem k9_wallLine : Cond.instanceMethod B9_wallLine.1 ∈ lw_g := in_g (List.mem_of_getElem? (i := 1326) (by decide +kernel)) rfl
theorem e9_wallLine : Cond.selects B9_wallLine.1.cls B9_wallLine.1 B9_wallLine.1 ∈ lw_g := in_g (List.mem_of_getElem? (i := 50) (by decide +kernel)) rfl
def y9_dayLine : MethodName := ⟨"DeafWallModel", "dayLine", "()V"⟩
def B9_dayLine : BB := (y9_dayLine, prog_11_method_21_code, 6, none, { frames := 5, cells := 0, slots := 0, locals := 117 })
theorem m9_dayLine : mOK B9_dayLine 0 := ⟨by decide +kernel, in_g (List.mem_of_getElem? (i := 1363) (by decide +kernel)) (by decide +kernel), in_g (List.mem_of_getElem? (i := 126) (by decide +kernel)) rfl, by decide +kernel⟩
theorem k9_dayLine : Cond.instanceMethod B9_dayLine.1 ∈ lw_g := in_g (List.mem_of_getElem? (i := 1362) (by decide +kernel)) rfl
theorem e9_dayLine : Cond.selects B9_dayLine.1.cls B9_dayLine.1 B9_dayLine.1 ∈ lw_g := in_g (List.mem_of_getElem? (i := 59) (by decide +kernel)) rfl
def y9_logLine : MethodName := ⟨"DeafWallModel", "logLine", "()V"⟩
def B9_logLine : BB := (y9_logLine, prog_11_method_22_code, 6, none, { frames := 5, cells := 0, slots := 0, locals := 117 })
theorem m9_logLine : mOK B9_logLine 0 := ⟨by decide +kernel, in_g (List.mem_of_getElem? (i := 1367) (by decide +kernel)) (by decide +kernel), in_g (List.mem_of_getElem? (i := 126) (by decide +kernel)) rfl, by decide +kernel⟩
theorem k9_logLine : Cond.instanceMethod B9_logLine.1 ∈ lw_g := in_g (List.mem_of_getElem? (i := 1366) (by decide +kernel)) rfl
theorem e9_logLine : Cond.selects B9_logLine.1.cls B9_logLine.1 B9_logLine.1 ∈ lw_g := in_g (List.mem_of_getElem? (i := 60) (by decide +kernel)) rfl
def y9_placeOf : MethodName := ⟨"DeafWallModel", "placeOf", "(II)I"⟩
def B9_placeOf : BB := (y9_placeOf, prog_11_method_23_code, 2, (some .int), { frames := 0, cells := 0, slots := 0, locals := 0 })
theorem m9_placeOf : mOK B9_placeOf 2 := ⟨by decide +kernel, in_g (List.mem_of_getElem? (i := 1373) (by decide +kernel)) (by decide +kernel), in_g (List.mem_of_getElem? (i := 126) (by decide +kernel)) rfl, by decide +kernel⟩
theorem k9_placeOf : Cond.static B9_placeOf.1 ∈ lw_g := in_g (List.mem_of_getElem? (i := 1372) (by decide +kernel)) rfl
def y9_sizeOf : MethodName := ⟨"DeafWallModel", "sizeOf", "(I)I"⟩
def B9_sizeOf : BB := (y9_sizeOf, prog_11_method_24_code, 1, (some .int), { frames := 0, cells := 0, slots := 0, locals := 0 })
theorem m9_sizeOf : mOK B9_sizeOf 1 := ⟨by decide +kernel, in_g (List.mem_of_getElem? (i := 1370) (by decide +kernel)) (by decide +kernel), in_g (List.mem_of_getElem? (i := 126) (by decide +kernel)) rfl, by decide +kernel⟩
theorem k9_sizeOf : Cond.static B9_sizeOf.1 ∈ lw_g := in_g (List.mem_of_getElem? (i := 1369) (by decide +kernel)) rfl
def y9_isOf : MethodName := ⟨"DeafWallModel", "isOf", "(II)Z"⟩
def B9_isOf : BB := (y9_isOf, prog_11_method_25_code, 3, (some .boolean), { frames := 1, cells := 0, slots := 0, locals := 22 })
theorem m9_isOf : mOK B9_isOf 2 := ⟨by decide +kernel, in_g (List.mem_of_getElem? (i := 1293) (by decide +kernel)) (by decide +kernel), in_g (List.mem_of_getElem? (i := 126) (by decide +kernel)) rfl, by decide +kernel⟩
theorem k9_isOf : Cond.instanceMethod B9_isOf.1 ∈ lw_g := in_g (List.mem_of_getElem? (i := 1292) (by decide +kernel)) rfl
theorem e9_isOf : Cond.selects B9_isOf.1.cls B9_isOf.1 B9_isOf.1 ∈ lw_g := in_g (List.mem_of_getElem? (i := 46) (by decide +kernel)) rfl
def y9_beginsText : MethodName := ⟨"DeafWallModel", "beginsText", "(I)V"⟩
def B9_beginsText : BB := (y9_beginsText, prog_11_method_26_code, 3, none, { frames := 0, cells := 0, slots := 0, locals := 0 })
theorem m9_beginsText : mOK B9_beginsText 1 := ⟨by decide +kernel, in_g (List.mem_of_getElem? (i := 1297) (by decide +kernel)) (by decide +kernel), in_g (List.mem_of_getElem? (i := 126) (by decide +kernel)) rfl, by decide +kernel⟩
theorem k9_beginsText : Cond.instanceMethod B9_beginsText.1 ∈ lw_g := in_g (List.mem_of_getElem? (i := 1296) (by decide +kernel)) rfl
theorem e9_beginsText : Cond.selects B9_beginsText.1.cls B9_beginsText.1 B9_beginsText.1 ∈ lw_g := in_g (List.mem_of_getElem? (i := 47) (by decide +kernel)) rfl
def y9_text : MethodName := ⟨"DeafWallModel", "text", "(II)I"⟩
def B9_text : BB := (y9_text, prog_11_method_27_code, 5, (some .int), { frames := 8, cells := 0, slots := 0, locals := 184 })
theorem m9_text : mOK B9_text 2 := ⟨by decide +kernel, in_g (List.mem_of_getElem? (i := 1286) (by decide +kernel)) (by decide +kernel), in_g (List.mem_of_getElem? (i := 126) (by decide +kernel)) rfl, by decide +kernel⟩
theorem k9_text : Cond.instanceMethod B9_text.1 ∈ lw_g := in_g (List.mem_of_getElem? (i := 1284) (by decide +kernel)) rfl
theorem e9_text : Cond.selects B9_text.1.cls B9_text.1 B9_text.1 ∈ lw_g := in_g (List.mem_of_getElem? (i := 1285) (by decide +kernel)) rfl
def y9_fault : MethodName := ⟨"DeafWallModel", "fault", "(I)I"⟩
def B9_fault : BB := (y9_fault, prog_11_method_28_code, 2, (some .int), { frames := 0, cells := 0, slots := 0, locals := 0 })
theorem m9_fault : mOK B9_fault 1 := ⟨by decide +kernel, in_g (List.mem_of_getElem? (i := 1377) (by decide +kernel)) (by decide +kernel), in_g (List.mem_of_getElem? (i := 126) (by decide +kernel)) rfl, by decide +kernel⟩
theorem k9_fault : Cond.instanceMethod B9_fault.1 ∈ lw_g := in_g (List.mem_of_getElem? (i := 1375) (by decide +kernel)) rfl
theorem e9_fault : Cond.selects B9_fault.1.cls B9_fault.1 B9_fault.1 ∈ lw_g := in_g (List.mem_of_getElem? (i := 1376) (by decide +kernel)) rfl
def y9_isWall : MethodName := ⟨"DeafWallModel", "isWall", "(I)Z"⟩
def B9_isWall : BB := (y9_isWall, prog_11_method_29_code, 2, (some .boolean), { frames := 2, cells := 0, slots := 0, locals := 44 })
theorem m9_isWall : mOK B9_isWall 1 := ⟨by decide +kernel, in_g (List.mem_of_getElem? (i := 1385) (by decide +kernel)) (by decide +kernel), in_g (List.mem_of_getElem? (i := 126) (by decide +kernel)) rfl, by decide +kernel⟩
theorem k9_isWall : Cond.instanceMethod B9_isWall.1 ∈ lw_g := in_g (List.mem_of_getElem? (i := 1384) (by decide +kernel)) rfl
theorem e9_isWall : Cond.selects B9_isWall.1.cls B9_isWall.1 B9_isWall.1 ∈ lw_g := in_g (List.mem_of_getElem? (i := 61) (by decide +kernel)) rfl
def y9_isCell : MethodName := ⟨"DeafWallModel", "isCell", "(I)Z"⟩
def B9_isCell : BB := (y9_isCell, prog_11_method_30_code, 2, (some .boolean), { frames := 1, cells := 0, slots := 0, locals := 22 })
theorem m9_isCell : mOK B9_isCell 1 := ⟨by decide +kernel, in_g (List.mem_of_getElem? (i := 1409) (by decide +kernel)) (by decide +kernel), in_g (List.mem_of_getElem? (i := 126) (by decide +kernel)) rfl, by decide +kernel⟩
theorem k9_isCell : Cond.instanceMethod B9_isCell.1 ∈ lw_g := in_g (List.mem_of_getElem? (i := 1408) (by decide +kernel)) rfl
theorem e9_isCell : Cond.selects B9_isCell.1.cls B9_isCell.1 B9_isCell.1 ∈ lw_g := in_g (List.mem_of_getElem? (i := 67) (by decide +kernel)) rfl
def y9_isFeeler : MethodName := ⟨"DeafWallModel", "isFeeler", "(I)Z"⟩
def B9_isFeeler : BB := (y9_isFeeler, prog_11_method_31_code, 2, (some .boolean), { frames := 1, cells := 0, slots := 0, locals := 22 })
theorem m9_isFeeler : mOK B9_isFeeler 1 := ⟨by decide +kernel, in_g (List.mem_of_getElem? (i := 1389) (by decide +kernel)) (by decide +kernel), in_g (List.mem_of_getElem? (i := 126) (by decide +kernel)) rfl, by decide +kernel⟩
theorem k9_isFeeler : Cond.instanceMethod B9_isFeeler.1 ∈ lw_g := in_g (List.mem_of_getElem? (i := 1388) (by decide +kernel)) rfl
theorem e9_isFeeler : Cond.selects B9_isFeeler.1.cls B9_isFeeler.1 B9_isFeeler.1 ∈ lw_g := in_g (List.mem_of_getElem? (i := 62) (by decide +kernel)) rfl
def y9_isTale : MethodName := ⟨"DeafWallModel", "isTale", "(I)Z"⟩
def B9_isTale : BB := (y9_isTale, prog_11_method_32_code, 2, (some .boolean), { frames := 1, cells := 0, slots := 0, locals := 22 })
theorem m9_isTale : mOK B9_isTale 1 := ⟨by decide +kernel, in_g (List.mem_of_getElem? (i := 1401) (by decide +kernel)) (by decide +kernel), in_g (List.mem_of_getElem? (i := 126) (by decide +kernel)) rfl, by decide +kernel⟩
theorem k9_isTale : Cond.instanceMethod B9_isTale.1 ∈ lw_g := in_g (List.mem_of_getElem? (i := 1400) (by decide +kernel)) rfl
theorem e9_isTale : Cond.selects B9_isTale.1.cls B9_isTale.1 B9_isTale.1 ∈ lw_g := in_g (List.mem_of_getElem? (i := 65) (by decide +kernel)) rfl
def y9_cellTold0 : MethodName := ⟨"DeafWallModel", "cellTold0", "(I)I"⟩
def B9_cellTold0 : BB := (y9_cellTold0, prog_11_method_33_code, 2, (some .int), { frames := 0, cells := 0, slots := 0, locals := 0 })
theorem m9_cellTold0 : mOK B9_cellTold0 1 := ⟨by decide +kernel, in_g (List.mem_of_getElem? (i := 1393) (by decide +kernel)) (by decide +kernel), in_g (List.mem_of_getElem? (i := 126) (by decide +kernel)) rfl, by decide +kernel⟩
theorem k9_cellTold0 : Cond.instanceMethod B9_cellTold0.1 ∈ lw_g := in_g (List.mem_of_getElem? (i := 1392) (by decide +kernel)) rfl
theorem e9_cellTold0 : Cond.selects B9_cellTold0.1.cls B9_cellTold0.1 B9_cellTold0.1 ∈ lw_g := in_g (List.mem_of_getElem? (i := 63) (by decide +kernel)) rfl
def y9_tenderOf : MethodName := ⟨"DeafWallModel", "tenderOf", "(I)I"⟩
def B9_tenderOf : BB := (y9_tenderOf, prog_11_method_34_code, 2, (some .int), { frames := 0, cells := 0, slots := 0, locals := 0 })
theorem m9_tenderOf : mOK B9_tenderOf 1 := ⟨by decide +kernel, in_g (List.mem_of_getElem? (i := 1397) (by decide +kernel)) (by decide +kernel), in_g (List.mem_of_getElem? (i := 126) (by decide +kernel)) rfl, by decide +kernel⟩
theorem k9_tenderOf : Cond.instanceMethod B9_tenderOf.1 ∈ lw_g := in_g (List.mem_of_getElem? (i := 1396) (by decide +kernel)) rfl
theorem e9_tenderOf : Cond.selects B9_tenderOf.1.cls B9_tenderOf.1 B9_tenderOf.1 ∈ lw_g := in_g (List.mem_of_getElem? (i := 64) (by decide +kernel)) rfl
def y9_longOf : MethodName := ⟨"DeafWallModel", "longOf", "(I)I"⟩
def B9_longOf : BB := (y9_longOf, prog_11_method_35_code, 2, (some .int), { frames := 0, cells := 0, slots := 0, locals := 0 })
theorem m9_longOf : mOK B9_longOf 1 := ⟨by decide +kernel, in_g (List.mem_of_getElem? (i := 1405) (by decide +kernel)) (by decide +kernel), in_g (List.mem_of_getElem? (i := 126) (by decide +kernel)) rfl, by decide +kernel⟩
theorem k9_longOf : Cond.instanceMethod B9_longOf.1 ∈ lw_g := in_g (List.mem_of_getElem? (i := 1404) (by decide +kernel)) rfl
theorem e9_longOf : Cond.selects B9_longOf.1.cls B9_longOf.1 B9_longOf.1 ∈ lw_g := in_g (List.mem_of_getElem? (i := 66) (by decide +kernel)) rfl
def y9_markOf : MethodName := ⟨"DeafWallModel", "markOf", "(II)I"⟩
def B9_markOf : BB := (y9_markOf, prog_11_method_36_code, 3, (some .int), { frames := 0, cells := 0, slots := 0, locals := 0 })
theorem m9_markOf : mOK B9_markOf 2 := ⟨by decide +kernel, in_g (List.mem_of_getElem? (i := 1448) (by decide +kernel)) (by decide +kernel), in_g (List.mem_of_getElem? (i := 126) (by decide +kernel)) rfl, by decide +kernel⟩
theorem k9_markOf : Cond.instanceMethod B9_markOf.1 ∈ lw_g := in_g (List.mem_of_getElem? (i := 1447) (by decide +kernel)) rfl
theorem e9_markOf : Cond.selects B9_markOf.1.cls B9_markOf.1 B9_markOf.1 ∈ lw_g := in_g (List.mem_of_getElem? (i := 75) (by decide +kernel)) rfl
def y9_deadTold : MethodName := ⟨"DeafWallModel", "deadTold", "(I)I"⟩
def B9_deadTold : BB := (y9_deadTold, prog_11_method_37_code, 2, (some .int), { frames := 0, cells := 0, slots := 0, locals := 0 })
theorem m9_deadTold : mOK B9_deadTold 1 := ⟨by decide +kernel, in_g (List.mem_of_getElem? (i := 1413) (by decide +kernel)) (by decide +kernel), in_g (List.mem_of_getElem? (i := 126) (by decide +kernel)) rfl, by decide +kernel⟩
theorem k9_deadTold : Cond.instanceMethod B9_deadTold.1 ∈ lw_g := in_g (List.mem_of_getElem? (i := 1412) (by decide +kernel)) rfl
theorem e9_deadTold : Cond.selects B9_deadTold.1.cls B9_deadTold.1 B9_deadTold.1 ∈ lw_g := in_g (List.mem_of_getElem? (i := 68) (by decide +kernel)) rfl
def y9_areBeside : MethodName := ⟨"DeafWallModel", "areBeside", "(II)Z"⟩
def B9_areBeside : BB := (y9_areBeside, prog_11_method_38_code, 5, (some .boolean), { frames := 0, cells := 0, slots := 0, locals := 0 })
theorem m9_areBeside : mOK B9_areBeside 2 := ⟨by decide +kernel, in_g (List.mem_of_getElem? (i := 1440) (by decide +kernel)) (by decide +kernel), in_g (List.mem_of_getElem? (i := 126) (by decide +kernel)) rfl, by decide +kernel⟩
theorem k9_areBeside : Cond.instanceMethod B9_areBeside.1 ∈ lw_g := in_g (List.mem_of_getElem? (i := 1439) (by decide +kernel)) rfl
theorem e9_areBeside : Cond.selects B9_areBeside.1.cls B9_areBeside.1 B9_areBeside.1 ∈ lw_g := in_g (List.mem_of_getElem? (i := 73) (by decide +kernel)) rfl
def y9_wall : MethodName := ⟨"DeafWallModel", "wall", "(II)I"⟩
def B9_wall : BB := (y9_wall, prog_11_method_39_code, 4, (some .int), { frames := 3, cells := 0, slots := 0, locals := 65 })
theorem m9_wall : mOK B9_wall 2 := ⟨by decide +kernel, in_g (List.mem_of_getElem? (i := 1381) (by decide +kernel)) (by decide +kernel), in_g (List.mem_of_getElem? (i := 126) (by decide +kernel)) rfl, by decide +kernel⟩
theorem k9_wall : Cond.instanceMethod B9_wall.1 ∈ lw_g := in_g (List.mem_of_getElem? (i := 1379) (by decide +kernel)) rfl
theorem e9_wall : Cond.selects B9_wall.1.cls B9_wall.1 B9_wall.1 ∈ lw_g := in_g (List.mem_of_getElem? (i := 1380) (by decide +kernel)) rfl
def y9_begins : MethodName := ⟨"DeafWallModel", "begins", "()V"⟩
def B9_begins : BB := (y9_begins, prog_11_method_40_code, 2, none, { frames := 1, cells := 0, slots := 0, locals := 21 })
theorem m9_begins : mOK B9_begins 0 := ⟨by decide +kernel, in_g (List.mem_of_getElem? (i := 1428) (by decide +kernel)) (by decide +kernel), in_g (List.mem_of_getElem? (i := 126) (by decide +kernel)) rfl, by decide +kernel⟩
theorem k9_begins : Cond.instanceMethod B9_begins.1 ∈ lw_g := in_g (List.mem_of_getElem? (i := 1427) (by decide +kernel)) rfl
theorem e9_begins : Cond.selects B9_begins.1.cls B9_begins.1 B9_begins.1 ∈ lw_g := in_g (List.mem_of_getElem? (i := 70) (by decide +kernel)) rfl
def y9_comes : MethodName := ⟨"DeafWallModel", "comes", "(I)I"⟩
def B9_comes : BB := (y9_comes, prog_11_method_41_code, 4, (some .int), { frames := 1, cells := 0, slots := 0, locals := 24 })
theorem m9_comes : mOK B9_comes 1 := ⟨by decide +kernel, in_g (List.mem_of_getElem? (i := 1436) (by decide +kernel)) (by decide +kernel), in_g (List.mem_of_getElem? (i := 126) (by decide +kernel)) rfl, by decide +kernel⟩
theorem k9_comes : Cond.instanceMethod B9_comes.1 ∈ lw_g := in_g (List.mem_of_getElem? (i := 1435) (by decide +kernel)) rfl
theorem e9_comes : Cond.selects B9_comes.1.cls B9_comes.1 B9_comes.1 ∈ lw_g := in_g (List.mem_of_getElem? (i := 72) (by decide +kernel)) rfl
def y9_isToldNow : MethodName := ⟨"DeafWallModel", "isToldNow", "(II)Z"⟩
def B9_isToldNow : BB := (y9_isToldNow, prog_11_method_42_code, 5, (some .boolean), { frames := 1, cells := 0, slots := 0, locals := 22 })
theorem m9_isToldNow : mOK B9_isToldNow 2 := ⟨by decide +kernel, in_g (List.mem_of_getElem? (i := 1444) (by decide +kernel)) (by decide +kernel), in_g (List.mem_of_getElem? (i := 126) (by decide +kernel)) rfl, by decide +kernel⟩
theorem k9_isToldNow : Cond.instanceMethod B9_isToldNow.1 ∈ lw_g := in_g (List.mem_of_getElem? (i := 1443) (by decide +kernel)) rfl
theorem e9_isToldNow : Cond.selects B9_isToldNow.1.cls B9_isToldNow.1 B9_isToldNow.1 ∈ lw_g := in_g (List.mem_of_getElem? (i := 74) (by decide +kernel)) rfl
def y9_beat : MethodName := ⟨"DeafWallModel", "beat", "(I)V"⟩
def B9_beat : BB := (y9_beat, prog_11_method_43_code, 5, none, { frames := 2, cells := 0, slots := 0, locals := 47 })
theorem m9_beat : mOK B9_beat 1 := ⟨by decide +kernel, in_g (List.mem_of_getElem? (i := 1432) (by decide +kernel)) (by decide +kernel), in_g (List.mem_of_getElem? (i := 126) (by decide +kernel)) rfl, by decide +kernel⟩
theorem k9_beat : Cond.instanceMethod B9_beat.1 ∈ lw_g := in_g (List.mem_of_getElem? (i := 1431) (by decide +kernel)) rfl
theorem e9_beat : Cond.selects B9_beat.1.cls B9_beat.1 B9_beat.1 ∈ lw_g := in_g (List.mem_of_getElem? (i := 71) (by decide +kernel)) rfl
def y9_bitsOf : MethodName := ⟨"DeafWallModel", "bitsOf", "(I)I"⟩
def B9_bitsOf : BB := (y9_bitsOf, prog_11_method_44_code, 3, (some .int), { frames := 0, cells := 0, slots := 0, locals := 0 })
theorem m9_bitsOf : mOK B9_bitsOf 1 := ⟨by decide +kernel, in_g (List.mem_of_getElem? (i := 1479) (by decide +kernel)) (by decide +kernel), in_g (List.mem_of_getElem? (i := 126) (by decide +kernel)) rfl, by decide +kernel⟩
theorem k9_bitsOf : Cond.static B9_bitsOf.1 ∈ lw_g := in_g (List.mem_of_getElem? (i := 1478) (by decide +kernel)) rfl
def y9_couplesTold : MethodName := ⟨"DeafWallModel", "couplesTold", "()I"⟩
def B9_couplesTold : BB := (y9_couplesTold, prog_11_method_45_code, 3, (some .int), { frames := 1, cells := 0, slots := 0, locals := 22 })
theorem m9_couplesTold : mOK B9_couplesTold 0 := ⟨by decide +kernel, in_g (List.mem_of_getElem? (i := 1476) (by decide +kernel)) (by decide +kernel), in_g (List.mem_of_getElem? (i := 126) (by decide +kernel)) rfl, by decide +kernel⟩
theorem k9_couplesTold : Cond.instanceMethod B9_couplesTold.1 ∈ lw_g := in_g (List.mem_of_getElem? (i := 1475) (by decide +kernel)) rfl
theorem e9_couplesTold : Cond.selects B9_couplesTold.1.cls B9_couplesTold.1 B9_couplesTold.1 ∈ lw_g := in_g (List.mem_of_getElem? (i := 79) (by decide +kernel)) rfl
def y9_playsTune : MethodName := ⟨"DeafWallModel", "playsTune", "(II)V"⟩
def B9_playsTune : BB := (y9_playsTune, prog_11_method_46_code, 4, none, { frames := 3, cells := 0, slots := 0, locals := 71 })
theorem m9_playsTune : mOK B9_playsTune 2 := ⟨by decide +kernel, in_g (List.mem_of_getElem? (i := 1424) (by decide +kernel)) (by decide +kernel), in_g (List.mem_of_getElem? (i := 126) (by decide +kernel)) rfl, by decide +kernel⟩
theorem k9_playsTune : Cond.instanceMethod B9_playsTune.1 ∈ lw_g := in_g (List.mem_of_getElem? (i := 1423) (by decide +kernel)) rfl
theorem e9_playsTune : Cond.selects B9_playsTune.1.cls B9_playsTune.1 B9_playsTune.1 ∈ lw_g := in_g (List.mem_of_getElem? (i := 69) (by decide +kernel)) rfl
def y9_isTune : MethodName := ⟨"DeafWallModel", "isTune", "(II)Z"⟩
def B9_isTune : BB := (y9_isTune, prog_11_method_47_code, 2, (some .boolean), { frames := 1, cells := 0, slots := 0, locals := 22 })
theorem m9_isTune : mOK B9_isTune 2 := ⟨by decide +kernel, in_g (List.mem_of_getElem? (i := 1420) (by decide +kernel)) (by decide +kernel), in_g (List.mem_of_getElem? (i := 126) (by decide +kernel)) rfl, by decide +kernel⟩
theorem k9_isTune : Cond.static B9_isTune.1 ∈ lw_g := in_g (List.mem_of_getElem? (i := 1419) (by decide +kernel)) rfl
def y9_tune : MethodName := ⟨"DeafWallModel", "tune", "(IIII)I"⟩
def B9_tune : BB := (y9_tune, prog_11_method_48_code, 5, (some .int), { frames := 4, cells := 0, slots := 0, locals := 94 })
theorem m9_tune : mOK B9_tune 4 := ⟨by decide +kernel, in_g (List.mem_of_getElem? (i := 1417) (by decide +kernel)) (by decide +kernel), in_g (List.mem_of_getElem? (i := 126) (by decide +kernel)) rfl, by decide +kernel⟩
theorem k9_tune : Cond.instanceMethod B9_tune.1 ∈ lw_g := in_g (List.mem_of_getElem? (i := 1415) (by decide +kernel)) rfl
theorem e9_tune : Cond.selects B9_tune.1.cls B9_tune.1 B9_tune.1 ∈ lw_g := in_g (List.mem_of_getElem? (i := 1416) (by decide +kernel)) rfl
def y9_pushes : MethodName := ⟨"DeafWallModel", "pushes", "(I)V"⟩
def B9_pushes : BB := (y9_pushes, prog_11_method_49_code, 2, none, { frames := 3, cells := 0, slots := 0, locals := 71 })
theorem m9_pushes : mOK B9_pushes 1 := ⟨by decide +kernel, in_g (List.mem_of_getElem? (i := 1460) (by decide +kernel)) (by decide +kernel), in_g (List.mem_of_getElem? (i := 126) (by decide +kernel)) rfl, by decide +kernel⟩
theorem k9_pushes : Cond.instanceMethod B9_pushes.1 ∈ lw_g := in_g (List.mem_of_getElem? (i := 1459) (by decide +kernel)) rfl
theorem e9_pushes : Cond.selects B9_pushes.1.cls B9_pushes.1 B9_pushes.1 ∈ lw_g := in_g (List.mem_of_getElem? (i := 77) (by decide +kernel)) rfl
def y9_firstFelt : MethodName := ⟨"DeafWallModel", "firstFelt", "(I)I"⟩
def B9_firstFelt : BB := (y9_firstFelt, prog_11_method_50_code, 3, (some .int), { frames := 0, cells := 0, slots := 0, locals := 0 })
theorem m9_firstFelt : mOK B9_firstFelt 1 := ⟨by decide +kernel, in_g (List.mem_of_getElem? (i := 1464) (by decide +kernel)) (by decide +kernel), in_g (List.mem_of_getElem? (i := 126) (by decide +kernel)) rfl, by decide +kernel⟩
theorem k9_firstFelt : Cond.instanceMethod B9_firstFelt.1 ∈ lw_g := in_g (List.mem_of_getElem? (i := 1463) (by decide +kernel)) rfl
theorem e9_firstFelt : Cond.selects B9_firstFelt.1.cls B9_firstFelt.1 B9_firstFelt.1 ∈ lw_g := in_g (List.mem_of_getElem? (i := 78) (by decide +kernel)) rfl
def y9_reachOf : MethodName := ⟨"DeafWallModel", "reachOf", "(I)I"⟩
def B9_reachOf : BB := (y9_reachOf, prog_11_method_51_code, 3, (some .int), { frames := 4, cells := 0, slots := 0, locals := 92 })
theorem m9_reachOf : mOK B9_reachOf 1 := ⟨by decide +kernel, in_g (List.mem_of_getElem? (i := 1456) (by decide +kernel)) (by decide +kernel), in_g (List.mem_of_getElem? (i := 126) (by decide +kernel)) rfl, by decide +kernel⟩
theorem k9_reachOf : Cond.instanceMethod B9_reachOf.1 ∈ lw_g := in_g (List.mem_of_getElem? (i := 1455) (by decide +kernel)) rfl
theorem e9_reachOf : Cond.selects B9_reachOf.1.cls B9_reachOf.1 B9_reachOf.1 ∈ lw_g := in_g (List.mem_of_getElem? (i := 76) (by decide +kernel)) rfl
def y9_reach : MethodName := ⟨"DeafWallModel", "reach", "(IIZ)I"⟩
def B9_reach : BB := (y9_reach, prog_11_method_52_code, 5, (some .int), { frames := 5, cells := 0, slots := 0, locals := 114 })
theorem m9_reach : mOK B9_reach 3 := ⟨by decide +kernel, in_g (List.mem_of_getElem? (i := 1452) (by decide +kernel)) (by decide +kernel), in_g (List.mem_of_getElem? (i := 126) (by decide +kernel)) rfl, by decide +kernel⟩
theorem k9_reach : Cond.instanceMethod B9_reach.1 ∈ lw_g := in_g (List.mem_of_getElem? (i := 1450) (by decide +kernel)) rfl
theorem e9_reach : Cond.selects B9_reach.1.cls B9_reach.1 B9_reach.1 ∈ lw_g := in_g (List.mem_of_getElem? (i := 1451) (by decide +kernel)) rfl
def y9_play : MethodName := ⟨"DeafWallModel", "play", "(IIIZ)I"⟩
def B9_play : BB := (y9_play, prog_11_method_53_code, 7, (some .int), { frames := 4, cells := 0, slots := 0, locals := 94 })
theorem m9_play : mOK B9_play 4 := ⟨by decide +kernel, in_g (List.mem_of_getElem? (i := 1468) (by decide +kernel)) (by decide +kernel), in_g (List.mem_of_getElem? (i := 126) (by decide +kernel)) rfl, by decide +kernel⟩
theorem k9_play : Cond.instanceMethod B9_play.1 ∈ lw_g := in_g (List.mem_of_getElem? (i := 1466) (by decide +kernel)) rfl
theorem e9_play : Cond.selects B9_play.1.cls B9_play.1 B9_play.1 ∈ lw_g := in_g (List.mem_of_getElem? (i := 1467) (by decide +kernel)) rfl
def y9_most : MethodName := ⟨"DeafWallModel", "most", "(IIZ)I"⟩
def B9_most : BB := (y9_most, prog_11_method_54_code, 7, (some .int), { frames := 4, cells := 0, slots := 0, locals := 94 })
theorem m9_most : mOK B9_most 3 := ⟨by decide +kernel, in_g (List.mem_of_getElem? (i := 1472) (by decide +kernel)) (by decide +kernel), in_g (List.mem_of_getElem? (i := 126) (by decide +kernel)) rfl, by decide +kernel⟩
theorem k9_most : Cond.instanceMethod B9_most.1 ∈ lw_g := in_g (List.mem_of_getElem? (i := 1470) (by decide +kernel)) rfl
theorem e9_most : Cond.selects B9_most.1.cls B9_most.1 B9_most.1 ∈ lw_g := in_g (List.mem_of_getElem? (i := 1471) (by decide +kernel)) rfl
def y9_feltTogether : MethodName := ⟨"DeafWallModel", "feltTogether", "()I"⟩
def B9_feltTogether : BB := (y9_feltTogether, prog_11_method_55_code, 3, (some .int), { frames := 0, cells := 0, slots := 0, locals := 0 })
theorem m9_feltTogether : mOK B9_feltTogether 0 := ⟨by decide +kernel, in_g (List.mem_of_getElem? (i := 1487) (by decide +kernel)) (by decide +kernel), in_g (List.mem_of_getElem? (i := 126) (by decide +kernel)) rfl, by decide +kernel⟩
theorem k9_feltTogether : Cond.instanceMethod B9_feltTogether.1 ∈ lw_g := in_g (List.mem_of_getElem? (i := 1486) (by decide +kernel)) rfl
theorem e9_feltTogether : Cond.selects B9_feltTogether.1.cls B9_feltTogether.1 B9_feltTogether.1 ∈ lw_g := in_g (List.mem_of_getElem? (i := 80) (by decide +kernel)) rfl
def y9_loud : MethodName := ⟨"DeafWallModel", "loud", "(IIZ)I"⟩
def B9_loud : BB := (y9_loud, prog_11_method_56_code, 7, (some .int), { frames := 4, cells := 0, slots := 0, locals := 94 })
theorem m9_loud : mOK B9_loud 3 := ⟨by decide +kernel, in_g (List.mem_of_getElem? (i := 1483) (by decide +kernel)) (by decide +kernel), in_g (List.mem_of_getElem? (i := 126) (by decide +kernel)) rfl, by decide +kernel⟩
theorem k9_loud : Cond.instanceMethod B9_loud.1 ∈ lw_g := in_g (List.mem_of_getElem? (i := 1481) (by decide +kernel)) rfl
theorem e9_loud : Cond.selects B9_loud.1.cls B9_loud.1 B9_loud.1 ∈ lw_g := in_g (List.mem_of_getElem? (i := 1482) (by decide +kernel)) rfl
def y9_apart : MethodName := ⟨"DeafWallModel", "apart", "(IIII)I"⟩
def B9_apart : BB := (y9_apart, prog_11_method_57_code, 9, (some .int), { frames := 4, cells := 0, slots := 0, locals := 94 })
theorem m9_apart : mOK B9_apart 4 := ⟨by decide +kernel, in_g (List.mem_of_getElem? (i := 1491) (by decide +kernel)) (by decide +kernel), in_g (List.mem_of_getElem? (i := 126) (by decide +kernel)) rfl, by decide +kernel⟩
theorem k9_apart : Cond.instanceMethod B9_apart.1 ∈ lw_g := in_g (List.mem_of_getElem? (i := 1489) (by decide +kernel)) rfl
theorem e9_apart : Cond.selects B9_apart.1.cls B9_apart.1 B9_apart.1 ∈ lw_g := in_g (List.mem_of_getElem? (i := 1490) (by decide +kernel)) rfl
def y9_hold : MethodName := ⟨"DeafWallModel", "hold", "(IIII)I"⟩
def B9_hold : BB := (y9_hold, prog_11_method_58_code, 8, (some .int), { frames := 3, cells := 0, slots := 0, locals := 71 })
theorem m9_hold : mOK B9_hold 4 := ⟨by decide +kernel, in_g (List.mem_of_getElem? (i := 1495) (by decide +kernel)) (by decide +kernel), in_g (List.mem_of_getElem? (i := 126) (by decide +kernel)) rfl, by decide +kernel⟩
theorem k9_hold : Cond.instanceMethod B9_hold.1 ∈ lw_g := in_g (List.mem_of_getElem? (i := 1493) (by decide +kernel)) rfl
theorem e9_hold : Cond.selects B9_hold.1.cls B9_hold.1 B9_hold.1 ∈ lw_g := in_g (List.mem_of_getElem? (i := 1494) (by decide +kernel)) rfl
def y9_duetBy : MethodName := ⟨"DeafWallModel", "duetBy", "(IIII)I"⟩
def B9_duetBy : BB := (y9_duetBy, prog_11_method_59_code, 6, (some .int), { frames := 3, cells := 0, slots := 0, locals := 71 })
theorem m9_duetBy : mOK B9_duetBy 4 := ⟨by decide +kernel, in_g (List.mem_of_getElem? (i := 1503) (by decide +kernel)) (by decide +kernel), in_g (List.mem_of_getElem? (i := 126) (by decide +kernel)) rfl, by decide +kernel⟩
theorem k9_duetBy : Cond.instanceMethod B9_duetBy.1 ∈ lw_g := in_g (List.mem_of_getElem? (i := 1502) (by decide +kernel)) rfl
theorem e9_duetBy : Cond.selects B9_duetBy.1.cls B9_duetBy.1 B9_duetBy.1 ∈ lw_g := in_g (List.mem_of_getElem? (i := 81) (by decide +kernel)) rfl
def y9_duet : MethodName := ⟨"DeafWallModel", "duet", "(IIIIZ)I"⟩
def B9_duet : BB := (y9_duet, prog_11_method_60_code, 12, (some .int), { frames := 4, cells := 0, slots := 0, locals := 96 })
theorem m9_duet : mOK B9_duet 5 := ⟨by decide +kernel, in_g (List.mem_of_getElem? (i := 1499) (by decide +kernel)) (by decide +kernel), in_g (List.mem_of_getElem? (i := 126) (by decide +kernel)) rfl, by decide +kernel⟩
theorem k9_duet : Cond.instanceMethod B9_duet.1 ∈ lw_g := in_g (List.mem_of_getElem? (i := 1497) (by decide +kernel)) rfl
theorem e9_duet : Cond.selects B9_duet.1.cls B9_duet.1 B9_duet.1 ∈ lw_g := in_g (List.mem_of_getElem? (i := 1498) (by decide +kernel)) rfl
def y9_common : MethodName := ⟨"DeafWallModel", "common", "(JJ)J"⟩
def B9_common : BB := (y9_common, prog_11_method_61_code, 10, (some .long), { frames := 0, cells := 0, slots := 0, locals := 0 })
theorem m9_common : mOK B9_common 2 := ⟨by decide +kernel, in_g (List.mem_of_getElem? (i := 1515) (by decide +kernel)) (by decide +kernel), in_g (List.mem_of_getElem? (i := 126) (by decide +kernel)) rfl, by decide +kernel⟩
theorem k9_common : Cond.static B9_common.1 ∈ lw_g := in_g (List.mem_of_getElem? (i := 1514) (by decide +kernel)) rfl
def y9_parted : MethodName := ⟨"DeafWallModel", "parted", "(JJZ)J"⟩
def B9_parted : BB := (y9_parted, prog_11_method_62_code, 5, (some .long), { frames := 1, cells := 0, slots := 0, locals := 29 })
theorem m9_parted : mOK B9_parted 3 := ⟨by decide +kernel, in_g (List.mem_of_getElem? (i := 1512) (by decide +kernel)) (by decide +kernel), in_g (List.mem_of_getElem? (i := 126) (by decide +kernel)) rfl, by decide +kernel⟩
theorem k9_parted : Cond.static B9_parted.1 ∈ lw_g := in_g (List.mem_of_getElem? (i := 1511) (by decide +kernel)) rfl
def y9_arm : MethodName := ⟨"DeafWallModel", "arm", "(IIIIZ)J"⟩
def B9_arm : BB := (y9_arm, prog_11_method_63_code, 12, (some .long), { frames := 5, cells := 0, slots := 0, locals := 114 })
theorem m9_arm : mOK B9_arm 5 := ⟨by decide +kernel, in_g (List.mem_of_getElem? (i := 1507) (by decide +kernel)) (by decide +kernel), in_g (List.mem_of_getElem? (i := 126) (by decide +kernel)) rfl, by decide +kernel⟩
theorem k9_arm : Cond.instanceMethod B9_arm.1 ∈ lw_g := in_g (List.mem_of_getElem? (i := 1505) (by decide +kernel)) rfl
theorem e9_arm : Cond.selects B9_arm.1.cls B9_arm.1 B9_arm.1 ∈ lw_g := in_g (List.mem_of_getElem? (i := 1506) (by decide +kernel)) rfl
def y9_areMarks : MethodName := ⟨"DeafWallModel", "areMarks", "(III)Z"⟩
def B9_areMarks : BB := (y9_areMarks, prog_11_method_64_code, 6, (some .boolean), { frames := 1, cells := 0, slots := 0, locals := 22 })
theorem m9_areMarks : mOK B9_areMarks 3 := ⟨by decide +kernel, in_g (List.mem_of_getElem? (i := 1524) (by decide +kernel)) (by decide +kernel), in_g (List.mem_of_getElem? (i := 126) (by decide +kernel)) rfl, by decide +kernel⟩
theorem k9_areMarks : Cond.instanceMethod B9_areMarks.1 ∈ lw_g := in_g (List.mem_of_getElem? (i := 1523) (by decide +kernel)) rfl
theorem e9_areMarks : Cond.selects B9_areMarks.1.cls B9_areMarks.1 B9_areMarks.1 ∈ lw_g := in_g (List.mem_of_getElem? (i := 82) (by decide +kernel)) rfl
def y9_leftOf : MethodName := ⟨"DeafWallModel", "leftOf", "(II)I"⟩
def B9_leftOf : BB := (y9_leftOf, prog_11_method_65_code, 3, (some .int), { frames := 1, cells := 0, slots := 0, locals := 21 })
theorem m9_leftOf : mOK B9_leftOf 2 := ⟨by decide +kernel, in_g (List.mem_of_getElem? (i := 1528) (by decide +kernel)) (by decide +kernel), in_g (List.mem_of_getElem? (i := 126) (by decide +kernel)) rfl, by decide +kernel⟩
theorem k9_leftOf : Cond.instanceMethod B9_leftOf.1 ∈ lw_g := in_g (List.mem_of_getElem? (i := 1527) (by decide +kernel)) rfl
theorem e9_leftOf : Cond.selects B9_leftOf.1.cls B9_leftOf.1 B9_leftOf.1 ∈ lw_g := in_g (List.mem_of_getElem? (i := 83) (by decide +kernel)) rfl
def y9_lays : MethodName := ⟨"DeafWallModel", "lays", "(II)Z"⟩
def B9_lays : BB := (y9_lays, prog_11_method_66_code, 3, (some .boolean), { frames := 0, cells := 0, slots := 0, locals := 0 })
theorem m9_lays : mOK B9_lays 2 := ⟨by decide +kernel, in_g (List.mem_of_getElem? (i := 1532) (by decide +kernel)) (by decide +kernel), in_g (List.mem_of_getElem? (i := 126) (by decide +kernel)) rfl, by decide +kernel⟩
theorem k9_lays : Cond.instanceMethod B9_lays.1 ∈ lw_g := in_g (List.mem_of_getElem? (i := 1531) (by decide +kernel)) rfl
theorem e9_lays : Cond.selects B9_lays.1.cls B9_lays.1 B9_lays.1 ∈ lw_g := in_g (List.mem_of_getElem? (i := 84) (by decide +kernel)) rfl
def y9_goesOnBy : MethodName := ⟨"DeafWallModel", "goesOnBy", "(II)Z"⟩
def B9_goesOnBy : BB := (y9_goesOnBy, prog_11_method_67_code, 5, (some .boolean), { frames := 2, cells := 0, slots := 0, locals := 47 })
theorem m9_goesOnBy : mOK B9_goesOnBy 2 := ⟨by decide +kernel, in_g (List.mem_of_getElem? (i := 1536) (by decide +kernel)) (by decide +kernel), in_g (List.mem_of_getElem? (i := 126) (by decide +kernel)) rfl, by decide +kernel⟩
theorem k9_goesOnBy : Cond.instanceMethod B9_goesOnBy.1 ∈ lw_g := in_g (List.mem_of_getElem? (i := 1535) (by decide +kernel)) rfl
theorem e9_goesOnBy : Cond.selects B9_goesOnBy.1.cls B9_goesOnBy.1 B9_goesOnBy.1 ∈ lw_g := in_g (List.mem_of_getElem? (i := 85) (by decide +kernel)) rfl
def y9_code : MethodName := ⟨"DeafWallModel", "code", "(I)I"⟩
def B9_code : BB := (y9_code, prog_11_method_68_code, 5, (some .int), { frames := 3, cells := 0, slots := 0, locals := 71 })
theorem m9_code : mOK B9_code 1 := ⟨by decide +kernel, in_g (List.mem_of_getElem? (i := 1519) (by decide +kernel)) (by decide +kernel), in_g (List.mem_of_getElem? (i := 126) (by decide +kernel)) rfl, by decide +kernel⟩
theorem k9_code : Cond.instanceMethod B9_code.1 ∈ lw_g := in_g (List.mem_of_getElem? (i := 1517) (by decide +kernel)) rfl
theorem e9_code : Cond.selects B9_code.1.cls B9_code.1 B9_code.1 ∈ lw_g := in_g (List.mem_of_getElem? (i := 1518) (by decide +kernel)) rfl
def y9_ways : MethodName := ⟨"DeafWallModel", "ways", "(II)J"⟩
def B9_ways : BB := (y9_ways, prog_11_method_69_code, 5, (some .long), { frames := 3, cells := 0, slots := 0, locals := 65 })
theorem m9_ways : mOK B9_ways 2 := ⟨by decide +kernel, in_g (List.mem_of_getElem? (i := 1540) (by decide +kernel)) (by decide +kernel), in_g (List.mem_of_getElem? (i := 126) (by decide +kernel)) rfl, by decide +kernel⟩
theorem k9_ways : Cond.instanceMethod B9_ways.1 ∈ lw_g := in_g (List.mem_of_getElem? (i := 1538) (by decide +kernel)) rfl
theorem e9_ways : Cond.selects B9_ways.1.cls B9_ways.1 B9_ways.1 ∈ lw_g := in_g (List.mem_of_getElem? (i := 1539) (by decide +kernel)) rfl
def y9_alikeFrom : MethodName := ⟨"DeafWallModel", "alikeFrom", "(IIII)I"⟩
def B9_alikeFrom : BB := (y9_alikeFrom, prog_11_method_70_code, 6, (some .int), { frames := 1, cells := 0, slots := 0, locals := 22 })
theorem m9_alikeFrom : mOK B9_alikeFrom 4 := ⟨by decide +kernel, in_g (List.mem_of_getElem? (i := 1552) (by decide +kernel)) (by decide +kernel), in_g (List.mem_of_getElem? (i := 126) (by decide +kernel)) rfl, by decide +kernel⟩
theorem k9_alikeFrom : Cond.instanceMethod B9_alikeFrom.1 ∈ lw_g := in_g (List.mem_of_getElem? (i := 1551) (by decide +kernel)) rfl
theorem e9_alikeFrom : Cond.selects B9_alikeFrom.1.cls B9_alikeFrom.1 B9_alikeFrom.1 ∈ lw_g := in_g (List.mem_of_getElem? (i := 87) (by decide +kernel)) rfl
def y9_rhymeOf : MethodName := ⟨"DeafWallModel", "rhymeOf", "(II)I"⟩
def B9_rhymeOf : BB := (y9_rhymeOf, prog_11_method_71_code, 4, (some .int), { frames := 1, cells := 0, slots := 0, locals := 22 })
theorem m9_rhymeOf : mOK B9_rhymeOf 2 := ⟨by decide +kernel, in_g (List.mem_of_getElem? (i := 1548) (by decide +kernel)) (by decide +kernel), in_g (List.mem_of_getElem? (i := 126) (by decide +kernel)) rfl, by decide +kernel⟩
theorem k9_rhymeOf : Cond.instanceMethod B9_rhymeOf.1 ∈ lw_g := in_g (List.mem_of_getElem? (i := 1547) (by decide +kernel)) rfl
theorem e9_rhymeOf : Cond.selects B9_rhymeOf.1.cls B9_rhymeOf.1 B9_rhymeOf.1 ∈ lw_g := in_g (List.mem_of_getElem? (i := 86) (by decide +kernel)) rfl
def y9_echoOf : MethodName := ⟨"DeafWallModel", "echoOf", "(II)I"⟩
def B9_echoOf : BB := (y9_echoOf, prog_11_method_72_code, 6, (some .int), { frames := 2, cells := 0, slots := 0, locals := 47 })
theorem m9_echoOf : mOK B9_echoOf 2 := ⟨by decide +kernel, in_g (List.mem_of_getElem? (i := 1560) (by decide +kernel)) (by decide +kernel), in_g (List.mem_of_getElem? (i := 126) (by decide +kernel)) rfl, by decide +kernel⟩
theorem k9_echoOf : Cond.instanceMethod B9_echoOf.1 ∈ lw_g := in_g (List.mem_of_getElem? (i := 1559) (by decide +kernel)) rfl
theorem e9_echoOf : Cond.selects B9_echoOf.1.cls B9_echoOf.1 B9_echoOf.1 ∈ lw_g := in_g (List.mem_of_getElem? (i := 89) (by decide +kernel)) rfl
def y9_isWithin : MethodName := ⟨"DeafWallModel", "isWithin", "(II)Z"⟩
def B9_isWithin : BB := (y9_isWithin, prog_11_method_73_code, 4, (some .boolean), { frames := 2, cells := 0, slots := 0, locals := 47 })
theorem m9_isWithin : mOK B9_isWithin 2 := ⟨by decide +kernel, in_g (List.mem_of_getElem? (i := 1556) (by decide +kernel)) (by decide +kernel), in_g (List.mem_of_getElem? (i := 126) (by decide +kernel)) rfl, by decide +kernel⟩
theorem k9_isWithin : Cond.instanceMethod B9_isWithin.1 ∈ lw_g := in_g (List.mem_of_getElem? (i := 1555) (by decide +kernel)) rfl
theorem e9_isWithin : Cond.selects B9_isWithin.1.cls B9_isWithin.1 B9_isWithin.1 ∈ lw_g := in_g (List.mem_of_getElem? (i := 88) (by decide +kernel)) rfl
def y9_isTurned : MethodName := ⟨"DeafWallModel", "isTurned", "(II)Z"⟩
def B9_isTurned : BB := (y9_isTurned, prog_11_method_74_code, 5, (some .boolean), { frames := 1, cells := 0, slots := 0, locals := 22 })
theorem m9_isTurned : mOK B9_isTurned 2 := ⟨by decide +kernel, in_g (List.mem_of_getElem? (i := 1564) (by decide +kernel)) (by decide +kernel), in_g (List.mem_of_getElem? (i := 126) (by decide +kernel)) rfl, by decide +kernel⟩
theorem k9_isTurned : Cond.instanceMethod B9_isTurned.1 ∈ lw_g := in_g (List.mem_of_getElem? (i := 1563) (by decide +kernel)) rfl
theorem e9_isTurned : Cond.selects B9_isTurned.1.cls B9_isTurned.1 B9_isTurned.1 ∈ lw_g := in_g (List.mem_of_getElem? (i := 90) (by decide +kernel)) rfl
def y9_rhyme : MethodName := ⟨"DeafWallModel", "rhyme", "(IIII)I"⟩
def B9_rhyme : BB := (y9_rhyme, prog_11_method_75_code, 5, (some .int), { frames := 3, cells := 0, slots := 0, locals := 72 })
theorem m9_rhyme : mOK B9_rhyme 4 := ⟨by decide +kernel, in_g (List.mem_of_getElem? (i := 1544) (by decide +kernel)) (by decide +kernel), in_g (List.mem_of_getElem? (i := 126) (by decide +kernel)) rfl, by decide +kernel⟩
theorem k9_rhyme : Cond.instanceMethod B9_rhyme.1 ∈ lw_g := in_g (List.mem_of_getElem? (i := 1542) (by decide +kernel)) rfl
theorem e9_rhyme : Cond.selects B9_rhyme.1.cls B9_rhyme.1 B9_rhyme.1 ∈ lw_g := in_g (List.mem_of_getElem? (i := 1543) (by decide +kernel)) rfl
def y9_stepsInto : MethodName := ⟨"DeafWallModel", "stepsInto", "(III)Z"⟩
def B9_stepsInto : BB := (y9_stepsInto, prog_11_method_77_code, 7, (some .boolean), { frames := 0, cells := 0, slots := 0, locals := 0 })
theorem m9_stepsInto : mOK B9_stepsInto 3 := ⟨by decide +kernel, in_g (List.mem_of_getElem? (i := 1580) (by decide +kernel)) (by decide +kernel), in_g (List.mem_of_getElem? (i := 126) (by decide +kernel)) rfl, by decide +kernel⟩
theorem k9_stepsInto : Cond.instanceMethod B9_stepsInto.1 ∈ lw_g := in_g (List.mem_of_getElem? (i := 1579) (by decide +kernel)) rfl
theorem e9_stepsInto : Cond.selects B9_stepsInto.1.cls B9_stepsInto.1 B9_stepsInto.1 ∈ lw_g := in_g (List.mem_of_getElem? (i := 93) (by decide +kernel)) rfl
def y9_laysLost : MethodName := ⟨"DeafWallModel", "laysLost", "(III)V"⟩
def B9_laysLost : BB := (y9_laysLost, prog_11_method_76_code, 7, none, { frames := 1, cells := 0, slots := 0, locals := 26 })
theorem m9_laysLost : mOK B9_laysLost 3 := ⟨by decide +kernel, in_g (List.mem_of_getElem? (i := 1576) (by decide +kernel)) (by decide +kernel), in_g (List.mem_of_getElem? (i := 126) (by decide +kernel)) rfl, by decide +kernel⟩
theorem k9_laysLost : Cond.instanceMethod B9_laysLost.1 ∈ lw_g := in_g (List.mem_of_getElem? (i := 1575) (by decide +kernel)) rfl
theorem e9_laysLost : Cond.selects B9_laysLost.1.cls B9_laysLost.1 B9_laysLost.1 ∈ lw_g := in_g (List.mem_of_getElem? (i := 92) (by decide +kernel)) rfl
def y9_stepsOf : MethodName := ⟨"DeafWallModel", "stepsOf", "(II)I"⟩
def B9_stepsOf : BB := (y9_stepsOf, prog_11_method_78_code, 5, (some .int), { frames := 0, cells := 0, slots := 0, locals := 0 })
theorem m9_stepsOf : mOK B9_stepsOf 2 := ⟨by decide +kernel, in_g (List.mem_of_getElem? (i := 1572) (by decide +kernel)) (by decide +kernel), in_g (List.mem_of_getElem? (i := 126) (by decide +kernel)) rfl, by decide +kernel⟩
theorem k9_stepsOf : Cond.instanceMethod B9_stepsOf.1 ∈ lw_g := in_g (List.mem_of_getElem? (i := 1571) (by decide +kernel)) rfl
theorem e9_stepsOf : Cond.selects B9_stepsOf.1.cls B9_stepsOf.1 B9_stepsOf.1 ∈ lw_g := in_g (List.mem_of_getElem? (i := 91) (by decide +kernel)) rfl
def y9_loss : MethodName := ⟨"DeafWallModel", "loss", "(IIIZ)I"⟩
def B9_loss : BB := (y9_loss, prog_11_method_79_code, 5, (some .int), { frames := 3, cells := 0, slots := 0, locals := 65 })
theorem m9_loss : mOK B9_loss 4 := ⟨by decide +kernel, in_g (List.mem_of_getElem? (i := 1568) (by decide +kernel)) (by decide +kernel), in_g (List.mem_of_getElem? (i := 126) (by decide +kernel)) rfl, by decide +kernel⟩
theorem k9_loss : Cond.instanceMethod B9_loss.1 ∈ lw_g := in_g (List.mem_of_getElem? (i := 1566) (by decide +kernel)) rfl
theorem e9_loss : Cond.selects B9_loss.1.cls B9_loss.1 B9_loss.1 ∈ lw_g := in_g (List.mem_of_getElem? (i := 1567) (by decide +kernel)) rfl
def y9_shadowOf : MethodName := ⟨"DeafWallModel", "shadowOf", "(Z)I"⟩
def B9_shadowOf : BB := (y9_shadowOf, prog_11_method_80_code, 5, (some .int), { frames := 2, cells := 0, slots := 0, locals := 52 })
theorem m9_shadowOf : mOK B9_shadowOf 1 := ⟨by decide +kernel, in_g (List.mem_of_getElem? (i := 1588) (by decide +kernel)) (by decide +kernel), in_g (List.mem_of_getElem? (i := 126) (by decide +kernel)) rfl, by decide +kernel⟩
theorem k9_shadowOf : Cond.instanceMethod B9_shadowOf.1 ∈ lw_g := in_g (List.mem_of_getElem? (i := 1587) (by decide +kernel)) rfl
theorem e9_shadowOf : Cond.selects B9_shadowOf.1.cls B9_shadowOf.1 B9_shadowOf.1 ∈ lw_g := in_g (List.mem_of_getElem? (i := 94) (by decide +kernel)) rfl
def y9_farthestOf : MethodName := ⟨"DeafWallModel", "farthestOf", "(Z)I"⟩
def B9_farthestOf : BB := (y9_farthestOf, prog_11_method_81_code, 4, (some .int), { frames := 2, cells := 0, slots := 0, locals := 52 })
theorem m9_farthestOf : mOK B9_farthestOf 1 := ⟨by decide +kernel, in_g (List.mem_of_getElem? (i := 1592) (by decide +kernel)) (by decide +kernel), in_g (List.mem_of_getElem? (i := 126) (by decide +kernel)) rfl, by decide +kernel⟩
theorem k9_farthestOf : Cond.instanceMethod B9_farthestOf.1 ∈ lw_g := in_g (List.mem_of_getElem? (i := 1591) (by decide +kernel)) rfl
theorem e9_farthestOf : Cond.selects B9_farthestOf.1.cls B9_farthestOf.1 B9_farthestOf.1 ∈ lw_g := in_g (List.mem_of_getElem? (i := 95) (by decide +kernel)) rfl
def y9_deadestOf : MethodName := ⟨"DeafWallModel", "deadestOf", "(Z)I"⟩
def B9_deadestOf : BB := (y9_deadestOf, prog_11_method_82_code, 5, (some .int), { frames := 1, cells := 0, slots := 0, locals := 21 })
theorem m9_deadestOf : mOK B9_deadestOf 1 := ⟨by decide +kernel, in_g (List.mem_of_getElem? (i := 1596) (by decide +kernel)) (by decide +kernel), in_g (List.mem_of_getElem? (i := 126) (by decide +kernel)) rfl, by decide +kernel⟩
theorem k9_deadestOf : Cond.instanceMethod B9_deadestOf.1 ∈ lw_g := in_g (List.mem_of_getElem? (i := 1595) (by decide +kernel)) rfl
theorem e9_deadestOf : Cond.selects B9_deadestOf.1.cls B9_deadestOf.1 B9_deadestOf.1 ∈ lw_g := in_g (List.mem_of_getElem? (i := 96) (by decide +kernel)) rfl
def y9_tenderestOf : MethodName := ⟨"DeafWallModel", "tenderestOf", "()I"⟩
def B9_tenderestOf : BB := (y9_tenderestOf, prog_11_method_83_code, 3, (some .int), { frames := 1, cells := 0, slots := 0, locals := 21 })
theorem m9_tenderestOf : mOK B9_tenderestOf 0 := ⟨by decide +kernel, in_g (List.mem_of_getElem? (i := 1600) (by decide +kernel)) (by decide +kernel), in_g (List.mem_of_getElem? (i := 126) (by decide +kernel)) rfl, by decide +kernel⟩
theorem k9_tenderestOf : Cond.instanceMethod B9_tenderestOf.1 ∈ lw_g := in_g (List.mem_of_getElem? (i := 1599) (by decide +kernel)) rfl
theorem e9_tenderestOf : Cond.selects B9_tenderestOf.1.cls B9_tenderestOf.1 B9_tenderestOf.1 ∈ lw_g := in_g (List.mem_of_getElem? (i := 97) (by decide +kernel)) rfl
def y9_sharingOf : MethodName := ⟨"DeafWallModel", "sharingOf", "()I"⟩
def B9_sharingOf : BB := (y9_sharingOf, prog_11_method_84_code, 4, (some .int), { frames := 1, cells := 0, slots := 0, locals := 21 })
theorem m9_sharingOf : mOK B9_sharingOf 0 := ⟨by decide +kernel, in_g (List.mem_of_getElem? (i := 1604) (by decide +kernel)) (by decide +kernel), in_g (List.mem_of_getElem? (i := 126) (by decide +kernel)) rfl, by decide +kernel⟩
theorem k9_sharingOf : Cond.instanceMethod B9_sharingOf.1 ∈ lw_g := in_g (List.mem_of_getElem? (i := 1603) (by decide +kernel)) rfl
theorem e9_sharingOf : Cond.selects B9_sharingOf.1.cls B9_sharingOf.1 B9_sharingOf.1 ∈ lw_g := in_g (List.mem_of_getElem? (i := 98) (by decide +kernel)) rfl
def y9_seamsOf : MethodName := ⟨"DeafWallModel", "seamsOf", "()I"⟩
def B9_seamsOf : BB := (y9_seamsOf, prog_11_method_85_code, 4, (some .int), { frames := 1, cells := 0, slots := 0, locals := 24 })
theorem m9_seamsOf : mOK B9_seamsOf 0 := ⟨by decide +kernel, in_g (List.mem_of_getElem? (i := 1608) (by decide +kernel)) (by decide +kernel), in_g (List.mem_of_getElem? (i := 126) (by decide +kernel)) rfl, by decide +kernel⟩
theorem k9_seamsOf : Cond.instanceMethod B9_seamsOf.1 ∈ lw_g := in_g (List.mem_of_getElem? (i := 1607) (by decide +kernel)) rfl
theorem e9_seamsOf : Cond.selects B9_seamsOf.1.cls B9_seamsOf.1 B9_seamsOf.1 ∈ lw_g := in_g (List.mem_of_getElem? (i := 99) (by decide +kernel)) rfl
def y9_shade : MethodName := ⟨"DeafWallModel", "shade", "(II)I"⟩
def B9_shade : BB := (y9_shade, prog_11_method_86_code, 3, (some .int), { frames := 3, cells := 0, slots := 0, locals := 76 })
theorem m9_shade : mOK B9_shade 2 := ⟨by decide +kernel, in_g (List.mem_of_getElem? (i := 1584) (by decide +kernel)) (by decide +kernel), in_g (List.mem_of_getElem? (i := 126) (by decide +kernel)) rfl, by decide +kernel⟩
theorem k9_shade : Cond.instanceMethod B9_shade.1 ∈ lw_g := in_g (List.mem_of_getElem? (i := 1582) (by decide +kernel)) rfl
theorem e9_shade : Cond.selects B9_shade.1.cls B9_shade.1 B9_shade.1 ∈ lw_g := in_g (List.mem_of_getElem? (i := 1583) (by decide +kernel)) rfl
def y9_reachBy : MethodName := ⟨"DeafWallModel", "reachBy", "(II)I"⟩
def B9_reachBy : BB := (y9_reachBy, prog_11_method_87_code, 4, (some .int), { frames := 1, cells := 0, slots := 0, locals := 21 })
theorem m9_reachBy : mOK B9_reachBy 2 := ⟨by decide +kernel, in_g (List.mem_of_getElem? (i := 1616) (by decide +kernel)) (by decide +kernel), in_g (List.mem_of_getElem? (i := 126) (by decide +kernel)) rfl, by decide +kernel⟩
theorem k9_reachBy : Cond.instanceMethod B9_reachBy.1 ∈ lw_g := in_g (List.mem_of_getElem? (i := 1615) (by decide +kernel)) rfl
theorem e9_reachBy : Cond.selects B9_reachBy.1.cls B9_reachBy.1 B9_reachBy.1 ∈ lw_g := in_g (List.mem_of_getElem? (i := 100) (by decide +kernel)) rfl
def y9_keys : MethodName := ⟨"DeafWallModel", "keys", "(IIZ)I"⟩
def B9_keys : BB := (y9_keys, prog_11_method_88_code, 7, (some .int), { frames := 3, cells := 0, slots := 0, locals := 65 })
theorem m9_keys : mOK B9_keys 3 := ⟨by decide +kernel, in_g (List.mem_of_getElem? (i := 1612) (by decide +kernel)) (by decide +kernel), in_g (List.mem_of_getElem? (i := 126) (by decide +kernel)) rfl, by decide +kernel⟩
theorem k9_keys : Cond.instanceMethod B9_keys.1 ∈ lw_g := in_g (List.mem_of_getElem? (i := 1610) (by decide +kernel)) rfl
theorem e9_keys : Cond.selects B9_keys.1.cls B9_keys.1 B9_keys.1 ∈ lw_g := in_g (List.mem_of_getElem? (i := 1611) (by decide +kernel)) rfl
def y9_dried : MethodName := ⟨"DeafWallModel", "dried", "(III)I"⟩
def B9_dried : BB := (y9_dried, prog_11_method_89_code, 4, (some .int), { frames := 3, cells := 0, slots := 0, locals := 65 })
theorem m9_dried : mOK B9_dried 3 := ⟨by decide +kernel, in_g (List.mem_of_getElem? (i := 1620) (by decide +kernel)) (by decide +kernel), in_g (List.mem_of_getElem? (i := 126) (by decide +kernel)) rfl, by decide +kernel⟩
theorem k9_dried : Cond.instanceMethod B9_dried.1 ∈ lw_g := in_g (List.mem_of_getElem? (i := 1618) (by decide +kernel)) rfl
theorem e9_dried : Cond.selects B9_dried.1.cls B9_dried.1 B9_dried.1 ∈ lw_g := in_g (List.mem_of_getElem? (i := 1619) (by decide +kernel)) rfl
def y9_isDay : MethodName := ⟨"DeafWallModel", "isDay", "(I)Z"⟩
def B9_isDay : BB := (y9_isDay, prog_11_method_90_code, 2, (some .boolean), { frames := 2, cells := 0, slots := 0, locals := 44 })
theorem m9_isDay : mOK B9_isDay 1 := ⟨by decide +kernel, in_g (List.mem_of_getElem? (i := 1628) (by decide +kernel)) (by decide +kernel), in_g (List.mem_of_getElem? (i := 126) (by decide +kernel)) rfl, by decide +kernel⟩
theorem k9_isDay : Cond.instanceMethod B9_isDay.1 ∈ lw_g := in_g (List.mem_of_getElem? (i := 1627) (by decide +kernel)) rfl
theorem e9_isDay : Cond.selects B9_isDay.1.cls B9_isDay.1 B9_isDay.1 ∈ lw_g := in_g (List.mem_of_getElem? (i := 101) (by decide +kernel)) rfl
def y9_deed : MethodName := ⟨"DeafWallModel", "deed", "(III)I"⟩
def B9_deed : BB := (y9_deed, prog_11_method_91_code, 4, (some .int), { frames := 3, cells := 0, slots := 0, locals := 65 })
theorem m9_deed : mOK B9_deed 3 := ⟨by decide +kernel, in_g (List.mem_of_getElem? (i := 1624) (by decide +kernel)) (by decide +kernel), in_g (List.mem_of_getElem? (i := 126) (by decide +kernel)) rfl, by decide +kernel⟩
theorem k9_deed : Cond.instanceMethod B9_deed.1 ∈ lw_g := in_g (List.mem_of_getElem? (i := 1622) (by decide +kernel)) rfl
theorem e9_deed : Cond.selects B9_deed.1.cls B9_deed.1 B9_deed.1 ∈ lw_g := in_g (List.mem_of_getElem? (i := 1623) (by decide +kernel)) rfl
def y9_wets : MethodName := ⟨"DeafWallModel", "wets", "(II)Z"⟩
def B9_wets : BB := (y9_wets, prog_11_method_92_code, 3, (some .boolean), { frames := 2, cells := 0, slots := 0, locals := 43 })
theorem m9_wets : mOK B9_wets 2 := ⟨by decide +kernel, in_g (List.mem_of_getElem? (i := 1648) (by decide +kernel)) (by decide +kernel), in_g (List.mem_of_getElem? (i := 126) (by decide +kernel)) rfl, by decide +kernel⟩
theorem k9_wets : Cond.instanceMethod B9_wets.1 ∈ lw_g := in_g (List.mem_of_getElem? (i := 1647) (by decide +kernel)) rfl
theorem e9_wets : Cond.selects B9_wets.1.cls B9_wets.1 B9_wets.1 ∈ lw_g := in_g (List.mem_of_getElem? (i := 105) (by decide +kernel)) rfl
def y9_moves : MethodName := ⟨"DeafWallModel", "moves", "(II)Z"⟩
def B9_moves : BB := (y9_moves, prog_11_method_93_code, 3, (some .boolean), { frames := 2, cells := 0, slots := 0, locals := 43 })
theorem m9_moves : mOK B9_moves 2 := ⟨by decide +kernel, in_g (List.mem_of_getElem? (i := 1652) (by decide +kernel)) (by decide +kernel), in_g (List.mem_of_getElem? (i := 126) (by decide +kernel)) rfl, by decide +kernel⟩
theorem k9_moves : Cond.instanceMethod B9_moves.1 ∈ lw_g := in_g (List.mem_of_getElem? (i := 1651) (by decide +kernel)) rfl
theorem e9_moves : Cond.selects B9_moves.1.cls B9_moves.1 B9_moves.1 ∈ lw_g := in_g (List.mem_of_getElem? (i := 106) (by decide +kernel)) rfl
def y9_does : MethodName := ⟨"DeafWallModel", "does", "(III)Z"⟩
def B9_does : BB := (y9_does, prog_11_method_94_code, 4, (some .boolean), { frames := 3, cells := 0, slots := 0, locals := 71 })
theorem m9_does : mOK B9_does 3 := ⟨by decide +kernel, in_g (List.mem_of_getElem? (i := 1644) (by decide +kernel)) (by decide +kernel), in_g (List.mem_of_getElem? (i := 126) (by decide +kernel)) rfl, by decide +kernel⟩
theorem k9_does : Cond.instanceMethod B9_does.1 ∈ lw_g := in_g (List.mem_of_getElem? (i := 1643) (by decide +kernel)) rfl
theorem e9_does : Cond.selects B9_does.1.cls B9_does.1 B9_does.1 ∈ lw_g := in_g (List.mem_of_getElem? (i := 104) (by decide +kernel)) rfl
def y9_doesTold : MethodName := ⟨"DeafWallModel", "doesTold", "(I)Z"⟩
def B9_doesTold : BB := (y9_doesTold, prog_11_method_95_code, 2, (some .boolean), { frames := 4, cells := 0, slots := 0, locals := 94 })
theorem m9_doesTold : mOK B9_doesTold 1 := ⟨by decide +kernel, in_g (List.mem_of_getElem? (i := 1640) (by decide +kernel)) (by decide +kernel), in_g (List.mem_of_getElem? (i := 126) (by decide +kernel)) rfl, by decide +kernel⟩
theorem k9_doesTold : Cond.instanceMethod B9_doesTold.1 ∈ lw_g := in_g (List.mem_of_getElem? (i := 1639) (by decide +kernel)) rfl
theorem e9_doesTold : Cond.selects B9_doesTold.1.cls B9_doesTold.1 B9_doesTold.1 ∈ lw_g := in_g (List.mem_of_getElem? (i := 103) (by decide +kernel)) rfl
def y9_runs : MethodName := ⟨"DeafWallModel", "runs", "(I)V"⟩
def B9_runs : BB := (y9_runs, prog_11_method_96_code, 2, none, { frames := 5, cells := 0, slots := 0, locals := 115 })
theorem m9_runs : mOK B9_runs 1 := ⟨by decide +kernel, in_g (List.mem_of_getElem? (i := 1636) (by decide +kernel)) (by decide +kernel), in_g (List.mem_of_getElem? (i := 126) (by decide +kernel)) rfl, by decide +kernel⟩
theorem k9_runs : Cond.instanceMethod B9_runs.1 ∈ lw_g := in_g (List.mem_of_getElem? (i := 1635) (by decide +kernel)) rfl
theorem e9_runs : Cond.selects B9_runs.1.cls B9_runs.1 B9_runs.1 ∈ lw_g := in_g (List.mem_of_getElem? (i := 102) (by decide +kernel)) rfl
def y9_stop : MethodName := ⟨"DeafWallModel", "stop", "(II)I"⟩
def B9_stop : BB := (y9_stop, prog_11_method_97_code, 3, (some .int), { frames := 6, cells := 0, slots := 0, locals := 136 })
theorem m9_stop : mOK B9_stop 2 := ⟨by decide +kernel, in_g (List.mem_of_getElem? (i := 1632) (by decide +kernel)) (by decide +kernel), in_g (List.mem_of_getElem? (i := 126) (by decide +kernel)) rfl, by decide +kernel⟩
theorem k9_stop : Cond.instanceMethod B9_stop.1 ∈ lw_g := in_g (List.mem_of_getElem? (i := 1630) (by decide +kernel)) rfl
theorem e9_stop : Cond.selects B9_stop.1.cls B9_stop.1 B9_stop.1 ∈ lw_g := in_g (List.mem_of_getElem? (i := 1631) (by decide +kernel)) rfl
def y9_nowOf : MethodName := ⟨"DeafWallModel", "nowOf", "(I)I"⟩
def B9_nowOf : BB := (y9_nowOf, prog_11_method_98_code, 3, (some .int), { frames := 2, cells := 0, slots := 0, locals := 44 })
theorem m9_nowOf : mOK B9_nowOf 1 := ⟨by decide +kernel, in_g (List.mem_of_getElem? (i := 1660) (by decide +kernel)) (by decide +kernel), in_g (List.mem_of_getElem? (i := 126) (by decide +kernel)) rfl, by decide +kernel⟩
theorem k9_nowOf : Cond.instanceMethod B9_nowOf.1 ∈ lw_g := in_g (List.mem_of_getElem? (i := 1659) (by decide +kernel)) rfl
theorem e9_nowOf : Cond.selects B9_nowOf.1.cls B9_nowOf.1 B9_nowOf.1 ∈ lw_g := in_g (List.mem_of_getElem? (i := 107) (by decide +kernel)) rfl
def y9_state : MethodName := ⟨"DeafWallModel", "state", "(IIII)I"⟩
def B9_state : BB := (y9_state, prog_11_method_99_code, 5, (some .int), { frames := 6, cells := 0, slots := 0, locals := 136 })
theorem m9_state : mOK B9_state 4 := ⟨by decide +kernel, in_g (List.mem_of_getElem? (i := 1656) (by decide +kernel)) (by decide +kernel), in_g (List.mem_of_getElem? (i := 126) (by decide +kernel)) rfl, by decide +kernel⟩
theorem k9_state : Cond.instanceMethod B9_state.1 ∈ lw_g := in_g (List.mem_of_getElem? (i := 1654) (by decide +kernel)) rfl
theorem e9_state : Cond.selects B9_state.1.cls B9_state.1 B9_state.1 ∈ lw_g := in_g (List.mem_of_getElem? (i := 1655) (by decide +kernel)) rfl
def y9_busiestOf : MethodName := ⟨"DeafWallModel", "busiestOf", "()I"⟩
def B9_busiestOf : BB := (y9_busiestOf, prog_11_method_100_code, 3, (some .int), { frames := 1, cells := 0, slots := 0, locals := 22 })
theorem m9_busiestOf : mOK B9_busiestOf 0 := ⟨by decide +kernel, in_g (List.mem_of_getElem? (i := 1668) (by decide +kernel)) (by decide +kernel), in_g (List.mem_of_getElem? (i := 126) (by decide +kernel)) rfl, by decide +kernel⟩
theorem k9_busiestOf : Cond.instanceMethod B9_busiestOf.1 ∈ lw_g := in_g (List.mem_of_getElem? (i := 1667) (by decide +kernel)) rfl
theorem e9_busiestOf : Cond.selects B9_busiestOf.1.cls B9_busiestOf.1 B9_busiestOf.1 ∈ lw_g := in_g (List.mem_of_getElem? (i := 108) (by decide +kernel)) rfl
def y9_keenestOf : MethodName := ⟨"DeafWallModel", "keenestOf", "()I"⟩
def B9_keenestOf : BB := (y9_keenestOf, prog_11_method_101_code, 3, (some .int), { frames := 0, cells := 0, slots := 0, locals := 0 })
theorem m9_keenestOf : mOK B9_keenestOf 0 := ⟨by decide +kernel, in_g (List.mem_of_getElem? (i := 1672) (by decide +kernel)) (by decide +kernel), in_g (List.mem_of_getElem? (i := 126) (by decide +kernel)) rfl, by decide +kernel⟩
theorem k9_keenestOf : Cond.instanceMethod B9_keenestOf.1 ∈ lw_g := in_g (List.mem_of_getElem? (i := 1671) (by decide +kernel)) rfl
theorem e9_keenestOf : Cond.selects B9_keenestOf.1.cls B9_keenestOf.1 B9_keenestOf.1 ∈ lw_g := in_g (List.mem_of_getElem? (i := 109) (by decide +kernel)) rfl
def y9_after : MethodName := ⟨"DeafWallModel", "after", "(III)I"⟩
def B9_after : BB := (y9_after, prog_11_method_102_code, 7, (some .int), { frames := 6, cells := 0, slots := 0, locals := 136 })
theorem m9_after : mOK B9_after 3 := ⟨by decide +kernel, in_g (List.mem_of_getElem? (i := 1664) (by decide +kernel)) (by decide +kernel), in_g (List.mem_of_getElem? (i := 126) (by decide +kernel)) rfl, by decide +kernel⟩
theorem k9_after : Cond.instanceMethod B9_after.1 ∈ lw_g := in_g (List.mem_of_getElem? (i := 1662) (by decide +kernel)) rfl
theorem e9_after : Cond.selects B9_after.1.cls B9_after.1 B9_after.1 ∈ lw_g := in_g (List.mem_of_getElem? (i := 1663) (by decide +kernel)) rfl
def y9_isLog : MethodName := ⟨"DeafWallModel", "isLog", "(I)Z"⟩
def B9_isLog : BB := (y9_isLog, prog_11_method_103_code, 2, (some .boolean), { frames := 2, cells := 0, slots := 0, locals := 44 })
theorem m9_isLog : mOK B9_isLog 1 := ⟨by decide +kernel, in_g (List.mem_of_getElem? (i := 1680) (by decide +kernel)) (by decide +kernel), in_g (List.mem_of_getElem? (i := 126) (by decide +kernel)) rfl, by decide +kernel⟩
theorem k9_isLog : Cond.instanceMethod B9_isLog.1 ∈ lw_g := in_g (List.mem_of_getElem? (i := 1679) (by decide +kernel)) rfl
theorem e9_isLog : Cond.selects B9_isLog.1.cls B9_isLog.1 B9_isLog.1 ∈ lw_g := in_g (List.mem_of_getElem? (i := 110) (by decide +kernel)) rfl
def y9_fact : MethodName := ⟨"DeafWallModel", "fact", "(III)I"⟩
def B9_fact : BB := (y9_fact, prog_11_method_104_code, 4, (some .int), { frames := 3, cells := 0, slots := 0, locals := 65 })
theorem m9_fact : mOK B9_fact 3 := ⟨by decide +kernel, in_g (List.mem_of_getElem? (i := 1676) (by decide +kernel)) (by decide +kernel), in_g (List.mem_of_getElem? (i := 126) (by decide +kernel)) rfl, by decide +kernel⟩
theorem k9_fact : Cond.instanceMethod B9_fact.1 ∈ lw_g := in_g (List.mem_of_getElem? (i := 1674) (by decide +kernel)) rfl
theorem e9_fact : Cond.selects B9_fact.1.cls B9_fact.1 B9_fact.1 ∈ lw_g := in_g (List.mem_of_getElem? (i := 1675) (by decide +kernel)) rfl
def y9_isSo : MethodName := ⟨"DeafWallModel", "isSo", "()Z"⟩
def B9_isSo : BB := (y9_isSo, prog_11_method_105_code, 5, (some .boolean), { frames := 0, cells := 0, slots := 0, locals := 0 })
theorem m9_isSo : mOK B9_isSo 0 := ⟨by decide +kernel, in_g (List.mem_of_getElem? (i := 1692) (by decide +kernel)) (by decide +kernel), in_g (List.mem_of_getElem? (i := 126) (by decide +kernel)) rfl, by decide +kernel⟩
theorem k9_isSo : Cond.instanceMethod B9_isSo.1 ∈ lw_g := in_g (List.mem_of_getElem? (i := 1691) (by decide +kernel)) rfl
theorem e9_isSo : Cond.selects B9_isSo.1.cls B9_isSo.1 B9_isSo.1 ∈ lw_g := in_g (List.mem_of_getElem? (i := 112) (by decide +kernel)) rfl
def y9_nextFit : MethodName := ⟨"DeafWallModel", "nextFit", "(II)I"⟩
def B9_nextFit : BB := (y9_nextFit, prog_11_method_106_code, 4, (some .int), { frames := 4, cells := 0, slots := 0, locals := 94 })
theorem m9_nextFit : mOK B9_nextFit 2 := ⟨by decide +kernel, in_g (List.mem_of_getElem? (i := 1688) (by decide +kernel)) (by decide +kernel), in_g (List.mem_of_getElem? (i := 126) (by decide +kernel)) rfl, by decide +kernel⟩
theorem k9_nextFit : Cond.instanceMethod B9_nextFit.1 ∈ lw_g := in_g (List.mem_of_getElem? (i := 1687) (by decide +kernel)) rfl
theorem e9_nextFit : Cond.selects B9_nextFit.1.cls B9_nextFit.1 B9_nextFit.1 ∈ lw_g := in_g (List.mem_of_getElem? (i := 111) (by decide +kernel)) rfl
def y9_laysFits : MethodName := ⟨"DeafWallModel", "laysFits", "(I)V"⟩
def B9_laysFits : BB := (y9_laysFits, prog_11_method_107_code, 4, none, { frames := 5, cells := 0, slots := 0, locals := 117 })
theorem m9_laysFits : mOK B9_laysFits 1 := ⟨by decide +kernel, in_g (List.mem_of_getElem? (i := 1696) (by decide +kernel)) (by decide +kernel), in_g (List.mem_of_getElem? (i := 126) (by decide +kernel)) rfl, by decide +kernel⟩
theorem k9_laysFits : Cond.instanceMethod B9_laysFits.1 ∈ lw_g := in_g (List.mem_of_getElem? (i := 1695) (by decide +kernel)) rfl
theorem e9_laysFits : Cond.selects B9_laysFits.1.cls B9_laysFits.1 B9_laysFits.1 ∈ lw_g := in_g (List.mem_of_getElem? (i := 113) (by decide +kernel)) rfl
def y9_askOf : MethodName := ⟨"DeafWallModel", "askOf", "()I"⟩
def B9_askOf : BB := (y9_askOf, prog_11_method_108_code, 5, (some .int), { frames := 0, cells := 0, slots := 0, locals := 0 })
theorem m9_askOf : mOK B9_askOf 0 := ⟨by decide +kernel, in_g (List.mem_of_getElem? (i := 1700) (by decide +kernel)) (by decide +kernel), in_g (List.mem_of_getElem? (i := 126) (by decide +kernel)) rfl, by decide +kernel⟩
theorem k9_askOf : Cond.instanceMethod B9_askOf.1 ∈ lw_g := in_g (List.mem_of_getElem? (i := 1699) (by decide +kernel)) rfl
theorem e9_askOf : Cond.selects B9_askOf.1.cls B9_askOf.1 B9_askOf.1 ∈ lw_g := in_g (List.mem_of_getElem? (i := 114) (by decide +kernel)) rfl
def y9_fits : MethodName := ⟨"DeafWallModel", "fits", "(IIII)I"⟩
def B9_fits : BB := (y9_fits, prog_11_method_109_code, 7, (some .int), { frames := 6, cells := 0, slots := 0, locals := 140 })
theorem m9_fits : mOK B9_fits 4 := ⟨by decide +kernel, in_g (List.mem_of_getElem? (i := 1684) (by decide +kernel)) (by decide +kernel), in_g (List.mem_of_getElem? (i := 126) (by decide +kernel)) rfl, by decide +kernel⟩
theorem k9_fits : Cond.instanceMethod B9_fits.1 ∈ lw_g := in_g (List.mem_of_getElem? (i := 1682) (by decide +kernel)) rfl
theorem e9_fits : Cond.selects B9_fits.1.cls B9_fits.1 B9_fits.1 ∈ lw_g := in_g (List.mem_of_getElem? (i := 1683) (by decide +kernel)) rfl
def y9_odds : MethodName := ⟨"DeafWallModel", "odds", "(IIIIZ)J"⟩
def B9_odds : BB := (y9_odds, prog_11_method_110_code, 6, (some .long), { frames := 6, cells := 0, slots := 0, locals := 140 })
theorem m9_odds : mOK B9_odds 5 := ⟨by decide +kernel, in_g (List.mem_of_getElem? (i := 1704) (by decide +kernel)) (by decide +kernel), in_g (List.mem_of_getElem? (i := 126) (by decide +kernel)) rfl, by decide +kernel⟩
theorem k9_odds : Cond.instanceMethod B9_odds.1 ∈ lw_g := in_g (List.mem_of_getElem? (i := 1702) (by decide +kernel)) rfl
theorem e9_odds : Cond.selects B9_odds.1.cls B9_odds.1 B9_odds.1 ∈ lw_g := in_g (List.mem_of_getElem? (i := 1703) (by decide +kernel)) rfl
def y9_few : MethodName := ⟨"DeafWallModel", "few", "(IIIZ)I"⟩
def B9_few : BB := (y9_few, prog_11_method_111_code, 5, (some .int), { frames := 6, cells := 0, slots := 0, locals := 140 })
theorem m9_few : mOK B9_few 4 := ⟨by decide +kernel, in_g (List.mem_of_getElem? (i := 1708) (by decide +kernel)) (by decide +kernel), in_g (List.mem_of_getElem? (i := 126) (by decide +kernel)) rfl, by decide +kernel⟩
theorem k9_few : Cond.instanceMethod B9_few.1 ∈ lw_g := in_g (List.mem_of_getElem? (i := 1706) (by decide +kernel)) rfl
theorem e9_few : Cond.selects B9_few.1.cls B9_few.1 B9_few.1 ∈ lw_g := in_g (List.mem_of_getElem? (i := 1707) (by decide +kernel)) rfl
def y9_brick : MethodName := ⟨"DeafWallModel", "brick", "(IIIII)I"⟩
def B9_brick : BB := (y9_brick, prog_11_method_112_code, 9, (some .int), { frames := 3, cells := 0, slots := 0, locals := 71 })
theorem m9_brick : mOK B9_brick 5 := ⟨by decide +kernel, in_g (List.mem_of_getElem? (i := 1712) (by decide +kernel)) (by decide +kernel), in_g (List.mem_of_getElem? (i := 126) (by decide +kernel)) rfl, by decide +kernel⟩
theorem k9_brick : Cond.instanceMethod B9_brick.1 ∈ lw_g := in_g (List.mem_of_getElem? (i := 1710) (by decide +kernel)) rfl
theorem e9_brick : Cond.selects B9_brick.1.cls B9_brick.1 B9_brick.1 ∈ lw_g := in_g (List.mem_of_getElem? (i := 1711) (by decide +kernel)) rfl
def y9_below : MethodName := ⟨"DeafWallModel", "below", "(I)I"⟩
def B9_below : BB := (y9_below, prog_11_method_113_code, 2, (some .int), { frames := 0, cells := 0, slots := 0, locals := 0 })
theorem m9_below : mOK B9_below 1 := ⟨by decide +kernel, in_g (List.mem_of_getElem? (i := 1724) (by decide +kernel)) (by decide +kernel), in_g (List.mem_of_getElem? (i := 126) (by decide +kernel)) rfl, by decide +kernel⟩
theorem k9_below : Cond.instanceMethod B9_below.1 ∈ lw_g := in_g (List.mem_of_getElem? (i := 1723) (by decide +kernel)) rfl
theorem e9_below : Cond.selects B9_below.1.cls B9_below.1 B9_below.1 ∈ lw_g := in_g (List.mem_of_getElem? (i := 116) (by decide +kernel)) rfl
def y9_draws : MethodName := ⟨"DeafWallModel", "draws", "()V"⟩
def B9_draws : BB := (y9_draws, prog_11_method_114_code, 3, none, { frames := 4, cells := 0, slots := 0, locals := 94 })
theorem m9_draws : mOK B9_draws 0 := ⟨by decide +kernel, in_g (List.mem_of_getElem? (i := 1720) (by decide +kernel)) (by decide +kernel), in_g (List.mem_of_getElem? (i := 126) (by decide +kernel)) rfl, by decide +kernel⟩
theorem k9_draws : Cond.instanceMethod B9_draws.1 ∈ lw_g := in_g (List.mem_of_getElem? (i := 1719) (by decide +kernel)) rfl
theorem e9_draws : Cond.selects B9_draws.1.cls B9_draws.1 B9_draws.1 ∈ lw_g := in_g (List.mem_of_getElem? (i := 115) (by decide +kernel)) rfl
def y9_drawn : MethodName := ⟨"DeafWallModel", "drawn", "(IIII)I"⟩
def B9_drawn : BB := (y9_drawn, prog_11_method_115_code, 6, (some .int), { frames := 5, cells := 0, slots := 0, locals := 116 })
theorem m9_drawn : mOK B9_drawn 4 := ⟨by decide +kernel, in_g (List.mem_of_getElem? (i := 1716) (by decide +kernel)) (by decide +kernel), in_g (List.mem_of_getElem? (i := 126) (by decide +kernel)) rfl, by decide +kernel⟩
theorem k9_drawn : Cond.instanceMethod B9_drawn.1 ∈ lw_g := in_g (List.mem_of_getElem? (i := 1714) (by decide +kernel)) rfl
theorem e9_drawn : Cond.selects B9_drawn.1.cls B9_drawn.1 B9_drawn.1 ∈ lw_g := in_g (List.mem_of_getElem? (i := 1715) (by decide +kernel)) rfl
def y9_count : MethodName := ⟨"DeafWallModel", "count", "(I)I"⟩
def B9_count : BB := (y9_count, prog_11_method_116_code, 2, (some .int), { frames := 1, cells := 0, slots := 0, locals := 22 })
theorem m9_count : mOK B9_count 1 := ⟨by decide +kernel, in_g (List.mem_of_getElem? (i := 1729) (by decide +kernel)) (by decide +kernel), in_g (List.mem_of_getElem? (i := 126) (by decide +kernel)) rfl, by decide +kernel⟩
theorem k9_count : Cond.instanceMethod B9_count.1 ∈ lw_g := in_g (List.mem_of_getElem? (i := 1727) (by decide +kernel)) rfl
theorem e9_count : Cond.selects B9_count.1.cls B9_count.1 B9_count.1 ∈ lw_g := in_g (List.mem_of_getElem? (i := 1728) (by decide +kernel)) rfl
def y9_image : MethodName := ⟨"DeafWallModel", "image", "(I)Z"⟩
def B9_image : BB := (y9_image, prog_11_method_117_code, 3, (some .boolean), { frames := 1, cells := 0, slots := 0, locals := 22 })
theorem m9_image : mOK B9_image 1 := ⟨by decide +kernel, in_g (List.mem_of_getElem? (i := 1733) (by decide +kernel)) (by decide +kernel), in_g (List.mem_of_getElem? (i := 126) (by decide +kernel)) rfl, by decide +kernel⟩
theorem k9_image : Cond.instanceMethod B9_image.1 ∈ lw_g := in_g (List.mem_of_getElem? (i := 1731) (by decide +kernel)) rfl
theorem e9_image : Cond.selects B9_image.1.cls B9_image.1 B9_image.1 ∈ lw_g := in_g (List.mem_of_getElem? (i := 1732) (by decide +kernel)) rfl
def y9_again : MethodName := ⟨"DeafWallModel", "again", "(I)Z"⟩
def B9_again : BB := (y9_again, prog_11_method_118_code, 3, (some .boolean), { frames := 1, cells := 0, slots := 0, locals := 22 })
theorem m9_again : mOK B9_again 1 := ⟨by decide +kernel, in_g (List.mem_of_getElem? (i := 1737) (by decide +kernel)) (by decide +kernel), in_g (List.mem_of_getElem? (i := 126) (by decide +kernel)) rfl, by decide +kernel⟩
theorem k9_again : Cond.instanceMethod B9_again.1 ∈ lw_g := in_g (List.mem_of_getElem? (i := 1735) (by decide +kernel)) rfl
theorem e9_again : Cond.selects B9_again.1.cls B9_again.1 B9_again.1 ∈ lw_g := in_g (List.mem_of_getElem? (i := 1736) (by decide +kernel)) rfl
