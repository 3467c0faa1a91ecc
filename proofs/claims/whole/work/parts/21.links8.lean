theorem fl6_9 : FK "DeafWall$Told" 9 6 0 (.array .byte) true := ⟨_, _, _, _, ck6, by decide, in_g (List.mem_of_getElem? (i := 154) (by decide +kernel)) rfl, rfl, rfl⟩
theorem fl6_15 : FK "DeafWall$Told" 15 6 1 .int false := ⟨_, _, _, _, ck6, by decide, in_g (List.mem_of_getElem? (i := 156) (by decide +kernel)) rfl, rfl, rfl⟩
theorem fl6_19 : FK "DeafWall$Told" 19 6 2 .int false := ⟨_, _, _, _, ck6, by decide, in_g (List.mem_of_getElem? (i := 158) (by decide +kernel)) rfl, rfl, rfl⟩
theorem fl6_22 : FK "DeafWall$Told" 22 6 3 .int false := ⟨_, _, _, _, ck6, by decide, in_g (List.mem_of_getElem? (i := 160) (by decide +kernel)) rfl, rfl, rfl⟩
theorem fl6_25 : FK "DeafWall$Told" 25 6 4 (.array .int) true := ⟨_, _, _, _, ck6, by decide, in_g (List.mem_of_getElem? (i := 162) (by decide +kernel)) rfl, rfl, rfl⟩
theorem fl6_31 : FK "DeafWall$Told" 31 6 5 (.array (.object "DeafWall$Wall")) true := ⟨_, _, _, _, ck6, by decide, in_g (List.mem_of_getElem? (i := 164) (by decide +kernel)) rfl, rfl, rfl⟩
theorem fl6_37 : FK "DeafWall$Told" 37 6 6 (.array (.object "DeafWall$Lines")) true := ⟨_, _, _, _, ck6, by decide, in_g (List.mem_of_getElem? (i := 166) (by decide +kernel)) rfl, rfl, rfl⟩
theorem fl6_41 : FK "DeafWall$Told" 41 6 7 (.array (.object "DeafWall$Lines")) true := ⟨_, _, _, _, ck6, by decide, in_g (List.mem_of_getElem? (i := 168) (by decide +kernel)) rfl, rfl, rfl⟩
theorem fl4_9 : FK "DeafWall$Reader" 9 4 4 (.array .byte) false := ⟨_, _, _, _, ck4, by decide, in_g (List.mem_of_getElem? (i := 204) (by decide +kernel)) rfl, rfl, rfl⟩
theorem fl7_9 : FK "DeafWall$Wall" 9 7 0 .int false := ⟨_, _, _, _, ck7, by decide, in_g (List.mem_of_getElem? (i := 261) (by decide +kernel)) rfl, rfl, rfl⟩
theorem fl7_15 : FK "DeafWall$Wall" 15 7 1 .int false := ⟨_, _, _, _, ck7, by decide, in_g (List.mem_of_getElem? (i := 264) (by decide +kernel)) rfl, rfl, rfl⟩
theorem fl7_18 : FK "DeafWall$Wall" 18 7 2 .int false := ⟨_, _, _, _, ck7, by decide, in_g (List.mem_of_getElem? (i := 267) (by decide +kernel)) rfl, rfl, rfl⟩
theorem fl7_21 : FK "DeafWall$Wall" 21 7 3 (.array .int) true := ⟨_, _, _, _, ck7, by decide, in_g (List.mem_of_getElem? (i := 271) (by decide +kernel)) rfl, rfl, rfl⟩
theorem fl7_25 : FK "DeafWall$Wall" 25 7 4 .int false := ⟨_, _, _, _, ck7, by decide, in_g (List.mem_of_getElem? (i := 276) (by decide +kernel)) rfl, rfl, rfl⟩
theorem fl7_28 : FK "DeafWall$Wall" 28 7 5 (.array .int) true := ⟨_, _, _, _, ck7, by decide, in_g (List.mem_of_getElem? (i := 279) (by decide +kernel)) rfl, rfl, rfl⟩
theorem fl7_31 : FK "DeafWall$Wall" 31 7 6 (.array .int) true := ⟨_, _, _, _, ck7, by decide, in_g (List.mem_of_getElem? (i := 282) (by decide +kernel)) rfl, rfl, rfl⟩
theorem fl7_34 : FK "DeafWall$Wall" 34 7 7 .int false := ⟨_, _, _, _, ck7, by decide, in_g (List.mem_of_getElem? (i := 285) (by decide +kernel)) rfl, rfl, rfl⟩
theorem fl7_37 : FK "DeafWall$Wall" 37 7 8 (.array .int) true := ⟨_, _, _, _, ck7, by decide, in_g (List.mem_of_getElem? (i := 288) (by decide +kernel)) rfl, rfl, rfl⟩
theorem fl7_40 : FK "DeafWall$Wall" 40 7 9 (.array .int) true := ⟨_, _, _, _, ck7, by decide, in_g (List.mem_of_getElem? (i := 291) (by decide +kernel)) rfl, rfl, rfl⟩
theorem ml7_43 : Cond.methodLink "DeafWall$Wall" 43 B18_fillI.1 ∈ lw_g := in_g (List.mem_of_getElem? (i := 258) (by decide +kernel)) rfl
theorem ml5_11 : Cond.methodLink "DeafWall$Stand" 11 B7_init.1 ∈ lw_g := in_g (List.mem_of_getElem? (i := 254) (by decide +kernel)) rfl
theorem fl5_12 : FK "DeafWall$Stand" 12 5 0 (.object "DeafWall$Wall") false := ⟨_, _, _, _, ck5, by decide, in_g (List.mem_of_getElem? (i := 314) (by decide +kernel)) rfl, rfl, rfl⟩
theorem fl5_18 : FK "DeafWall$Stand" 18 5 3 (.array .int) false := ⟨_, _, _, _, ck5, by decide, in_g (List.mem_of_getElem? (i := 317) (by decide +kernel)) rfl, rfl, rfl⟩
theorem fl5_22 : FK "DeafWall$Stand" 22 5 4 (.array .int) false := ⟨_, _, _, _, ck5, by decide, in_g (List.mem_of_getElem? (i := 318) (by decide +kernel)) rfl, rfl, rfl⟩
theorem fl5_25 : FK "DeafWall$Stand" 25 5 5 (.array .int) true := ⟨_, _, _, _, ck5, by decide, in_g (List.mem_of_getElem? (i := 319) (by decide +kernel)) rfl, rfl, rfl⟩
theorem fl5_28 : FK "DeafWall$Stand" 28 5 6 (.array .int) true := ⟨_, _, _, _, ck5, by decide, in_g (List.mem_of_getElem? (i := 320) (by decide +kernel)) rfl, rfl, rfl⟩
theorem fl5_31 : FK "DeafWall$Stand" 31 5 7 (.array .int) true := ⟨_, _, _, _, ck5, by decide, in_g (List.mem_of_getElem? (i := 321) (by decide +kernel)) rfl, rfl, rfl⟩
theorem fl5_34 : FK "DeafWall$Stand" 34 5 8 (.array .int) true := ⟨_, _, _, _, ck5, by decide, in_g (List.mem_of_getElem? (i := 322) (by decide +kernel)) rfl, rfl, rfl⟩
theorem fl5_37 : FK "DeafWall$Stand" 37 5 9 (.array .int) true := ⟨_, _, _, _, ck5, by decide, in_g (List.mem_of_getElem? (i := 323) (by decide +kernel)) rfl, rfl, rfl⟩
theorem fl1_11 : FK "DeafWall$Echo" 11 1 0 (.array (.array .int)) true := ⟨_, _, _, _, ck1, by decide, in_g (List.mem_of_getElem? (i := 376) (by decide +kernel)) rfl, rfl, rfl⟩
theorem fl1_16 : FK "DeafWall$Echo" 16 1 1 (.array .int) true := ⟨_, _, _, _, ck1, by decide, in_g (List.mem_of_getElem? (i := 377) (by decide +kernel)) rfl, rfl, rfl⟩
theorem fl3_11 : FK "DeafWall$Paths" 11 3 0 (.array (.array .int)) true := ⟨_, _, _, _, ck3, by decide, in_g (List.mem_of_getElem? (i := 390) (by decide +kernel)) rfl, rfl, rfl⟩
theorem ml8_11 : Cond.methodLinkNest "DeafWall" 11 B6_init.1 "DeafWall" ∈ lw_tbl := List.mem_of_getElem? (i := 146) (by decide +kernel)
theorem fl8_12 : FK "DeafWall" 12 8 0 (.object "DeafWall$Told") true := ⟨_, _, _, _, ck8, by decide, in_g (List.mem_of_getElem? (i := 394) (by decide +kernel)) rfl, rfl, rfl⟩
theorem fl8_16 : FK "DeafWall" 16 8 1 (.array (.object "DeafWall$Told")) true := ⟨_, _, _, _, ck8, by decide, in_g (List.mem_of_getElem? (i := 395) (by decide +kernel)) rfl, rfl, rfl⟩
theorem ml8_22 : Cond.methodLinkNest "DeafWall" 22 B4_init.1 "DeafWall" ∈ lw_tbl := List.mem_of_getElem? (i := 192) (by decide +kernel)
theorem fl8_23 : FK "DeafWall" 23 8 2 (.object "DeafWall$Reader") true := ⟨_, _, _, _, ck8, by decide, in_g (List.mem_of_getElem? (i := 396) (by decide +kernel)) rfl, rfl, rfl⟩
theorem ml8_29 : Cond.methodLinkNest "DeafWall" 29 B5_init.1 "DeafWall" ∈ lw_tbl := List.mem_of_getElem? (i := 248) (by decide +kernel)
theorem fl8_30 : FK "DeafWall" 30 8 3 (.object "DeafWall$Stand") true := ⟨_, _, _, _, ck8, by decide, in_g (List.mem_of_getElem? (i := 397) (by decide +kernel)) rfl, rfl, rfl⟩
theorem ml8_36 : Cond.methodLinkNest "DeafWall" 36 B1_init.1 "DeafWall" ∈ lw_tbl := List.mem_of_getElem? (i := 370) (by decide +kernel)
theorem fl8_37 : FK "DeafWall" 37 8 4 (.object "DeafWall$Echo") true := ⟨_, _, _, _, ck8, by decide, in_g (List.mem_of_getElem? (i := 398) (by decide +kernel)) rfl, rfl, rfl⟩
theorem ml8_43 : Cond.methodLinkNest "DeafWall" 43 B3_init.1 "DeafWall" ∈ lw_tbl := List.mem_of_getElem? (i := 385) (by decide +kernel)
theorem fl8_44 : FK "DeafWall" 44 8 5 (.object "DeafWall$Paths") true := ⟨_, _, _, _, ck8, by decide, in_g (List.mem_of_getElem? (i := 399) (by decide +kernel)) rfl, rfl, rfl⟩
theorem fl8_48 : FK "DeafWall" 48 8 6 (.array .int) true := ⟨_, _, _, _, ck8, by decide, in_g (List.mem_of_getElem? (i := 400) (by decide +kernel)) rfl, rfl, rfl⟩
theorem fl8_52 : FK "DeafWall" 52 8 7 (.array .int) true := ⟨_, _, _, _, ck8, by decide, in_g (List.mem_of_getElem? (i := 401) (by decide +kernel)) rfl, rfl, rfl⟩
theorem fl8_55 : FK "DeafWall" 55 8 8 (.array .int) true := ⟨_, _, _, _, ck8, by decide, in_g (List.mem_of_getElem? (i := 402) (by decide +kernel)) rfl, rfl, rfl⟩
theorem fl8_58 : FK "DeafWall" 58 8 9 (.array .int) true := ⟨_, _, _, _, ck8, by decide, in_g (List.mem_of_getElem? (i := 403) (by decide +kernel)) rfl, rfl, rfl⟩
theorem fl8_61 : FK "DeafWall" 61 8 10 (.array .int) true := ⟨_, _, _, _, ck8, by decide, in_g (List.mem_of_getElem? (i := 404) (by decide +kernel)) rfl, rfl, rfl⟩
theorem fl8_64 : FK "DeafWall" 64 8 11 (.array .int) true := ⟨_, _, _, _, ck8, by decide, in_g (List.mem_of_getElem? (i := 405) (by decide +kernel)) rfl, rfl, rfl⟩
theorem fl8_67 : FK "DeafWall" 67 8 12 (.array .int) true := ⟨_, _, _, _, ck8, by decide, in_g (List.mem_of_getElem? (i := 406) (by decide +kernel)) rfl, rfl, rfl⟩
theorem fl8_70 : FK "DeafWall" 70 8 13 (.array .long) true := ⟨_, _, _, _, ck8, by decide, in_g (List.mem_of_getElem? (i := 407) (by decide +kernel)) rfl, rfl, rfl⟩
theorem fl8_74 : FK "DeafWall" 74 8 14 (.array .long) true := ⟨_, _, _, _, ck8, by decide, in_g (List.mem_of_getElem? (i := 408) (by decide +kernel)) rfl, rfl, rfl⟩
theorem fl8_77 : FK "DeafWall" 77 8 15 (.array .int) true := ⟨_, _, _, _, ck8, by decide, in_g (List.mem_of_getElem? (i := 409) (by decide +kernel)) rfl, rfl, rfl⟩
theorem fl8_80 : FK "DeafWall" 80 6 1 .int false := ⟨_, _, _, _, ck6, by decide, in_g (List.mem_of_getElem? (i := 157) (by decide +kernel)) rfl, rfl, rfl⟩
theorem ml8_84 : Cond.methodLink "DeafWall" 84 B6_put.1 ∈ lw_g := in_g (List.mem_of_getElem? (i := 448) (by decide +kernel)) rfl
theorem fl8_122 : FK "DeafWall" 122 6 4 (.array .int) true := ⟨_, _, _, _, ck6, by decide, in_g (List.mem_of_getElem? (i := 163) (by decide +kernel)) rfl, rfl, rfl⟩
theorem fl2_9 : FK "DeafWall$Lines" 9 2 0 .int false := ⟨_, _, _, _, ck2, by decide, in_g (List.mem_of_getElem? (i := 479) (by decide +kernel)) rfl, rfl, rfl⟩
theorem fl2_15 : FK "DeafWall$Lines" 15 2 1 (.array .int) true := ⟨_, _, _, _, ck2, by decide, in_g (List.mem_of_getElem? (i := 482) (by decide +kernel)) rfl, rfl, rfl⟩
theorem fl2_19 : FK "DeafWall$Lines" 19 2 2 (.array .int) true := ⟨_, _, _, _, ck2, by decide, in_g (List.mem_of_getElem? (i := 485) (by decide +kernel)) rfl, rfl, rfl⟩
theorem fl2_22 : FK "DeafWall$Lines" 22 2 3 (.array .int) true := ⟨_, _, _, _, ck2, by decide, in_g (List.mem_of_getElem? (i := 488) (by decide +kernel)) rfl, rfl, rfl⟩
theorem fl4_21 : FK "DeafWall$Reader" 21 4 5 .int false := ⟨_, _, _, _, ck4, by decide, in_g (List.mem_of_getElem? (i := 205) (by decide +kernel)) rfl, rfl, rfl⟩
theorem fl4_95 : FK "DeafWall$Reader" 95 4 10 .int false := ⟨_, _, _, _, ck4, by decide, in_g (List.mem_of_getElem? (i := 210) (by decide +kernel)) rfl, rfl, rfl⟩
theorem fl4_62 : FK "DeafWall$Reader" 62 4 9 .int false := ⟨_, _, _, _, ck4, by decide, in_g (List.mem_of_getElem? (i := 209) (by decide +kernel)) rfl, rfl, rfl⟩
theorem fl4_83 : FK "DeafWall$Reader" 83 4 8 .int false := ⟨_, _, _, _, ck4, by decide, in_g (List.mem_of_getElem? (i := 208) (by decide +kernel)) rfl, rfl, rfl⟩
theorem fl4_68 : FK "DeafWall$Reader" 68 4 7 .int false := ⟨_, _, _, _, ck4, by decide, in_g (List.mem_of_getElem? (i := 207) (by decide +kernel)) rfl, rfl, rfl⟩
theorem ml4_89 : Cond.methodLink "DeafWall$Reader" 89 B4_isDigit.1 ∈ lw_g := in_g (List.mem_of_getElem? (i := 508) (by decide +kernel)) rfl
theorem ml4_86 : Cond.methodLink "DeafWall$Reader" 86 B4_isLetter.1 ∈ lw_g := in_g (List.mem_of_getElem? (i := 504) (by decide +kernel)) rfl
theorem ml4_92 : Cond.methodLink "DeafWall$Reader" 92 B4_readNumber.1 ∈ lw_g := in_g (List.mem_of_getElem? (i := 512) (by decide +kernel)) rfl
theorem fl4_25 : FK "DeafWall$Reader" 25 4 6 .int false := ⟨_, _, _, _, ck4, by decide, in_g (List.mem_of_getElem? (i := 206) (by decide +kernel)) rfl, rfl, rfl⟩
theorem ml4_126 : Cond.methodLink "DeafWall$Reader" 126 B4_wordOf.1 ∈ lw_g := in_g (List.mem_of_getElem? (i := 526) (by decide +kernel)) rfl
theorem ml4_130 : Cond.methodLink "DeafWall$Reader" 130 B4_isWord.1 ∈ lw_g := in_g (List.mem_of_getElem? (i := 543) (by decide +kernel)) rfl
theorem fl4_44 : FK "DeafWall$Reader" 44 4 2 .int false := ⟨_, _, _, _, ck4, by decide, in_g (List.mem_of_getElem? (i := 200) (by decide +kernel)) rfl, rfl, rfl⟩
theorem fl4_47 : FK "DeafWall$Reader" 47 4 3 .int false := ⟨_, _, _, _, ck4, by decide, in_g (List.mem_of_getElem? (i := 202) (by decide +kernel)) rfl, rfl, rfl⟩
theorem ml4_79 : Cond.methodLink "DeafWall$Reader" 79 B4_note.1 ∈ lw_g := in_g (List.mem_of_getElem? (i := 599) (by decide +kernel)) rfl
theorem fl4_56 : FK "DeafWall$Reader" 56 4 13 .int false := ⟨_, _, _, _, ck4, by decide, in_g (List.mem_of_getElem? (i := 213) (by decide +kernel)) rfl, rfl, rfl⟩
theorem fl4_53 : FK "DeafWall$Reader" 53 4 12 .int false := ⟨_, _, _, _, ck4, by decide, in_g (List.mem_of_getElem? (i := 212) (by decide +kernel)) rfl, rfl, rfl⟩
theorem fl4_50 : FK "DeafWall$Reader" 50 4 11 .int false := ⟨_, _, _, _, ck4, by decide, in_g (List.mem_of_getElem? (i := 211) (by decide +kernel)) rfl, rfl, rfl⟩
theorem ml4_102 : Cond.methodLink "DeafWall$Reader" 102 B4_refuse.1 ∈ lw_g := in_g (List.mem_of_getElem? (i := 595) (by decide +kernel)) rfl
theorem ml4_65 : Cond.methodLink "DeafWall$Reader" 65 B4_nextToken.1 ∈ lw_g := in_g (List.mem_of_getElem? (i := 500) (by decide +kernel)) rfl
theorem fl4_31 : FK "DeafWall$Reader" 31 4 0 (.object "DeafWall$Wall") false := ⟨_, _, _, _, ck4, by decide, in_g (List.mem_of_getElem? (i := 196) (by decide +kernel)) rfl, rfl, rfl⟩
theorem ml4_181 : Cond.methodLink "DeafWall$Reader" 181 B7_addTale.1 ∈ lw_g := in_g (List.mem_of_getElem? (i := 623) (by decide +kernel)) rfl
theorem ml4_116 : Cond.methodLink "DeafWall$Reader" 116 B4_lookAtNumber.1 ∈ lw_g := in_g (List.mem_of_getElem? (i := 611) (by decide +kernel)) rfl
theorem fl4_59 : FK "DeafWall$Reader" 59 4 14 .int false := ⟨_, _, _, _, ck4, by decide, in_g (List.mem_of_getElem? (i := 214) (by decide +kernel)) rfl, rfl, rfl⟩
theorem ml4_202 : Cond.methodLink "DeafWall$Reader" 202 B7_addFeeler.1 ∈ lw_g := in_g (List.mem_of_getElem? (i := 656) (by decide +kernel)) rfl
theorem ml4_199 : Cond.methodLink "DeafWall$Reader" 199 B7_putSource.1 ∈ lw_g := in_g (List.mem_of_getElem? (i := 652) (by decide +kernel)) rfl
theorem ml4_196 : Cond.methodLink "DeafWall$Reader" 196 B7_deaden.1 ∈ lw_g := in_g (List.mem_of_getElem? (i := 648) (by decide +kernel)) rfl
theorem ml4_190 : Cond.methodLink "DeafWall$Reader" 190 B7_resize.1 ∈ lw_g := in_g (List.mem_of_getElem? (i := 641) (by decide +kernel)) rfl
theorem fl4_40 : FK "DeafWall$Reader" 40 4 1 (.object "DeafWall$Lines") false := ⟨_, _, _, _, ck4, by decide, in_g (List.mem_of_getElem? (i := 198) (by decide +kernel)) rfl, rfl, rfl⟩
theorem ml4_187 : Cond.methodLink "DeafWall$Reader" 187 B4_keepWallLine.1 ∈ lw_g := in_g (List.mem_of_getElem? (i := 637) (by decide +kernel)) rfl
theorem ml4_184 : Cond.methodLink "DeafWall$Reader" 184 B2_addLine.1 ∈ lw_g := in_g (List.mem_of_getElem? (i := 633) (by decide +kernel)) rfl
theorem ml4_98 : Cond.methodLink "DeafWall$Reader" 98 B4_kindOfWord.1 ∈ lw_g := in_g (List.mem_of_getElem? (i := 520) (by decide +kernel)) rfl
theorem ml4_105 : Cond.methodLink "DeafWall$Reader" 105 B4_countLine.1 ∈ lw_g := in_g (List.mem_of_getElem? (i := 603) (by decide +kernel)) rfl
theorem ml4_109 : Cond.methodLink "DeafWall$Reader" 109 B4_readTale.1 ∈ lw_g := in_g (List.mem_of_getElem? (i := 607) (by decide +kernel)) rfl
theorem ml4_119 : Cond.methodLink "DeafWall$Reader" 119 B4_keepLine.1 ∈ lw_g := in_g (List.mem_of_getElem? (i := 629) (by decide +kernel)) rfl
theorem ml4_37 : Cond.methodLink "DeafWall$Reader" 37 B2_init.1 ∈ lw_g := in_g (List.mem_of_getElem? (i := 475) (by decide +kernel)) rfl
theorem ml4_30 : Cond.methodLink "DeafWall$Reader" 30 B7_init.1 ∈ lw_g := in_g (List.mem_of_getElem? (i := 472) (by decide +kernel)) rfl
theorem ml4_75 : Cond.methodLink "DeafWall$Reader" 75 B7_hasCell.1 ∈ lw_g := in_g (List.mem_of_getElem? (i := 660) (by decide +kernel)) rfl
theorem ml4_71 : Cond.methodLink "DeafWall$Reader" 71 B4_readLine.1 ∈ lw_g := in_g (List.mem_of_getElem? (i := 516) (by decide +kernel)) rfl
theorem fl8_88 : FK "DeafWall" 88 6 2 .int false := ⟨_, _, _, _, ck6, by decide, in_g (List.mem_of_getElem? (i := 159) (by decide +kernel)) rfl, rfl, rfl⟩
theorem fl8_91 : FK "DeafWall" 91 6 3 .int false := ⟨_, _, _, _, ck6, by decide, in_g (List.mem_of_getElem? (i := 161) (by decide +kernel)) rfl, rfl, rfl⟩
theorem ml8_94 : Cond.methodLink "DeafWall" 94 B8_placeOf.1 ∈ lw_g := in_g (List.mem_of_getElem? (i := 460) (by decide +kernel)) rfl
theorem fl8_98 : FK "DeafWall" 98 6 0 (.array .byte) true := ⟨_, _, _, _, ck6, by decide, in_g (List.mem_of_getElem? (i := 155) (by decide +kernel)) rfl, rfl, rfl⟩
theorem ml8_102 : Cond.methodLink "DeafWall" 102 B4_read.1 ∈ lw_g := in_g (List.mem_of_getElem? (i := 464) (by decide +kernel)) rfl
theorem fl8_106 : FK "DeafWall" 106 4 2 .int false := ⟨_, _, _, _, ck4, by decide, in_g (List.mem_of_getElem? (i := 201) (by decide +kernel)) rfl, rfl, rfl⟩
theorem fl8_110 : FK "DeafWall" 110 4 0 (.object "DeafWall$Wall") false := ⟨_, _, _, _, ck4, by decide, in_g (List.mem_of_getElem? (i := 197) (by decide +kernel)) rfl, rfl, rfl⟩
theorem fl8_114 : FK "DeafWall" 114 4 1 (.object "DeafWall$Lines") false := ⟨_, _, _, _, ck4, by decide, in_g (List.mem_of_getElem? (i := 199) (by decide +kernel)) rfl, rfl, rfl⟩
theorem ml8_118 : Cond.methodLink "DeafWall" 118 B6_keep.1 ∈ lw_g := in_g (List.mem_of_getElem? (i := 664) (by decide +kernel)) rfl
theorem fl8_107 : FK "DeafWall" 107 4 3 .int false := ⟨_, _, _, _, ck4, by decide, in_g (List.mem_of_getElem? (i := 203) (by decide +kernel)) rfl, rfl, rfl⟩
theorem ml8_125 : Cond.methodLink "DeafWall" 125 B6_become.1 ∈ lw_g := in_g (List.mem_of_getElem? (i := 681) (by decide +kernel)) rfl
theorem fl8_197 : FK "DeafWall" 197 6 5 (.array (.object "DeafWall$Wall")) true := ⟨_, _, _, _, ck6, by decide, in_g (List.mem_of_getElem? (i := 165) (by decide +kernel)) rfl, rfl, rfl⟩
theorem ml8_129 : Cond.methodLink "DeafWall" 129 B8_wallAt.1 ∈ lw_g := in_g (List.mem_of_getElem? (i := 696) (by decide +kernel)) rfl
theorem fl8_160 : FK "DeafWall" 160 7 0 .int false := ⟨_, _, _, _, ck7, by decide, in_g (List.mem_of_getElem? (i := 263) (by decide +kernel)) rfl, rfl, rfl⟩
theorem fl8_163 : FK "DeafWall" 163 7 1 .int false := ⟨_, _, _, _, ck7, by decide, in_g (List.mem_of_getElem? (i := 266) (by decide +kernel)) rfl, rfl, rfl⟩
theorem fl8_166 : FK "DeafWall" 166 7 2 .int false := ⟨_, _, _, _, ck7, by decide, in_g (List.mem_of_getElem? (i := 270) (by decide +kernel)) rfl, rfl, rfl⟩
theorem fl8_169 : FK "DeafWall" 169 7 4 .int false := ⟨_, _, _, _, ck7, by decide, in_g (List.mem_of_getElem? (i := 278) (by decide +kernel)) rfl, rfl, rfl⟩
theorem fl8_172 : FK "DeafWall" 172 7 7 .int false := ⟨_, _, _, _, ck7, by decide, in_g (List.mem_of_getElem? (i := 287) (by decide +kernel)) rfl, rfl, rfl⟩
theorem ml8_151 : Cond.methodLink "DeafWall" 151 B7_hasFeeler.1 ∈ lw_g := in_g (List.mem_of_getElem? (i := 705) (by decide +kernel)) rfl
theorem fl8_157 : FK "DeafWall" 157 7 5 (.array .int) true := ⟨_, _, _, _, ck7, by decide, in_g (List.mem_of_getElem? (i := 281) (by decide +kernel)) rfl, rfl, rfl⟩
theorem fl8_154 : FK "DeafWall" 154 7 6 (.array .int) true := ⟨_, _, _, _, ck7, by decide, in_g (List.mem_of_getElem? (i := 284) (by decide +kernel)) rfl, rfl, rfl⟩
theorem ml8_142 : Cond.methodLink "DeafWall" 142 B7_hasTale.1 ∈ lw_g := in_g (List.mem_of_getElem? (i := 701) (by decide +kernel)) rfl
theorem fl8_148 : FK "DeafWall" 148 7 8 (.array .int) true := ⟨_, _, _, _, ck7, by decide, in_g (List.mem_of_getElem? (i := 290) (by decide +kernel)) rfl, rfl, rfl⟩
theorem fl8_145 : FK "DeafWall" 145 7 9 (.array .int) true := ⟨_, _, _, _, ck7, by decide, in_g (List.mem_of_getElem? (i := 292) (by decide +kernel)) rfl, rfl, rfl⟩
theorem ml8_133 : Cond.methodLink "DeafWall" 133 B7_hasCell.1 ∈ lw_g := in_g (List.mem_of_getElem? (i := 700) (by decide +kernel)) rfl
theorem fl8_139 : FK "DeafWall" 139 7 3 (.array .int) true := ⟨_, _, _, _, ck7, by decide, in_g (List.mem_of_getElem? (i := 275) (by decide +kernel)) rfl, rfl, rfl⟩
theorem fl8_205 : FK "DeafWall" 205 6 7 (.array (.object "DeafWall$Lines")) true := ⟨_, _, _, _, ck6, by decide, in_g (List.mem_of_getElem? (i := 169) (by decide +kernel)) rfl, rfl, rfl⟩
theorem fl8_201 : FK "DeafWall" 201 6 6 (.array (.object "DeafWall$Lines")) true := ⟨_, _, _, _, ck6, by decide, in_g (List.mem_of_getElem? (i := 167) (by decide +kernel)) rfl, rfl, rfl⟩
theorem fl8_183 : FK "DeafWall" 183 2 0 .int false := ⟨_, _, _, _, ck2, by decide, in_g (List.mem_of_getElem? (i := 481) (by decide +kernel)) rfl, rfl, rfl⟩
theorem fl8_188 : FK "DeafWall" 188 2 1 (.array .int) true := ⟨_, _, _, _, ck2, by decide, in_g (List.mem_of_getElem? (i := 484) (by decide +kernel)) rfl, rfl, rfl⟩
theorem fl8_191 : FK "DeafWall" 191 2 2 (.array .int) true := ⟨_, _, _, _, ck2, by decide, in_g (List.mem_of_getElem? (i := 487) (by decide +kernel)) rfl, rfl, rfl⟩
theorem fl8_194 : FK "DeafWall" 194 2 3 (.array .int) true := ⟨_, _, _, _, ck2, by decide, in_g (List.mem_of_getElem? (i := 490) (by decide +kernel)) rfl, rfl, rfl⟩
theorem ml8_175 : Cond.methodLink "DeafWall" 175 B8_linesAt.1 ∈ lw_g := in_g (List.mem_of_getElem? (i := 713) (by decide +kernel)) rfl
theorem ml8_179 : Cond.methodLink "DeafWall" 179 B8_lineOf.1 ∈ lw_g := in_g (List.mem_of_getElem? (i := 717) (by decide +kernel)) rfl
theorem fl5_40 : FK "DeafWall$Stand" 40 5 1 .int false := ⟨_, _, _, _, ck5, by decide, in_g (List.mem_of_getElem? (i := 315) (by decide +kernel)) rfl, rfl, rfl⟩
theorem fl5_44 : FK "DeafWall$Stand" 44 5 2 .int false := ⟨_, _, _, _, ck5, by decide, in_g (List.mem_of_getElem? (i := 316) (by decide +kernel)) rfl, rfl, rfl⟩
theorem ml5_47 : Cond.methodLink "DeafWall$Stand" 47 B18_fillI.1 ∈ lw_g := in_g (List.mem_of_getElem? (i := 736) (by decide +kernel)) rfl
theorem fl5_53 : FK "DeafWall$Stand" 53 7 3 (.array .int) true := ⟨_, _, _, _, ck7, by decide, in_g (List.mem_of_getElem? (i := 272) (by decide +kernel)) rfl, rfl, rfl⟩
theorem fl5_60 : FK "DeafWall$Stand" 60 7 5 (.array .int) true := ⟨_, _, _, _, ck7, by decide, in_g (List.mem_of_getElem? (i := 280) (by decide +kernel)) rfl, rfl, rfl⟩
theorem fl5_63 : FK "DeafWall$Stand" 63 5 10 .int false := ⟨_, _, _, _, ck5, by decide, in_g (List.mem_of_getElem? (i := 324) (by decide +kernel)) rfl, rfl, rfl⟩
theorem fl5_66 : FK "DeafWall$Stand" 66 5 11 .int false := ⟨_, _, _, _, ck5, by decide, in_g (List.mem_of_getElem? (i := 325) (by decide +kernel)) rfl, rfl, rfl⟩
theorem fl5_69 : FK "DeafWall$Stand" 69 5 12 .int false := ⟨_, _, _, _, ck5, by decide, in_g (List.mem_of_getElem? (i := 327) (by decide +kernel)) rfl, rfl, rfl⟩
theorem fl5_72 : FK "DeafWall$Stand" 72 5 13 .int false := ⟨_, _, _, _, ck5, by decide, in_g (List.mem_of_getElem? (i := 329) (by decide +kernel)) rfl, rfl, rfl⟩
theorem fl5_75 : FK "DeafWall$Stand" 75 5 14 .int false := ⟨_, _, _, _, ck5, by decide, in_g (List.mem_of_getElem? (i := 331) (by decide +kernel)) rfl, rfl, rfl⟩
theorem fl5_78 : FK "DeafWall$Stand" 78 5 15 .int false := ⟨_, _, _, _, ck5, by decide, in_g (List.mem_of_getElem? (i := 333) (by decide +kernel)) rfl, rfl, rfl⟩
theorem fl5_151 : FK "DeafWall$Stand" 151 7 8 (.array .int) true := ⟨_, _, _, _, ck7, by decide, in_g (List.mem_of_getElem? (i := 289) (by decide +kernel)) rfl, rfl, rfl⟩
theorem ml5_157 : Cond.methodLinkNest "DeafWall$Stand" 157 B8_markOf.1 "DeafWall" ∈ lw_tbl := List.mem_of_getElem? (i := 759) (by decide +kernel)
theorem fl5_145 : FK "DeafWall$Stand" 145 7 6 (.array .int) true := ⟨_, _, _, _, ck7, by decide, in_g (List.mem_of_getElem? (i := 283) (by decide +kernel)) rfl, rfl, rfl⟩
theorem fl5_148 : FK "DeafWall$Stand" 148 7 7 .int false := ⟨_, _, _, _, ck7, by decide, in_g (List.mem_of_getElem? (i := 286) (by decide +kernel)) rfl, rfl, rfl⟩
theorem ml5_154 : Cond.methodLink "DeafWall$Stand" 154 B5_endsWith.1 ∈ lw_g := in_g (List.mem_of_getElem? (i := 755) (by decide +kernel)) rfl
theorem ml5_125 : Cond.methodLinkNest "DeafWall$Stand" 125 B8_passOn.1 "DeafWall" ∈ lw_tbl := List.mem_of_getElem? (i := 746) (by decide +kernel)
theorem fl5_129 : FK "DeafWall$Stand" 129 7 2 .int false := ⟨_, _, _, _, ck7, by decide, in_g (List.mem_of_getElem? (i := 269) (by decide +kernel)) rfl, rfl, rfl⟩
theorem fl5_138 : FK "DeafWall$Stand" 138 7 4 .int false := ⟨_, _, _, _, ck7, by decide, in_g (List.mem_of_getElem? (i := 277) (by decide +kernel)) rfl, rfl, rfl⟩
theorem ml5_141 : Cond.methodLink "DeafWall$Stand" 141 B5_feel.1 ∈ lw_g := in_g (List.mem_of_getElem? (i := 751) (by decide +kernel)) rfl
theorem ml5_118 : Cond.methodLink "DeafWall$Stand" 118 B7_hasCell.1 ∈ lw_g := in_g (List.mem_of_getElem? (i := 766) (by decide +kernel)) rfl
theorem ml5_122 : Cond.methodLink "DeafWall$Stand" 122 B7_hasFeeler.1 ∈ lw_g := in_g (List.mem_of_getElem? (i := 771) (by decide +kernel)) rfl
theorem ml5_103 : Cond.methodLink "DeafWall$Stand" 103 B5_beat.1 ∈ lw_g := in_g (List.mem_of_getElem? (i := 742) (by decide +kernel)) rfl
theorem ml5_107 : Cond.methodLink "DeafWall$Stand" 107 B5_deaden.1 ∈ lw_g := in_g (List.mem_of_getElem? (i := 762) (by decide +kernel)) rfl
theorem ml5_111 : Cond.methodLink "DeafWall$Stand" 111 B5_silence.1 ∈ lw_g := in_g (List.mem_of_getElem? (i := 767) (by decide +kernel)) rfl
theorem ml5_115 : Cond.methodLink "DeafWall$Stand" 115 B5_stroll.1 ∈ lw_g := in_g (List.mem_of_getElem? (i := 772) (by decide +kernel)) rfl
theorem ml5_81 : Cond.methodLink "DeafWall$Stand" 81 B5_begin.1 ∈ lw_g := in_g (List.mem_of_getElem? (i := 732) (by decide +kernel)) rfl
theorem fl5_85 : FK "DeafWall$Stand" 85 2 0 .int false := ⟨_, _, _, _, ck2, by decide, in_g (List.mem_of_getElem? (i := 480) (by decide +kernel)) rfl, rfl, rfl⟩
theorem fl5_90 : FK "DeafWall$Stand" 90 2 1 (.array .int) true := ⟨_, _, _, _, ck2, by decide, in_g (List.mem_of_getElem? (i := 483) (by decide +kernel)) rfl, rfl, rfl⟩
theorem fl5_93 : FK "DeafWall$Stand" 93 2 2 (.array .int) true := ⟨_, _, _, _, ck2, by decide, in_g (List.mem_of_getElem? (i := 486) (by decide +kernel)) rfl, rfl, rfl⟩
theorem fl5_96 : FK "DeafWall$Stand" 96 2 3 (.array .int) true := ⟨_, _, _, _, ck2, by decide, in_g (List.mem_of_getElem? (i := 489) (by decide +kernel)) rfl, rfl, rfl⟩
theorem ml5_99 : Cond.methodLink "DeafWall$Stand" 99 B5_does.1 ∈ lw_g := in_g (List.mem_of_getElem? (i := 738) (by decide +kernel)) rfl
theorem ml8_208 : Cond.methodLink "DeafWall" 208 B5_live.1 ∈ lw_g := in_g (List.mem_of_getElem? (i := 728) (by decide +kernel)) rfl
theorem ml5_165 : Cond.methodLink "DeafWall$Stand" 165 B12_bitCount.1 ∈ lw_g := in_g (List.mem_of_getElem? (i := 788) (by decide +kernel)) rfl
theorem ml5_161 : Cond.methodLink "DeafWall$Stand" 161 B5_couples.1 ∈ lw_g := in_g (List.mem_of_getElem? (i := 784) (by decide +kernel)) rfl
theorem ml8_212 : Cond.methodLink "DeafWall" 212 B5_answer.1 ∈ lw_g := in_g (List.mem_of_getElem? (i := 780) (by decide +kernel)) rfl
theorem fl8_216 : FK "DeafWall" 216 5 11 .int false := ⟨_, _, _, _, ck5, by decide, in_g (List.mem_of_getElem? (i := 326) (by decide +kernel)) rfl, rfl, rfl⟩
theorem fl8_219 : FK "DeafWall" 219 5 12 .int false := ⟨_, _, _, _, ck5, by decide, in_g (List.mem_of_getElem? (i := 328) (by decide +kernel)) rfl, rfl, rfl⟩
theorem ml8_222 : Cond.methodLink "DeafWall" 222 B5_keenest.1 ∈ lw_g := in_g (List.mem_of_getElem? (i := 798) (by decide +kernel)) rfl
theorem fl8_226 : FK "DeafWall" 226 5 13 .int false := ⟨_, _, _, _, ck5, by decide, in_g (List.mem_of_getElem? (i := 330) (by decide +kernel)) rfl, rfl, rfl⟩
theorem fl8_229 : FK "DeafWall" 229 5 14 .int false := ⟨_, _, _, _, ck5, by decide, in_g (List.mem_of_getElem? (i := 332) (by decide +kernel)) rfl, rfl, rfl⟩
theorem fl8_232 : FK "DeafWall" 232 5 15 .int false := ⟨_, _, _, _, ck5, by decide, in_g (List.mem_of_getElem? (i := 334) (by decide +kernel)) rfl, rfl, rfl⟩
theorem fl0_7 : FK "DeafWall$Draw" 7 0 0 .int false := ⟨_, _, _, _, ck0, by decide, in_g (List.mem_of_getElem? (i := 813) (by decide +kernel)) rfl, rfl, rfl⟩
theorem ml8_247 : Cond.methodLink "DeafWall" 247 B0_below.1 ∈ lw_g := in_g (List.mem_of_getElem? (i := 821) (by decide +kernel)) rfl
theorem ml8_254 : Cond.methodLink "DeafWall" 254 B7_cells.1 ∈ lw_g := in_g (List.mem_of_getElem? (i := 827) (by decide +kernel)) rfl
theorem ml8_250 : Cond.methodLink "DeafWall" 250 B5_does.1 ∈ lw_g := in_g (List.mem_of_getElem? (i := 826) (by decide +kernel)) rfl
theorem ml8_235 : Cond.methodLink "DeafWall" 235 B5_begin.1 ∈ lw_g := in_g (List.mem_of_getElem? (i := 806) (by decide +kernel)) rfl
theorem ml8_241 : Cond.methodLink "DeafWall" 241 B0_init.1 ∈ lw_g := in_g (List.mem_of_getElem? (i := 809) (by decide +kernel)) rfl
theorem ml8_243 : Cond.methodLink "DeafWall" 243 B8_drawDeed.1 ∈ lw_g := in_g (List.mem_of_getElem? (i := 817) (by decide +kernel)) rfl
theorem ml8_278 : Cond.methodLink "DeafWall" 278 B8_isLength.1 ∈ lw_g := in_g (List.mem_of_getElem? (i := 838) (by decide +kernel)) rfl
theorem fl1_24 : FK "DeafWall$Echo" 24 7 3 (.array .int) true := ⟨_, _, _, _, ck7, by decide, in_g (List.mem_of_getElem? (i := 273) (by decide +kernel)) rfl, rfl, rfl⟩
theorem ml1_33 : Cond.methodLink "DeafWall$Echo" 33 B7_hasCell.1 ∈ lw_g := in_g (List.mem_of_getElem? (i := 854) (by decide +kernel)) rfl
theorem fl1_43 : FK "DeafWall$Echo" 43 7 2 .int false := ⟨_, _, _, _, ck7, by decide, in_g (List.mem_of_getElem? (i := 268) (by decide +kernel)) rfl, rfl, rfl⟩
theorem ml1_37 : Cond.methodLink "DeafWall$Echo" 37 B18_fillI.1 ∈ lw_g := in_g (List.mem_of_getElem? (i := 855) (by decide +kernel)) rfl
theorem ml1_47 : Cond.methodLinkNest "DeafWall$Echo" 47 B8_passOn.1 "DeafWall" ∈ lw_tbl := List.mem_of_getElem? (i := 856) (by decide +kernel)
theorem ml1_20 : Cond.methodLink "DeafWall$Echo" 20 B1_soundWith.1 ∈ lw_g := in_g (List.mem_of_getElem? (i := 849) (by decide +kernel)) rfl
theorem ml8_287 : Cond.methodLink "DeafWall" 287 B1_beatsFelt.1 ∈ lw_g := in_g (List.mem_of_getElem? (i := 861) (by decide +kernel)) rfl
theorem ml8_281 : Cond.methodLink "DeafWall" 281 B1_sound.1 ∈ lw_g := in_g (List.mem_of_getElem? (i := 845) (by decide +kernel)) rfl
theorem ml8_284 : Cond.methodLink "DeafWall" 284 B8_hear.1 ∈ lw_g := in_g (List.mem_of_getElem? (i := 857) (by decide +kernel)) rfl
theorem ml8_272 : Cond.methodLink "DeafWall" 272 B8_feltBy.1 ∈ lw_g := in_g (List.mem_of_getElem? (i := 869) (by decide +kernel)) rfl
theorem ml1_51 : Cond.methodLink "DeafWall$Echo" 51 B7_cells.1 ∈ lw_g := in_g (List.mem_of_getElem? (i := 877) (by decide +kernel)) rfl
theorem ml1_55 : Cond.methodLink "DeafWall$Echo" 55 B1_forceBy.1 ∈ lw_g := in_g (List.mem_of_getElem? (i := 878) (by decide +kernel)) rfl
theorem ml8_292 : Cond.methodLink "DeafWall" 292 B8_isTold.1 ∈ lw_g := in_g (List.mem_of_getElem? (i := 886) (by decide +kernel)) rfl
theorem ml8_257 : Cond.methodLink "DeafWall" 257 B8_isTune.1 ∈ lw_g := in_g (List.mem_of_getElem? (i := 835) (by decide +kernel)) rfl
theorem ml8_261 : Cond.methodLink "DeafWall" 261 B8_listen.1 ∈ lw_g := in_g (List.mem_of_getElem? (i := 841) (by decide +kernel)) rfl
theorem ml8_275 : Cond.methodLink "DeafWall" 275 B8_talesTold.1 ∈ lw_g := in_g (List.mem_of_getElem? (i := 883) (by decide +kernel)) rfl
theorem ml8_268 : Cond.methodLink "DeafWall" 268 B1_allForce.1 ∈ lw_g := in_g (List.mem_of_getElem? (i := 873) (by decide +kernel)) rfl
theorem ml8_264 : Cond.methodLink "DeafWall" 264 B8_feelersAt.1 ∈ lw_g := in_g (List.mem_of_getElem? (i := 865) (by decide +kernel)) rfl
theorem ml8_305 : Cond.methodLink "DeafWall" 305 B12_bitCount.1 ∈ lw_g := in_g (List.mem_of_getElem? (i := 905) (by decide +kernel)) rfl
theorem ml8_302 : Cond.methodLink "DeafWall" 302 B8_beatsFeltByAll.1 ∈ lw_g := in_g (List.mem_of_getElem? (i := 906) (by decide +kernel)) rfl
theorem ml8_299 : Cond.methodLink "DeafWall" 299 B8_couplesTold.1 ∈ lw_g := in_g (List.mem_of_getElem? (i := 901) (by decide +kernel)) rfl
theorem ml8_295 : Cond.methodLink "DeafWall" 295 B8_best.1 ∈ lw_g := in_g (List.mem_of_getElem? (i := 897) (by decide +kernel)) rfl
theorem ml8_310 : Cond.methodLink "DeafWall" 310 B8_areTwo.1 ∈ lw_g := in_g (List.mem_of_getElem? (i := 918) (by decide +kernel)) rfl
theorem ml8_314 : Cond.methodLink "DeafWall" 314 B8_leastPush.1 ∈ lw_g := in_g (List.mem_of_getElem? (i := 925) (by decide +kernel)) rfl
theorem ml8_317 : Cond.methodLink "DeafWall" 317 B12_numberOfTrailingZeros.1 ∈ lw_g := in_g (List.mem_of_getElem? (i := 929) (by decide +kernel)) rfl
theorem ml8_320 : Cond.methodLink "DeafWall" 320 B1_soundWith.1 ∈ lw_g := in_g (List.mem_of_getElem? (i := 937) (by decide +kernel)) rfl
theorem fl3_33 : FK "DeafWall$Paths" 33 7 0 .int false := ⟨_, _, _, _, ck7, by decide, in_g (List.mem_of_getElem? (i := 262) (by decide +kernel)) rfl, rfl, rfl⟩
theorem fl3_27 : FK "DeafWall$Paths" 27 7 1 .int false := ⟨_, _, _, _, ck7, by decide, in_g (List.mem_of_getElem? (i := 265) (by decide +kernel)) rfl, rfl, rfl⟩
theorem ml3_36 : Cond.methodLink "DeafWall$Paths" 36 B3_leastBeside.1 ∈ lw_g := in_g (List.mem_of_getElem? (i := 951) (by decide +kernel)) rfl
theorem fl3_40 : FK "DeafWall$Paths" 40 7 3 (.array .int) true := ⟨_, _, _, _, ck7, by decide, in_g (List.mem_of_getElem? (i := 274) (by decide +kernel)) rfl, rfl, rfl⟩
theorem ml3_17 : Cond.methodLink "DeafWall$Paths" 17 B18_fillI.1 ∈ lw_g := in_g (List.mem_of_getElem? (i := 947) (by decide +kernel)) rfl
theorem ml3_23 : Cond.methodLink "DeafWall$Paths" 23 B3_shorten.1 ∈ lw_g := in_g (List.mem_of_getElem? (i := 948) (by decide +kernel)) rfl
theorem ml8_324 : Cond.methodLink "DeafWall" 324 B3_lay.1 ∈ lw_g := in_g (List.mem_of_getElem? (i := 942) (by decide +kernel)) rfl
theorem ml8_327 : Cond.methodLink "DeafWall" 327 B3_lossTo.1 ∈ lw_g := in_g (List.mem_of_getElem? (i := 955) (by decide +kernel)) rfl
theorem ml8_330 : Cond.methodLink "DeafWall" 330 B8_longestRow.1 ∈ lw_g := in_g (List.mem_of_getElem? (i := 963) (by decide +kernel)) rfl
theorem ml8_338 : Cond.methodLink "DeafWall" 338 B8_hearDuet.1 ∈ lw_g := in_g (List.mem_of_getElem? (i := 970) (by decide +kernel)) rfl
theorem ml8_341 : Cond.methodLink "DeafWall" 341 B8_gain.1 ∈ lw_g := in_g (List.mem_of_getElem? (i := 974) (by decide +kernel)) rfl
theorem ml8_344 : Cond.methodLink "DeafWall" 344 B8_bestOfFour.1 ∈ lw_g := in_g (List.mem_of_getElem? (i := 978) (by decide +kernel)) rfl
theorem ml8_358 : Cond.methodLink "DeafWall" 358 B18_fillJ.1 ∈ lw_g := in_g (List.mem_of_getElem? (i := 991) (by decide +kernel)) rfl
theorem ml8_366 : Cond.methodLink "DeafWall" 366 B8_greatestDivisor.1 ∈ lw_g := in_g (List.mem_of_getElem? (i := 998) (by decide +kernel)) rfl
theorem ml8_350 : Cond.methodLink "DeafWall" 350 B8_weaken.1 ∈ lw_g := in_g (List.mem_of_getElem? (i := 987) (by decide +kernel)) rfl
theorem ml8_354 : Cond.methodLink "DeafWall" 354 B8_leastTerm.1 ∈ lw_g := in_g (List.mem_of_getElem? (i := 995) (by decide +kernel)) rfl
theorem ml8_386 : Cond.methodLink "DeafWall" 386 B12_numberOfLeadingZeros.1 ∈ lw_g := in_g (List.mem_of_getElem? (i := 1017) (by decide +kernel)) rfl
theorem ml8_392 : Cond.methodLink "DeafWall" 392 B8_lengthOf.1 ∈ lw_g := in_g (List.mem_of_getElem? (i := 1014) (by decide +kernel)) rfl
theorem ml8_374 : Cond.methodLink "DeafWall" 374 B8_tail.1 ∈ lw_g := in_g (List.mem_of_getElem? (i := 1007) (by decide +kernel)) rfl
theorem ml8_377 : Cond.methodLink "DeafWall" 377 B8_overhang.1 ∈ lw_g := in_g (List.mem_of_getElem? (i := 1010) (by decide +kernel)) rfl
theorem ml8_380 : Cond.methodLink "DeafWall" 380 B8_lay.1 ∈ lw_g := in_g (List.mem_of_getElem? (i := 1020) (by decide +kernel)) rfl
theorem ml8_371 : Cond.methodLink "DeafWall" 371 B18_fillI.1 ∈ lw_g := in_g (List.mem_of_getElem? (i := 1006) (by decide +kernel)) rfl
theorem ml8_382 : Cond.methodLink "DeafWall" 382 B8_layFurther.1 ∈ lw_g := in_g (List.mem_of_getElem? (i := 1024) (by decide +kernel)) rfl
theorem ml8_408 : Cond.methodLink "DeafWall" 408 B8_markOf.1 ∈ lw_g := in_g (List.mem_of_getElem? (i := 1039) (by decide +kernel)) rfl
theorem ml8_398 : Cond.methodLink "DeafWall" 398 B8_alikeFrom.1 ∈ lw_g := in_g (List.mem_of_getElem? (i := 1040) (by decide +kernel)) rfl
theorem ml8_395 : Cond.methodLink "DeafWall" 395 B8_alikeFromBehind.1 ∈ lw_g := in_g (List.mem_of_getElem? (i := 1036) (by decide +kernel)) rfl
theorem ml8_402 : Cond.methodLink "DeafWall" 402 B8_longestShared.1 ∈ lw_g := in_g (List.mem_of_getElem? (i := 1043) (by decide +kernel)) rfl
theorem ml8_405 : Cond.methodLink "DeafWall" 405 B8_isTurned.1 ∈ lw_g := in_g (List.mem_of_getElem? (i := 1046) (by decide +kernel)) rfl
theorem ml8_421 : Cond.methodLink "DeafWall" 421 B8_factsAreSo.1 ∈ lw_g := in_g (List.mem_of_getElem? (i := 1057) (by decide +kernel)) rfl
theorem ml8_425 : Cond.methodLink "DeafWall" 425 B8_countFelt.1 ∈ lw_g := in_g (List.mem_of_getElem? (i := 1069) (by decide +kernel)) rfl
theorem ml8_411 : Cond.methodLink "DeafWall" 411 B8_fit.1 ∈ lw_g := in_g (List.mem_of_getElem? (i := 1053) (by decide +kernel)) rfl
theorem ml8_414 : Cond.methodLink "DeafWall" 414 B8_sure.1 ∈ lw_g := in_g (List.mem_of_getElem? (i := 1061) (by decide +kernel)) rfl
theorem ml8_418 : Cond.methodLink "DeafWall" 418 B8_ask.1 ∈ lw_g := in_g (List.mem_of_getElem? (i := 1065) (by decide +kernel)) rfl
theorem ml8_428 : Cond.methodLink "DeafWall" 428 B7_stepsBetween.1 ∈ lw_g := in_g (List.mem_of_getElem? (i := 1089) (by decide +kernel)) rfl
theorem ml7_55 : Cond.methodLink "DeafWall$Wall" 55 B7_cells.1 ∈ lw_g := in_g (List.mem_of_getElem? (i := 1112) (by decide +kernel)) rfl
theorem ml8_431 : Cond.methodLink "DeafWall" 431 B8_shadow.1 ∈ lw_g := in_g (List.mem_of_getElem? (i := 1100) (by decide +kernel)) rfl
theorem ml8_435 : Cond.methodLink "DeafWall" 435 B8_farthest.1 ∈ lw_g := in_g (List.mem_of_getElem? (i := 1104) (by decide +kernel)) rfl
theorem ml8_439 : Cond.methodLink "DeafWall" 439 B7_deadest.1 ∈ lw_g := in_g (List.mem_of_getElem? (i := 1108) (by decide +kernel)) rfl
theorem ml8_442 : Cond.methodLink "DeafWall" 442 B7_allDeads.1 ∈ lw_g := in_g (List.mem_of_getElem? (i := 1113) (by decide +kernel)) rfl
theorem ml8_445 : Cond.methodLink "DeafWall" 445 B7_tenderest.1 ∈ lw_g := in_g (List.mem_of_getElem? (i := 1117) (by decide +kernel)) rfl
theorem ml8_448 : Cond.methodLink "DeafWall" 448 B7_sharing.1 ∈ lw_g := in_g (List.mem_of_getElem? (i := 1121) (by decide +kernel)) rfl
theorem ml8_451 : Cond.methodLink "DeafWall" 451 B7_seams.1 ∈ lw_g := in_g (List.mem_of_getElem? (i := 1125) (by decide +kernel)) rfl
