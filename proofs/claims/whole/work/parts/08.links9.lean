theorem fl9_7 : FK "DeafWallModel" 7 9 0 (.array .int) true := ⟨_, _, _, _, ck9, by decide, in_g (List.mem_of_getElem? (i := 1135) (by decide +kernel)) rfl, rfl, rfl⟩
theorem fl9_13 : FK "DeafWallModel" 13 9 1 (.array .boolean) true := ⟨_, _, _, _, ck9, by decide, in_g (List.mem_of_getElem? (i := 1136) (by decide +kernel)) rfl, rfl, rfl⟩
theorem fl9_17 : FK "DeafWallModel" 17 9 10 (.array .int) true := ⟨_, _, _, _, ck9, by decide, in_g (List.mem_of_getElem? (i := 1145) (by decide +kernel)) rfl, rfl, rfl⟩
theorem fl9_20 : FK "DeafWallModel" 20 9 23 (.array .int) true := ⟨_, _, _, _, ck9, by decide, in_g (List.mem_of_getElem? (i := 1158) (by decide +kernel)) rfl, rfl, rfl⟩
theorem fl9_23 : FK "DeafWallModel" 23 9 24 (.array .int) true := ⟨_, _, _, _, ck9, by decide, in_g (List.mem_of_getElem? (i := 1159) (by decide +kernel)) rfl, rfl, rfl⟩
theorem fl9_26 : FK "DeafWallModel" 26 9 25 (.array .int) true := ⟨_, _, _, _, ck9, by decide, in_g (List.mem_of_getElem? (i := 1160) (by decide +kernel)) rfl, rfl, rfl⟩
theorem fl9_29 : FK "DeafWallModel" 29 9 26 (.array .int) true := ⟨_, _, _, _, ck9, by decide, in_g (List.mem_of_getElem? (i := 1161) (by decide +kernel)) rfl, rfl, rfl⟩
theorem fl9_32 : FK "DeafWallModel" 32 9 27 (.array .int) true := ⟨_, _, _, _, ck9, by decide, in_g (List.mem_of_getElem? (i := 1162) (by decide +kernel)) rfl, rfl, rfl⟩
theorem fl9_35 : FK "DeafWallModel" 35 9 28 (.array .int) true := ⟨_, _, _, _, ck9, by decide, in_g (List.mem_of_getElem? (i := 1163) (by decide +kernel)) rfl, rfl, rfl⟩
theorem fl9_38 : FK "DeafWallModel" 38 9 29 (.array .int) true := ⟨_, _, _, _, ck9, by decide, in_g (List.mem_of_getElem? (i := 1164) (by decide +kernel)) rfl, rfl, rfl⟩
theorem fl9_41 : FK "DeafWallModel" 41 9 30 (.array .int) true := ⟨_, _, _, _, ck9, by decide, in_g (List.mem_of_getElem? (i := 1165) (by decide +kernel)) rfl, rfl, rfl⟩
theorem fl9_44 : FK "DeafWallModel" 44 9 31 (.array .int) true := ⟨_, _, _, _, ck9, by decide, in_g (List.mem_of_getElem? (i := 1166) (by decide +kernel)) rfl, rfl, rfl⟩
theorem fl9_47 : FK "DeafWallModel" 47 9 32 (.array .long) true := ⟨_, _, _, _, ck9, by decide, in_g (List.mem_of_getElem? (i := 1167) (by decide +kernel)) rfl, rfl, rfl⟩
theorem fl9_51 : FK "DeafWallModel" 51 9 33 (.array .int) true := ⟨_, _, _, _, ck9, by decide, in_g (List.mem_of_getElem? (i := 1168) (by decide +kernel)) rfl, rfl, rfl⟩
theorem fl9_54 : FK "DeafWallModel" 54 9 34 (.array .long) true := ⟨_, _, _, _, ck9, by decide, in_g (List.mem_of_getElem? (i := 1169) (by decide +kernel)) rfl, rfl, rfl⟩
theorem fl9_57 : FK "DeafWallModel" 57 9 35 (.array .int) true := ⟨_, _, _, _, ck9, by decide, in_g (List.mem_of_getElem? (i := 1170) (by decide +kernel)) rfl, rfl, rfl⟩
theorem fl9_60 : FK "DeafWallModel" 60 9 43 (.array .int) true := ⟨_, _, _, _, ck9, by decide, in_g (List.mem_of_getElem? (i := 1178) (by decide +kernel)) rfl, rfl, rfl⟩
theorem fl9_63 : FK "DeafWallModel" 63 9 44 (.array .int) true := ⟨_, _, _, _, ck9, by decide, in_g (List.mem_of_getElem? (i := 1179) (by decide +kernel)) rfl, rfl, rfl⟩
theorem fl9_66 : FK "DeafWallModel" 66 9 2 .int false := ⟨_, _, _, _, ck9, by decide, in_g (List.mem_of_getElem? (i := 1137) (by decide +kernel)) rfl, rfl, rfl⟩
theorem ml9_70 : Cond.methodLink "DeafWallModel" 70 B9_four.1 ∈ lw_g := in_g (List.mem_of_getElem? (i := 1314) (by decide +kernel)) rfl
theorem ml9_76 : Cond.methodLink "DeafWallModel" 76 B9_eight.1 ∈ lw_g := in_g (List.mem_of_getElem? (i := 1317) (by decide +kernel)) rfl
theorem fl9_80 : FK "DeafWallModel" 80 9 3 .int false := ⟨_, _, _, _, ck9, by decide, in_g (List.mem_of_getElem? (i := 1138) (by decide +kernel)) rfl, rfl, rfl⟩
theorem ml9_83 : Cond.methodLink "DeafWallModel" 83 B9_byteAt.1 ∈ lw_g := in_g (List.mem_of_getElem? (i := 1302) (by decide +kernel)) rfl
theorem fl9_87 : FK "DeafWallModel" 87 9 4 .int false := ⟨_, _, _, _, ck9, by decide, in_g (List.mem_of_getElem? (i := 1139) (by decide +kernel)) rfl, rfl, rfl⟩
theorem ml9_93 : Cond.methodLink "DeafWallModel" 93 B9_isLetter.1 ∈ lw_g := in_g (List.mem_of_getElem? (i := 1306) (by decide +kernel)) rfl
theorem ml9_108 : Cond.methodLink "DeafWallModel" 108 B9_isDigit.1 ∈ lw_g := in_g (List.mem_of_getElem? (i := 1321) (by decide +kernel)) rfl
theorem fl9_90 : FK "DeafWallModel" 90 9 5 .int false := ⟨_, _, _, _, ck9, by decide, in_g (List.mem_of_getElem? (i := 1140) (by decide +kernel)) rfl, rfl, rfl⟩
theorem fl9_111 : FK "DeafWallModel" 111 9 6 .int false := ⟨_, _, _, _, ck9, by decide, in_g (List.mem_of_getElem? (i := 1141) (by decide +kernel)) rfl, rfl, rfl⟩
theorem ml9_101 : Cond.methodLink "DeafWallModel" 101 B9_wordOf.1 ∈ lw_g := in_g (List.mem_of_getElem? (i := 1311) (by decide +kernel)) rfl
theorem fl9_105 : FK "DeafWallModel" 105 9 7 .int false := ⟨_, _, _, _, ck9, by decide, in_g (List.mem_of_getElem? (i := 1142) (by decide +kernel)) rfl, rfl, rfl⟩
theorem fl9_114 : FK "DeafWallModel" 114 9 8 .boolean false := ⟨_, _, _, _, ck9, by decide, in_g (List.mem_of_getElem? (i := 1143) (by decide +kernel)) rfl, rfl, rfl⟩
theorem ml9_118 : Cond.methodLink "DeafWallModel" 118 B9_ends.1 ∈ lw_g := in_g (List.mem_of_getElem? (i := 1332) (by decide +kernel)) rfl
theorem ml9_121 : Cond.methodLink "DeafWallModel" 121 B9_isIn.1 ∈ lw_g := in_g (List.mem_of_getElem? (i := 1287) (by decide +kernel)) rfl
theorem ml9_129 : Cond.methodLink "DeafWallModel" 129 B9_advance.1 ∈ lw_g := in_g (List.mem_of_getElem? (i := 1298) (by decide +kernel)) rfl
theorem ml9_125 : Cond.methodLink "DeafWallModel" 125 B9_also.1 ∈ lw_g := in_g (List.mem_of_getElem? (i := 1340) (by decide +kernel)) rfl
theorem ml9_132 : Cond.methodLink "DeafWallModel" 132 B9_numbered.1 ∈ lw_g := in_g (List.mem_of_getElem? (i := 1336) (by decide +kernel)) rfl
theorem fl9_136 : FK "DeafWallModel" 136 9 9 .int false := ⟨_, _, _, _, ck9, by decide, in_g (List.mem_of_getElem? (i := 1144) (by decide +kernel)) rfl, rfl, rfl⟩
theorem ml9_139 : Cond.methodLink "DeafWallModel" 139 B9_cellTold.1 ∈ lw_g := in_g (List.mem_of_getElem? (i := 1344) (by decide +kernel)) rfl
theorem ml9_143 : Cond.methodLink "DeafWallModel" 143 B9_wordIn.1 ∈ lw_g := in_g (List.mem_of_getElem? (i := 1328) (by decide +kernel)) rfl
theorem ml9_153 : Cond.methodLink "DeafWallModel" 153 B9_endsLine.1 ∈ lw_g := in_g (List.mem_of_getElem? (i := 1356) (by decide +kernel)) rfl
theorem ml9_146 : Cond.methodLink "DeafWallModel" 146 B9_feelerTold.1 ∈ lw_g := in_g (List.mem_of_getElem? (i := 1348) (by decide +kernel)) rfl
theorem ml9_150 : Cond.methodLink "DeafWallModel" 150 B9_taleTold.1 ∈ lw_g := in_g (List.mem_of_getElem? (i := 1352) (by decide +kernel)) rfl
theorem ml9_156 : Cond.methodLink "DeafWallModel" 156 B9_isOf.1 ∈ lw_g := in_g (List.mem_of_getElem? (i := 1290) (by decide +kernel)) rfl
theorem ml9_160 : Cond.methodLink "DeafWallModel" 160 B9_beginsText.1 ∈ lw_g := in_g (List.mem_of_getElem? (i := 1294) (by decide +kernel)) rfl
theorem ml9_163 : Cond.methodLink "DeafWallModel" 163 B9_wallLine.1 ∈ lw_g := in_g (List.mem_of_getElem? (i := 1324) (by decide +kernel)) rfl
theorem ml9_166 : Cond.methodLink "DeafWallModel" 166 B9_dayLine.1 ∈ lw_g := in_g (List.mem_of_getElem? (i := 1360) (by decide +kernel)) rfl
theorem ml9_169 : Cond.methodLink "DeafWallModel" 169 B9_logLine.1 ∈ lw_g := in_g (List.mem_of_getElem? (i := 1364) (by decide +kernel)) rfl
theorem ml9_172 : Cond.methodLink "DeafWallModel" 172 B9_sizeOf.1 ∈ lw_g := in_g (List.mem_of_getElem? (i := 1368) (by decide +kernel)) rfl
theorem ml9_175 : Cond.methodLink "DeafWallModel" 175 B9_placeOf.1 ∈ lw_g := in_g (List.mem_of_getElem? (i := 1371) (by decide +kernel)) rfl
theorem fl9_178 : FK "DeafWallModel" 178 9 11 .int false := ⟨_, _, _, _, ck9, by decide, in_g (List.mem_of_getElem? (i := 1146) (by decide +kernel)) rfl, rfl, rfl⟩
theorem fl9_181 : FK "DeafWallModel" 181 9 12 .int false := ⟨_, _, _, _, ck9, by decide, in_g (List.mem_of_getElem? (i := 1147) (by decide +kernel)) rfl, rfl, rfl⟩
theorem fl9_184 : FK "DeafWallModel" 184 9 13 .int false := ⟨_, _, _, _, ck9, by decide, in_g (List.mem_of_getElem? (i := 1148) (by decide +kernel)) rfl, rfl, rfl⟩
theorem fl9_187 : FK "DeafWallModel" 187 9 14 .int false := ⟨_, _, _, _, ck9, by decide, in_g (List.mem_of_getElem? (i := 1149) (by decide +kernel)) rfl, rfl, rfl⟩
theorem fl9_190 : FK "DeafWallModel" 190 9 15 .int false := ⟨_, _, _, _, ck9, by decide, in_g (List.mem_of_getElem? (i := 1150) (by decide +kernel)) rfl, rfl, rfl⟩
theorem fl9_193 : FK "DeafWallModel" 193 9 16 .int false := ⟨_, _, _, _, ck9, by decide, in_g (List.mem_of_getElem? (i := 1151) (by decide +kernel)) rfl, rfl, rfl⟩
theorem ml9_196 : Cond.methodLink "DeafWallModel" 196 B9_isWall.1 ∈ lw_g := in_g (List.mem_of_getElem? (i := 1382) (by decide +kernel)) rfl
theorem ml9_199 : Cond.methodLink "DeafWallModel" 199 B9_isFeeler.1 ∈ lw_g := in_g (List.mem_of_getElem? (i := 1386) (by decide +kernel)) rfl
theorem ml9_202 : Cond.methodLink "DeafWallModel" 202 B9_cellTold0.1 ∈ lw_g := in_g (List.mem_of_getElem? (i := 1390) (by decide +kernel)) rfl
theorem ml9_205 : Cond.methodLink "DeafWallModel" 205 B9_tenderOf.1 ∈ lw_g := in_g (List.mem_of_getElem? (i := 1394) (by decide +kernel)) rfl
theorem ml9_208 : Cond.methodLink "DeafWallModel" 208 B9_isTale.1 ∈ lw_g := in_g (List.mem_of_getElem? (i := 1398) (by decide +kernel)) rfl
theorem ml9_211 : Cond.methodLink "DeafWallModel" 211 B9_longOf.1 ∈ lw_g := in_g (List.mem_of_getElem? (i := 1402) (by decide +kernel)) rfl
theorem ml9_214 : Cond.methodLink "DeafWallModel" 214 B9_isCell.1 ∈ lw_g := in_g (List.mem_of_getElem? (i := 1406) (by decide +kernel)) rfl
theorem ml9_217 : Cond.methodLink "DeafWallModel" 217 B9_deadTold.1 ∈ lw_g := in_g (List.mem_of_getElem? (i := 1410) (by decide +kernel)) rfl
theorem fl9_220 : FK "DeafWallModel" 220 9 17 .int false := ⟨_, _, _, _, ck9, by decide, in_g (List.mem_of_getElem? (i := 1152) (by decide +kernel)) rfl, rfl, rfl⟩
theorem fl9_223 : FK "DeafWallModel" 223 9 18 .int false := ⟨_, _, _, _, ck9, by decide, in_g (List.mem_of_getElem? (i := 1153) (by decide +kernel)) rfl, rfl, rfl⟩
theorem fl9_226 : FK "DeafWallModel" 226 9 19 .int false := ⟨_, _, _, _, ck9, by decide, in_g (List.mem_of_getElem? (i := 1154) (by decide +kernel)) rfl, rfl, rfl⟩
theorem fl9_229 : FK "DeafWallModel" 229 9 20 .int false := ⟨_, _, _, _, ck9, by decide, in_g (List.mem_of_getElem? (i := 1155) (by decide +kernel)) rfl, rfl, rfl⟩
theorem fl9_232 : FK "DeafWallModel" 232 9 21 .int false := ⟨_, _, _, _, ck9, by decide, in_g (List.mem_of_getElem? (i := 1156) (by decide +kernel)) rfl, rfl, rfl⟩
theorem fl9_235 : FK "DeafWallModel" 235 9 22 .int false := ⟨_, _, _, _, ck9, by decide, in_g (List.mem_of_getElem? (i := 1157) (by decide +kernel)) rfl, rfl, rfl⟩
theorem ml9_238 : Cond.methodLink "DeafWallModel" 238 B9_areBeside.1 ∈ lw_g := in_g (List.mem_of_getElem? (i := 1437) (by decide +kernel)) rfl
theorem ml9_241 : Cond.methodLink "DeafWallModel" 241 B9_markOf.1 ∈ lw_g := in_g (List.mem_of_getElem? (i := 1445) (by decide +kernel)) rfl
theorem ml9_244 : Cond.methodLink "DeafWallModel" 244 B9_comes.1 ∈ lw_g := in_g (List.mem_of_getElem? (i := 1433) (by decide +kernel)) rfl
theorem ml9_247 : Cond.methodLink "DeafWallModel" 247 B9_isToldNow.1 ∈ lw_g := in_g (List.mem_of_getElem? (i := 1441) (by decide +kernel)) rfl
theorem ml9_250 : Cond.methodLink "DeafWallModel" 250 B9_bitsOf.1 ∈ lw_g := in_g (List.mem_of_getElem? (i := 1477) (by decide +kernel)) rfl
theorem ml9_253 : Cond.methodLink "DeafWallModel" 253 B9_begins.1 ∈ lw_g := in_g (List.mem_of_getElem? (i := 1425) (by decide +kernel)) rfl
theorem ml9_256 : Cond.methodLink "DeafWallModel" 256 B9_beat.1 ∈ lw_g := in_g (List.mem_of_getElem? (i := 1429) (by decide +kernel)) rfl
theorem ml9_259 : Cond.methodLink "DeafWallModel" 259 B9_isTune.1 ∈ lw_g := in_g (List.mem_of_getElem? (i := 1418) (by decide +kernel)) rfl
theorem ml9_262 : Cond.methodLink "DeafWallModel" 262 B9_playsTune.1 ∈ lw_g := in_g (List.mem_of_getElem? (i := 1421) (by decide +kernel)) rfl
theorem ml9_265 : Cond.methodLink "DeafWallModel" 265 B9_pushes.1 ∈ lw_g := in_g (List.mem_of_getElem? (i := 1457) (by decide +kernel)) rfl
theorem ml9_268 : Cond.methodLink "DeafWallModel" 268 B9_firstFelt.1 ∈ lw_g := in_g (List.mem_of_getElem? (i := 1461) (by decide +kernel)) rfl
theorem ml9_271 : Cond.methodLink "DeafWallModel" 271 B9_reachOf.1 ∈ lw_g := in_g (List.mem_of_getElem? (i := 1453) (by decide +kernel)) rfl
theorem ml9_274 : Cond.methodLink "DeafWallModel" 274 B9_couplesTold.1 ∈ lw_g := in_g (List.mem_of_getElem? (i := 1473) (by decide +kernel)) rfl
theorem ml9_277 : Cond.methodLink "DeafWallModel" 277 B9_feltTogether.1 ∈ lw_g := in_g (List.mem_of_getElem? (i := 1484) (by decide +kernel)) rfl
theorem ml9_280 : Cond.methodLink "DeafWallModel" 280 B9_duetBy.1 ∈ lw_g := in_g (List.mem_of_getElem? (i := 1500) (by decide +kernel)) rfl
theorem ml9_284 : Cond.methodLink "DeafWallModel" 284 B9_common.1 ∈ lw_g := in_g (List.mem_of_getElem? (i := 1513) (by decide +kernel)) rfl
theorem ml9_292 : Cond.methodLink "DeafWallModel" 292 B9_parted.1 ∈ lw_g := in_g (List.mem_of_getElem? (i := 1510) (by decide +kernel)) rfl
theorem ml9_296 : Cond.methodLink "DeafWallModel" 296 B9_areMarks.1 ∈ lw_g := in_g (List.mem_of_getElem? (i := 1521) (by decide +kernel)) rfl
theorem ml9_302 : Cond.methodLink "DeafWallModel" 302 B9_leftOf.1 ∈ lw_g := in_g (List.mem_of_getElem? (i := 1525) (by decide +kernel)) rfl
theorem ml9_299 : Cond.methodLink "DeafWallModel" 299 B9_lays.1 ∈ lw_g := in_g (List.mem_of_getElem? (i := 1529) (by decide +kernel)) rfl
theorem ml9_306 : Cond.methodLink "DeafWallModel" 306 B9_goesOnBy.1 ∈ lw_g := in_g (List.mem_of_getElem? (i := 1533) (by decide +kernel)) rfl
theorem ml9_309 : Cond.methodLink "DeafWallModel" 309 B9_alikeFrom.1 ∈ lw_g := in_g (List.mem_of_getElem? (i := 1549) (by decide +kernel)) rfl
theorem ml9_312 : Cond.methodLink "DeafWallModel" 312 B9_rhymeOf.1 ∈ lw_g := in_g (List.mem_of_getElem? (i := 1545) (by decide +kernel)) rfl
theorem ml9_315 : Cond.methodLink "DeafWallModel" 315 B9_isWithin.1 ∈ lw_g := in_g (List.mem_of_getElem? (i := 1553) (by decide +kernel)) rfl
theorem ml9_318 : Cond.methodLink "DeafWallModel" 318 B9_echoOf.1 ∈ lw_g := in_g (List.mem_of_getElem? (i := 1557) (by decide +kernel)) rfl
theorem ml9_321 : Cond.methodLink "DeafWallModel" 321 B9_isTurned.1 ∈ lw_g := in_g (List.mem_of_getElem? (i := 1561) (by decide +kernel)) rfl
theorem ml9_324 : Cond.methodLink "DeafWallModel" 324 B9_stepsInto.1 ∈ lw_g := in_g (List.mem_of_getElem? (i := 1577) (by decide +kernel)) rfl
theorem ml9_330 : Cond.methodLink "DeafWallModel" 330 B9_laysLost.1 ∈ lw_g := in_g (List.mem_of_getElem? (i := 1573) (by decide +kernel)) rfl
theorem ml9_327 : Cond.methodLink "DeafWallModel" 327 B9_stepsOf.1 ∈ lw_g := in_g (List.mem_of_getElem? (i := 1569) (by decide +kernel)) rfl
theorem ml9_334 : Cond.methodLink "DeafWallModel" 334 B9_shadowOf.1 ∈ lw_g := in_g (List.mem_of_getElem? (i := 1585) (by decide +kernel)) rfl
theorem ml9_338 : Cond.methodLink "DeafWallModel" 338 B9_farthestOf.1 ∈ lw_g := in_g (List.mem_of_getElem? (i := 1589) (by decide +kernel)) rfl
theorem ml9_341 : Cond.methodLink "DeafWallModel" 341 B9_deadestOf.1 ∈ lw_g := in_g (List.mem_of_getElem? (i := 1593) (by decide +kernel)) rfl
theorem ml9_344 : Cond.methodLink "DeafWallModel" 344 B9_tenderestOf.1 ∈ lw_g := in_g (List.mem_of_getElem? (i := 1597) (by decide +kernel)) rfl
theorem ml9_347 : Cond.methodLink "DeafWallModel" 347 B9_sharingOf.1 ∈ lw_g := in_g (List.mem_of_getElem? (i := 1601) (by decide +kernel)) rfl
theorem ml9_350 : Cond.methodLink "DeafWallModel" 350 B9_seamsOf.1 ∈ lw_g := in_g (List.mem_of_getElem? (i := 1605) (by decide +kernel)) rfl
theorem ml9_353 : Cond.methodLink "DeafWallModel" 353 B9_reachBy.1 ∈ lw_g := in_g (List.mem_of_getElem? (i := 1613) (by decide +kernel)) rfl
theorem fl9_356 : FK "DeafWallModel" 356 9 36 .int false := ⟨_, _, _, _, ck9, by decide, in_g (List.mem_of_getElem? (i := 1171) (by decide +kernel)) rfl, rfl, rfl⟩
theorem ml9_359 : Cond.methodLink "DeafWallModel" 359 B9_isDay.1 ∈ lw_g := in_g (List.mem_of_getElem? (i := 1625) (by decide +kernel)) rfl
theorem ml9_362 : Cond.methodLink "DeafWallModel" 362 B9_wets.1 ∈ lw_g := in_g (List.mem_of_getElem? (i := 1645) (by decide +kernel)) rfl
theorem ml9_365 : Cond.methodLink "DeafWallModel" 365 B9_moves.1 ∈ lw_g := in_g (List.mem_of_getElem? (i := 1649) (by decide +kernel)) rfl
theorem ml9_368 : Cond.methodLink "DeafWallModel" 368 B9_does.1 ∈ lw_g := in_g (List.mem_of_getElem? (i := 1641) (by decide +kernel)) rfl
theorem ml9_371 : Cond.methodLink "DeafWallModel" 371 B9_doesTold.1 ∈ lw_g := in_g (List.mem_of_getElem? (i := 1637) (by decide +kernel)) rfl
theorem ml9_374 : Cond.methodLink "DeafWallModel" 374 B9_runs.1 ∈ lw_g := in_g (List.mem_of_getElem? (i := 1633) (by decide +kernel)) rfl
theorem ml9_377 : Cond.methodLink "DeafWallModel" 377 B9_nowOf.1 ∈ lw_g := in_g (List.mem_of_getElem? (i := 1657) (by decide +kernel)) rfl
theorem ml9_380 : Cond.methodLink "DeafWallModel" 380 B9_busiestOf.1 ∈ lw_g := in_g (List.mem_of_getElem? (i := 1665) (by decide +kernel)) rfl
theorem ml9_383 : Cond.methodLink "DeafWallModel" 383 B9_keenestOf.1 ∈ lw_g := in_g (List.mem_of_getElem? (i := 1669) (by decide +kernel)) rfl
theorem fl9_386 : FK "DeafWallModel" 386 9 37 .int false := ⟨_, _, _, _, ck9, by decide, in_g (List.mem_of_getElem? (i := 1172) (by decide +kernel)) rfl, rfl, rfl⟩
theorem ml9_389 : Cond.methodLink "DeafWallModel" 389 B9_isLog.1 ∈ lw_g := in_g (List.mem_of_getElem? (i := 1677) (by decide +kernel)) rfl
theorem ml9_392 : Cond.methodLink "DeafWallModel" 392 B9_isSo.1 ∈ lw_g := in_g (List.mem_of_getElem? (i := 1689) (by decide +kernel)) rfl
theorem fl9_396 : FK "DeafWallModel" 396 9 38 .int false := ⟨_, _, _, _, ck9, by decide, in_g (List.mem_of_getElem? (i := 1173) (by decide +kernel)) rfl, rfl, rfl⟩
theorem fl9_399 : FK "DeafWallModel" 399 9 39 .int false := ⟨_, _, _, _, ck9, by decide, in_g (List.mem_of_getElem? (i := 1174) (by decide +kernel)) rfl, rfl, rfl⟩
theorem fl9_402 : FK "DeafWallModel" 402 9 40 .int false := ⟨_, _, _, _, ck9, by decide, in_g (List.mem_of_getElem? (i := 1175) (by decide +kernel)) rfl, rfl, rfl⟩
theorem fl9_405 : FK "DeafWallModel" 405 9 41 .int false := ⟨_, _, _, _, ck9, by decide, in_g (List.mem_of_getElem? (i := 1176) (by decide +kernel)) rfl, rfl, rfl⟩
theorem fl9_408 : FK "DeafWallModel" 408 9 42 .int false := ⟨_, _, _, _, ck9, by decide, in_g (List.mem_of_getElem? (i := 1177) (by decide +kernel)) rfl, rfl, rfl⟩
theorem ml9_411 : Cond.methodLink "DeafWallModel" 411 B9_nextFit.1 ∈ lw_g := in_g (List.mem_of_getElem? (i := 1685) (by decide +kernel)) rfl
theorem ml9_414 : Cond.methodLink "DeafWallModel" 414 B9_laysFits.1 ∈ lw_g := in_g (List.mem_of_getElem? (i := 1693) (by decide +kernel)) rfl
theorem ml9_417 : Cond.methodLink "DeafWallModel" 417 B9_askOf.1 ∈ lw_g := in_g (List.mem_of_getElem? (i := 1697) (by decide +kernel)) rfl
theorem fl9_420 : FK "DeafWallModel" 420 9 45 .int false := ⟨_, _, _, _, ck9, by decide, in_g (List.mem_of_getElem? (i := 1180) (by decide +kernel)) rfl, rfl, rfl⟩
theorem ml9_424 : Cond.methodLink "DeafWallModel" 424 B9_below.1 ∈ lw_g := in_g (List.mem_of_getElem? (i := 1721) (by decide +kernel)) rfl
theorem ml9_427 : Cond.methodLink "DeafWallModel" 427 B9_draws.1 ∈ lw_g := in_g (List.mem_of_getElem? (i := 1717) (by decide +kernel)) rfl
