/-! DeafWallModel.<init>()V -/
set_option maxRecDepth 20000 in
theorem b9_init {X : XX} {G : GG} {I : Nat → Nat → Int32} {L : Nat → Nat → Int64} {h : Nat} {Q : GG → (Nat → Nat → Int32) → (Nat → Nat → Int64) → Prop} (ok : G.1 h = some (9, 0)) (H : ∀ G1 I2 L3, (G1, I2, L3) = mNew (G, I, L) (11, 4096) → G1.1 h = some (9, 0) ∧ (∀ G6, G6 = (G1.1, up2 G1.2.1 h 0 (some G.2.2), G1.2.2) → ∀ G7 I8 L9, (G7, I8, L9) = mNew (G6, I2, L3) (13, 3) → G7.1 h = some (9, 0) ∧ (∀ G12, G12 = (G7.1, up2 G7.2.1 h 1 (some G6.2.2), G7.2.2) → ∀ G13 I14 L15, (G13, I14, L15) = mNew (G12, I8, L9) (11, 121) → G13.1 h = some (9, 0) ∧ (∀ G18, G18 = (G13.1, up2 G13.2.1 h 10 (some G12.2.2), G13.2.2) → ∀ G19 I20 L21, (G19, I20, L21) = mNew (G18, I14, L15) (11, 32) → G19.1 h = some (9, 0) ∧ (∀ G24, G24 = (G19.1, up2 G19.2.1 h 23 (some G18.2.2), G19.2.2) → ∀ G25 I26 L27, (G25, I26, L27) = mNew (G24, I20, L21) (11, 32) → G25.1 h = some (9, 0) ∧ (∀ G30, G30 = (G25.1, up2 G25.2.1 h 24 (some G24.2.2), G25.2.2) → ∀ G31 I32 L33, (G31, I32, L33) = mNew (G30, I26, L27) (11, 32) → G31.1 h = some (9, 0) ∧ (∀ G36, G36 = (G31.1, up2 G31.2.1 h 25 (some G30.2.2), G31.2.2) → ∀ G37 I38 L39, (G37, I38, L39) = mNew (G36, I32, L33) (11, 6) → G37.1 h = some (9, 0) ∧ (∀ G42, G42 = (G37.1, up2 G37.2.1 h 26 (some G36.2.2), G37.2.2) → ∀ G43 I44 L45, (G43, I44, L45) = mNew (G42, I38, L39) (11, 6) → G43.1 h = some (9, 0) ∧ (∀ G48, G48 = (G43.1, up2 G43.2.1 h 27 (some G42.2.2), G43.2.2) → ∀ G49 I50 L51, (G49, I50, L51) = mNew (G48, I44, L45) (11, 6) → G49.1 h = some (9, 0) ∧ (∀ G54, G54 = (G49.1, up2 G49.2.1 h 28 (some G48.2.2), G49.2.2) → ∀ G55 I56 L57, (G55, I56, L57) = mNew (G54, I50, L51) (11, 6) → G55.1 h = some (9, 0) ∧ (∀ G60, G60 = (G55.1, up2 G55.2.1 h 29 (some G54.2.2), G55.2.2) → ∀ G61 I62 L63, (G61, I62, L63) = mNew (G60, I56, L57) (11, 64) → G61.1 h = some (9, 0) ∧ (∀ G66, G66 = (G61.1, up2 G61.2.1 h 30 (some G60.2.2), G61.2.2) → ∀ G67 I68 L69, (G67, I68, L69) = mNew (G66, I62, L63) (11, 256) → G67.1 h = some (9, 0) ∧ (∀ G72, G72 = (G67.1, up2 G67.2.1 h 31 (some G66.2.2), G67.2.2) → ∀ G73 I74 L75, (G73, I74, L75) = mNew (G72, I68, L69) (12, 14) → G73.1 h = some (9, 0) ∧ (∀ G78, G78 = (G73.1, up2 G73.2.1 h 32 (some G72.2.2), G73.2.2) → ∀ G79 I80 L81, (G79, I80, L81) = mNew (G78, I74, L75) (11, 384) → G79.1 h = some (9, 0) ∧ (∀ G84, G84 = (G79.1, up2 G79.2.1 h 33 (some G78.2.2), G79.2.2) → ∀ G85 I86 L87, (G85, I86, L87) = mNew (G84, I80, L81) (12, 31) → G85.1 h = some (9, 0) ∧ (∀ G90, G90 = (G85.1, up2 G85.2.1 h 34 (some G84.2.2), G85.2.2) → ∀ G91 I92 L93, (G91, I92, L93) = mNew (G90, I86, L87) (11, 288) → G91.1 h = some (9, 0) ∧ (∀ G96, G96 = (G91.1, up2 G91.2.1 h 35 (some G90.2.2), G91.2.2) → ∀ G97 I98 L99, (G97, I98, L99) = mNew (G96, I92, L93) (11, 200) → G97.1 h = some (9, 0) ∧ (∀ G102, G102 = (G97.1, up2 G97.2.1 h 43 (some G96.2.2), G97.2.2) → ∀ G103 I104 L105, (G103, I104, L105) = mNew (G102, I98, L99) (11, 8) → G103.1 h = some (9, 0) ∧ (∀ G108, G108 = (G103.1, up2 G103.2.1 h 44 (some G102.2.2), G103.2.2) → G108.1 h = some (9, 0) ∧ (∀ r110, r110 = G108.2.1 h 0 → ∃ q111, r110 = some q111 ∧ (∃ n114, G108.1 q111 = some (11, n114) ∧ (vp_in 6 n114 ∧ (∀ I115, I115 = up2 I104 q111 6 (-1) → Q G108 I115 L105))))))))))))))))))))))) : wgV X B9_init 0 [(0, .ref h)] [] G I L 0 0 Q := by
  refine wp_aload_n (z := 0) (i := 0) (r := (some h)) 0 (by decide +kernel) rfl rfl ?_
  refine wp_objInit (idx := 1) (by decide +kernel) (in_g (List.mem_of_getElem? (i := 1134) (by decide +kernel)) rfl) (in_g (List.mem_of_getElem? (i := 142) (by decide +kernel)) rfl) (in_g (List.mem_of_getElem? (i := 143) (by decide +kernel)) (by decide +kernel)) (Nat.le_of_ble_eq_true rfl) (Nat.le_of_ble_eq_true rfl) ?_
  refine wp_aload_n (z := 0) (i := 0) (r := (some h)) 0 (by decide +kernel) rfl rfl ?_
  refine wp_sipush (z := 4096) (v := 4096) (by decide +kernel) (by decide) ?_
  refine wp_newI (N := 4096) (by decide +kernel) (in_g (List.mem_of_getElem? (i := 188) (by decide +kernel)) rfl) (by decide) (by decide) (by decide) (Nat.le_of_ble_eq_true rfl) (Nat.le_of_ble_eq_true rfl) ?_
  refine wp_memM (fun G1 I2 L3 e4 => ?_)
  replace H := H G1 I2 L3 e4
  show wp X B9_init 10 [(0, .ref h)] [.ref G.2.2, .ref h] (G1, I2, L3) 1 4096 _
  obtain ⟨f5, H⟩ := H
  refine wp_putFR (idx := 7) (r := (some G.2.2)) (by decide +kernel) fl9_7 rfl rfl rfl rfl f5 ?_
  refine wp_memG (fun G6 eG6 => ?_)
  replace H := H G6 eG6
  refine wp_aload_n (z := 0) (i := 0) (r := (some h)) 0 (by decide +kernel) rfl rfl ?_
  refine wp_iconst (z := 3) (v := 3) (by decide +kernel) (by decide) ?_
  refine wp_newZ (N := 3) (by decide +kernel) (in_g (List.mem_of_getElem? (i := 1274) (by decide +kernel)) rfl) (by decide) (by decide) (by decide) (Nat.le_of_ble_eq_true rfl) (Nat.le_of_ble_eq_true rfl) ?_
  refine wp_memM (fun G7 I8 L9 e10 => ?_)
  replace H := H G7 I8 L9 e10
  show wp X B9_init 17 [(0, .ref h)] [.ref G6.2.2, .ref h] (G7, I8, L9) 2 4099 _
  obtain ⟨f11, H⟩ := H
  refine wp_putFR (idx := 13) (r := (some G6.2.2)) (by decide +kernel) fl9_13 rfl rfl rfl rfl f11 ?_
  refine wp_memG (fun G12 eG12 => ?_)
  replace H := H G12 eG12
  refine wp_aload_n (z := 0) (i := 0) (r := (some h)) 0 (by decide +kernel) rfl rfl ?_
  refine wp_bipush (z := 121) (v := 121) (by decide +kernel) (by decide) ?_
  refine wp_newI (N := 121) (by decide +kernel) (in_g (List.mem_of_getElem? (i := 188) (by decide +kernel)) rfl) (by decide) (by decide) (by decide) (Nat.le_of_ble_eq_true rfl) (Nat.le_of_ble_eq_true rfl) ?_
  refine wp_memM (fun G13 I14 L15 e16 => ?_)
  replace H := H G13 I14 L15 e16
  show wp X B9_init 25 [(0, .ref h)] [.ref G12.2.2, .ref h] (G13, I14, L15) 3 4220 _
  obtain ⟨f17, H⟩ := H
  refine wp_putFR (idx := 17) (r := (some G12.2.2)) (by decide +kernel) fl9_17 rfl rfl rfl rfl f17 ?_
  refine wp_memG (fun G18 eG18 => ?_)
  replace H := H G18 eG18
  refine wp_aload_n (z := 0) (i := 0) (r := (some h)) 0 (by decide +kernel) rfl rfl ?_
  refine wp_bipush (z := 32) (v := 32) (by decide +kernel) (by decide) ?_
  refine wp_newI (N := 32) (by decide +kernel) (in_g (List.mem_of_getElem? (i := 188) (by decide +kernel)) rfl) (by decide) (by decide) (by decide) (Nat.le_of_ble_eq_true rfl) (Nat.le_of_ble_eq_true rfl) ?_
  refine wp_memM (fun G19 I20 L21 e22 => ?_)
  replace H := H G19 I20 L21 e22
  show wp X B9_init 33 [(0, .ref h)] [.ref G18.2.2, .ref h] (G19, I20, L21) 4 4252 _
  obtain ⟨f23, H⟩ := H
  refine wp_putFR (idx := 20) (r := (some G18.2.2)) (by decide +kernel) fl9_20 rfl rfl rfl rfl f23 ?_
  refine wp_memG (fun G24 eG24 => ?_)
  replace H := H G24 eG24
  refine wp_aload_n (z := 0) (i := 0) (r := (some h)) 0 (by decide +kernel) rfl rfl ?_
  refine wp_bipush (z := 32) (v := 32) (by decide +kernel) (by decide) ?_
  refine wp_newI (N := 32) (by decide +kernel) (in_g (List.mem_of_getElem? (i := 188) (by decide +kernel)) rfl) (by decide) (by decide) (by decide) (Nat.le_of_ble_eq_true rfl) (Nat.le_of_ble_eq_true rfl) ?_
  refine wp_memM (fun G25 I26 L27 e28 => ?_)
  replace H := H G25 I26 L27 e28
  show wp X B9_init 41 [(0, .ref h)] [.ref G24.2.2, .ref h] (G25, I26, L27) 5 4284 _
  obtain ⟨f29, H⟩ := H
  refine wp_putFR (idx := 23) (r := (some G24.2.2)) (by decide +kernel) fl9_23 rfl rfl rfl rfl f29 ?_
  refine wp_memG (fun G30 eG30 => ?_)
  replace H := H G30 eG30
  refine wp_aload_n (z := 0) (i := 0) (r := (some h)) 0 (by decide +kernel) rfl rfl ?_
  refine wp_bipush (z := 32) (v := 32) (by decide +kernel) (by decide) ?_
  refine wp_newI (N := 32) (by decide +kernel) (in_g (List.mem_of_getElem? (i := 188) (by decide +kernel)) rfl) (by decide) (by decide) (by decide) (Nat.le_of_ble_eq_true rfl) (Nat.le_of_ble_eq_true rfl) ?_
  refine wp_memM (fun G31 I32 L33 e34 => ?_)
  replace H := H G31 I32 L33 e34
  show wp X B9_init 49 [(0, .ref h)] [.ref G30.2.2, .ref h] (G31, I32, L33) 6 4316 _
  obtain ⟨f35, H⟩ := H
  refine wp_putFR (idx := 26) (r := (some G30.2.2)) (by decide +kernel) fl9_26 rfl rfl rfl rfl f35 ?_
  refine wp_memG (fun G36 eG36 => ?_)
  replace H := H G36 eG36
  refine wp_aload_n (z := 0) (i := 0) (r := (some h)) 0 (by decide +kernel) rfl rfl ?_
  refine wp_bipush (z := 6) (v := 6) (by decide +kernel) (by decide) ?_
  refine wp_newI (N := 6) (by decide +kernel) (in_g (List.mem_of_getElem? (i := 188) (by decide +kernel)) rfl) (by decide) (by decide) (by decide) (Nat.le_of_ble_eq_true rfl) (Nat.le_of_ble_eq_true rfl) ?_
  refine wp_memM (fun G37 I38 L39 e40 => ?_)
  replace H := H G37 I38 L39 e40
  show wp X B9_init 57 [(0, .ref h)] [.ref G36.2.2, .ref h] (G37, I38, L39) 7 4322 _
  obtain ⟨f41, H⟩ := H
  refine wp_putFR (idx := 29) (r := (some G36.2.2)) (by decide +kernel) fl9_29 rfl rfl rfl rfl f41 ?_
  refine wp_memG (fun G42 eG42 => ?_)
  replace H := H G42 eG42
  refine wp_aload_n (z := 0) (i := 0) (r := (some h)) 0 (by decide +kernel) rfl rfl ?_
  refine wp_bipush (z := 6) (v := 6) (by decide +kernel) (by decide) ?_
  refine wp_newI (N := 6) (by decide +kernel) (in_g (List.mem_of_getElem? (i := 188) (by decide +kernel)) rfl) (by decide) (by decide) (by decide) (Nat.le_of_ble_eq_true rfl) (Nat.le_of_ble_eq_true rfl) ?_
  refine wp_memM (fun G43 I44 L45 e46 => ?_)
  replace H := H G43 I44 L45 e46
  show wp X B9_init 65 [(0, .ref h)] [.ref G42.2.2, .ref h] (G43, I44, L45) 8 4328 _
  obtain ⟨f47, H⟩ := H
  refine wp_putFR (idx := 32) (r := (some G42.2.2)) (by decide +kernel) fl9_32 rfl rfl rfl rfl f47 ?_
  refine wp_memG (fun G48 eG48 => ?_)
  replace H := H G48 eG48
  refine wp_aload_n (z := 0) (i := 0) (r := (some h)) 0 (by decide +kernel) rfl rfl ?_
  refine wp_bipush (z := 6) (v := 6) (by decide +kernel) (by decide) ?_
  refine wp_newI (N := 6) (by decide +kernel) (in_g (List.mem_of_getElem? (i := 188) (by decide +kernel)) rfl) (by decide) (by decide) (by decide) (Nat.le_of_ble_eq_true rfl) (Nat.le_of_ble_eq_true rfl) ?_
  refine wp_memM (fun G49 I50 L51 e52 => ?_)
  replace H := H G49 I50 L51 e52
  show wp X B9_init 73 [(0, .ref h)] [.ref G48.2.2, .ref h] (G49, I50, L51) 9 4334 _
  obtain ⟨f53, H⟩ := H
  refine wp_putFR (idx := 35) (r := (some G48.2.2)) (by decide +kernel) fl9_35 rfl rfl rfl rfl f53 ?_
  refine wp_memG (fun G54 eG54 => ?_)
  replace H := H G54 eG54
  refine wp_aload_n (z := 0) (i := 0) (r := (some h)) 0 (by decide +kernel) rfl rfl ?_
  refine wp_bipush (z := 6) (v := 6) (by decide +kernel) (by decide) ?_
  refine wp_newI (N := 6) (by decide +kernel) (in_g (List.mem_of_getElem? (i := 188) (by decide +kernel)) rfl) (by decide) (by decide) (by decide) (Nat.le_of_ble_eq_true rfl) (Nat.le_of_ble_eq_true rfl) ?_
  refine wp_memM (fun G55 I56 L57 e58 => ?_)
  replace H := H G55 I56 L57 e58
  show wp X B9_init 81 [(0, .ref h)] [.ref G54.2.2, .ref h] (G55, I56, L57) 10 4340 _
  obtain ⟨f59, H⟩ := H
  refine wp_putFR (idx := 38) (r := (some G54.2.2)) (by decide +kernel) fl9_38 rfl rfl rfl rfl f59 ?_
  refine wp_memG (fun G60 eG60 => ?_)
  replace H := H G60 eG60
  refine wp_aload_n (z := 0) (i := 0) (r := (some h)) 0 (by decide +kernel) rfl rfl ?_
  refine wp_bipush (z := 64) (v := 64) (by decide +kernel) (by decide) ?_
  refine wp_newI (N := 64) (by decide +kernel) (in_g (List.mem_of_getElem? (i := 188) (by decide +kernel)) rfl) (by decide) (by decide) (by decide) (Nat.le_of_ble_eq_true rfl) (Nat.le_of_ble_eq_true rfl) ?_
  refine wp_memM (fun G61 I62 L63 e64 => ?_)
  replace H := H G61 I62 L63 e64
  show wp X B9_init 89 [(0, .ref h)] [.ref G60.2.2, .ref h] (G61, I62, L63) 11 4404 _
  obtain ⟨f65, H⟩ := H
  refine wp_putFR (idx := 41) (r := (some G60.2.2)) (by decide +kernel) fl9_41 rfl rfl rfl rfl f65 ?_
  refine wp_memG (fun G66 eG66 => ?_)
  replace H := H G66 eG66
  refine wp_aload_n (z := 0) (i := 0) (r := (some h)) 0 (by decide +kernel) rfl rfl ?_
  refine wp_sipush (z := 256) (v := 256) (by decide +kernel) (by decide) ?_
  refine wp_newI (N := 256) (by decide +kernel) (in_g (List.mem_of_getElem? (i := 188) (by decide +kernel)) rfl) (by decide) (by decide) (by decide) (Nat.le_of_ble_eq_true rfl) (Nat.le_of_ble_eq_true rfl) ?_
  refine wp_memM (fun G67 I68 L69 e70 => ?_)
  replace H := H G67 I68 L69 e70
  show wp X B9_init 98 [(0, .ref h)] [.ref G66.2.2, .ref h] (G67, I68, L69) 12 4660 _
  obtain ⟨f71, H⟩ := H
  refine wp_putFR (idx := 44) (r := (some G66.2.2)) (by decide +kernel) fl9_44 rfl rfl rfl rfl f71 ?_
  refine wp_memG (fun G72 eG72 => ?_)
  replace H := H G72 eG72
  refine wp_aload_n (z := 0) (i := 0) (r := (some h)) 0 (by decide +kernel) rfl rfl ?_
  refine wp_bipush (z := 14) (v := 14) (by decide +kernel) (by decide) ?_
  refine wp_newJ (N := 14) (by decide +kernel) (in_g (List.mem_of_getElem? (i := 443) (by decide +kernel)) rfl) (by decide) (by decide) (by decide) (Nat.le_of_ble_eq_true rfl) (Nat.le_of_ble_eq_true rfl) ?_
  refine wp_memM (fun G73 I74 L75 e76 => ?_)
  replace H := H G73 I74 L75 e76
  show wp X B9_init 106 [(0, .ref h)] [.ref G72.2.2, .ref h] (G73, I74, L75) 13 4674 _
  obtain ⟨f77, H⟩ := H
  refine wp_putFR (idx := 47) (r := (some G72.2.2)) (by decide +kernel) fl9_47 rfl rfl rfl rfl f77 ?_
  refine wp_memG (fun G78 eG78 => ?_)
  replace H := H G78 eG78
  refine wp_aload_n (z := 0) (i := 0) (r := (some h)) 0 (by decide +kernel) rfl rfl ?_
  refine wp_sipush (z := 384) (v := 384) (by decide +kernel) (by decide) ?_
  refine wp_newI (N := 384) (by decide +kernel) (in_g (List.mem_of_getElem? (i := 188) (by decide +kernel)) rfl) (by decide) (by decide) (by decide) (Nat.le_of_ble_eq_true rfl) (Nat.le_of_ble_eq_true rfl) ?_
  refine wp_memM (fun G79 I80 L81 e82 => ?_)
  replace H := H G79 I80 L81 e82
  show wp X B9_init 115 [(0, .ref h)] [.ref G78.2.2, .ref h] (G79, I80, L81) 14 5058 _
  obtain ⟨f83, H⟩ := H
  refine wp_putFR (idx := 51) (r := (some G78.2.2)) (by decide +kernel) fl9_51 rfl rfl rfl rfl f83 ?_
  refine wp_memG (fun G84 eG84 => ?_)
  replace H := H G84 eG84
  refine wp_aload_n (z := 0) (i := 0) (r := (some h)) 0 (by decide +kernel) rfl rfl ?_
  refine wp_bipush (z := 31) (v := 31) (by decide +kernel) (by decide) ?_
  refine wp_newJ (N := 31) (by decide +kernel) (in_g (List.mem_of_getElem? (i := 443) (by decide +kernel)) rfl) (by decide) (by decide) (by decide) (Nat.le_of_ble_eq_true rfl) (Nat.le_of_ble_eq_true rfl) ?_
  refine wp_memM (fun G85 I86 L87 e88 => ?_)
  replace H := H G85 I86 L87 e88
  show wp X B9_init 123 [(0, .ref h)] [.ref G84.2.2, .ref h] (G85, I86, L87) 15 5089 _
  obtain ⟨f89, H⟩ := H
  refine wp_putFR (idx := 54) (r := (some G84.2.2)) (by decide +kernel) fl9_54 rfl rfl rfl rfl f89 ?_
  refine wp_memG (fun G90 eG90 => ?_)
  replace H := H G90 eG90
  refine wp_aload_n (z := 0) (i := 0) (r := (some h)) 0 (by decide +kernel) rfl rfl ?_
  refine wp_sipush (z := 288) (v := 288) (by decide +kernel) (by decide) ?_
  refine wp_newI (N := 288) (by decide +kernel) (in_g (List.mem_of_getElem? (i := 188) (by decide +kernel)) rfl) (by decide) (by decide) (by decide) (Nat.le_of_ble_eq_true rfl) (Nat.le_of_ble_eq_true rfl) ?_
  refine wp_memM (fun G91 I92 L93 e94 => ?_)
  replace H := H G91 I92 L93 e94
  show wp X B9_init 132 [(0, .ref h)] [.ref G90.2.2, .ref h] (G91, I92, L93) 16 5377 _
  obtain ⟨f95, H⟩ := H
  refine wp_putFR (idx := 57) (r := (some G90.2.2)) (by decide +kernel) fl9_57 rfl rfl rfl rfl f95 ?_
  refine wp_memG (fun G96 eG96 => ?_)
  replace H := H G96 eG96
  refine wp_aload_n (z := 0) (i := 0) (r := (some h)) 0 (by decide +kernel) rfl rfl ?_
  refine wp_sipush (z := 200) (v := 200) (by decide +kernel) (by decide) ?_
  refine wp_newI (N := 200) (by decide +kernel) (in_g (List.mem_of_getElem? (i := 188) (by decide +kernel)) rfl) (by decide) (by decide) (by decide) (Nat.le_of_ble_eq_true rfl) (Nat.le_of_ble_eq_true rfl) ?_
  refine wp_memM (fun G97 I98 L99 e100 => ?_)
  replace H := H G97 I98 L99 e100
  show wp X B9_init 141 [(0, .ref h)] [.ref G96.2.2, .ref h] (G97, I98, L99) 17 5577 _
  obtain ⟨f101, H⟩ := H
  refine wp_putFR (idx := 60) (r := (some G96.2.2)) (by decide +kernel) fl9_60 rfl rfl rfl rfl f101 ?_
  refine wp_memG (fun G102 eG102 => ?_)
  replace H := H G102 eG102
  refine wp_aload_n (z := 0) (i := 0) (r := (some h)) 0 (by decide +kernel) rfl rfl ?_
  refine wp_bipush (z := 8) (v := 8) (by decide +kernel) (by decide) ?_
  refine wp_newI (N := 8) (by decide +kernel) (in_g (List.mem_of_getElem? (i := 188) (by decide +kernel)) rfl) (by decide) (by decide) (by decide) (Nat.le_of_ble_eq_true rfl) (Nat.le_of_ble_eq_true rfl) ?_
  refine wp_memM (fun G103 I104 L105 e106 => ?_)
  replace H := H G103 I104 L105 e106
  show wp X B9_init 149 [(0, .ref h)] [.ref G102.2.2, .ref h] (G103, I104, L105) 18 5585 _
  obtain ⟨f107, H⟩ := H
  refine wp_putFR (idx := 63) (r := (some G102.2.2)) (by decide +kernel) fl9_63 rfl rfl rfl rfl f107 ?_
  refine wp_memG (fun G108 eG108 => ?_)
  replace H := H G108 eG108
  refine wp_aload_n (z := 0) (i := 0) (r := (some h)) 0 (by decide +kernel) rfl rfl ?_
  obtain ⟨f109, H⟩ := H
  refine wp_getR (idx := 7) (by decide +kernel) fl9_7 rfl f109 ?_
  refine wp_topr (fun r110 er110 => ?_)
  replace H := H r110 er110
  refine wp_bipush (z := 6) (v := 6) (by decide +kernel) (by decide) ?_
  refine wp_iconst (z := -1) (v := (-1)) (by decide +kernel) (by decide) ?_
  obtain ⟨q111, e112, H⟩ := H
  subst e112
  show wp X B9_init 159 [(0, .ref h)] [.int (-1), .int 6, .ref q111] (G108, I104, L105) 18 5585 _
  obtain ⟨n114, f113, H⟩ := H
  obtain ⟨o116, H⟩ := H
  refine wp_iast (j := 6) (by decide +kernel) f113 o116 rfl ?_
  refine wp_memI (fun I115 eI115 => ?_)
  replace H := H I115 eI115
  exact wp_vret (by decide +kernel) rfl (Nat.le_of_ble_eq_true rfl) (Nat.le_of_ble_eq_true rfl) ⟨rfl, H⟩
/-! DeafWallModel.feed(IIIII)I -/
set_option maxRecDepth 20000 in
theorem b9_feed {X : XX} {G : GG} {I : Nat → Nat → Int32} {L : Nat → Nat → Int64} {h : Nat} {x1 : Int32} {x2 : Int32} {x3 : Int32} {x4 : Int32} {x5 : Int32} {Q : Int32 → (Nat → Nat → Int32) → (Nat → Nat → Int64) → Prop} (ok : OK9 G h) (H : if ((I (h + 1) 4) + 20) ≤ 600 then (wpI X B9_feed 20 [(0, .ref h), (1, .int x1), (2, .int x2), (3, .int x3), (4, .int x4), (5, .int x5), (6, .int 0)] [] G I L Q) else (Q (-1) I L)) : wpI X B9_feed 0 [(0, .ref h), (1, .int x1), (2, .int x2), (3, .int x3), (4, .int x4), (5, .int x5)] [] G I L Q := by
  refine wp_aload_n (z := 0) (i := 0) (r := (some h)) 0 (by decide +kernel) rfl rfl ?_
  refine wp_getS (idx := 7) (q := (h + 1)) (by decide +kernel) fl9_7 rfl ok.1 (okr9_0 ok) ?_
  refine wp_iconst (z := 4) (v := 4) (by decide +kernel) (by decide) ?_
  refine wp_iald (j := 4) (by decide +kernel) (oks9_0 ok) (vin_c (by decide)) (by decide) ?_
  refine wp_bipush (z := 20) (v := 20) (by decide +kernel) (by decide) ?_
  refine wp_iadd (by decide +kernel) ?_
  refine wp_sipush (z := 600) (v := 600) (by decide +kernel) (by decide) ?_
  refine wp_icmp_le (off := 5) (tgt := 17) (by decide +kernel) (by decide) (fun c1 => ?_) (fun c1 => ?_)
  · rw [if_pos c1] at H
    refine wp_iconst (z := 0) (v := 0) (by decide +kernel) (by decide) ?_
    refine wp_istore (i := 6) (lv' := [(6, .int 0), (0, .ref h), (1, .int x1), (2, .int x2), (3, .int x3), (4, .int x4), (5, .int x5)]) (by decide +kernel) (by decide) rfl ?_
    exact wp_sub [1, 2, 3, 4, 5, 6, 0] rfl H
  · rw [if_neg c1] at H
    refine wp_iconst (z := -1) (v := (-1)) (by decide +kernel) (by decide) ?_
    exact wp_iret (by decide +kernel) rfl (Nat.zero_le _) (Nat.zero_le _) ⟨_, _, _, rfl, rfl, H⟩
set_option maxRecDepth 20000 in
theorem b9_feed_20 {X : XX} {G : GG} {I : Nat → Nat → Int32} {L : Nat → Nat → Int64} {h : Nat} {x1 : Int32} {x2 : Int32} {x3 : Int32} {x4 : Int32} {x5 : Int32} {x6 : Int32} {Q : Int32 → (Nat → Nat → Int32) → (Nat → Nat → Int64) → Prop} (ok : OK9 G h) (H : if 20 ≤ x6 then (Q (I (h + 1) 4) I L) else (if 4 ≤ x6 then (if 8 ≤ x6 then (if 12 ≤ x6 then (if 16 ≤ x6 then (wpI X B9_feed 73 [(0, .ref h), (1, .int x1), (2, .int x2), (3, .int x3), (4, .int x4), (5, .int x5), (6, .int x6)] [.int x5] G I L Q) else (wpI X B9_feed 73 [(0, .ref h), (1, .int x1), (2, .int x2), (3, .int x3), (4, .int x4), (5, .int x5), (6, .int x6)] [.int x4] G I L Q)) else (wpI X B9_feed 73 [(0, .ref h), (1, .int x1), (2, .int x2), (3, .int x3), (4, .int x4), (5, .int x5), (6, .int x6)] [.int x3] G I L Q)) else (wpI X B9_feed 73 [(0, .ref h), (1, .int x1), (2, .int x2), (3, .int x3), (4, .int x4), (5, .int x5), (6, .int x6)] [.int x2] G I L Q)) else (wpI X B9_feed 73 [(0, .ref h), (1, .int x1), (2, .int x2), (3, .int x3), (4, .int x4), (5, .int x5), (6, .int x6)] [.int x1] G I L Q))) : wpI X B9_feed 20 [(0, .ref h), (1, .int x1), (2, .int x2), (3, .int x3), (4, .int x4), (5, .int x5), (6, .int x6)] [] G I L Q := by
  refine wp_iload (i := 6) (x := x6) 6 (by decide +kernel) rfl ?_
  refine wp_bipush (z := 20) (v := 20) (by decide +kernel) (by decide) ?_
  refine wp_icmp_ge (off := 98) (tgt := 122) (by decide +kernel) (by decide) (fun c1 => ?_) (fun c1 => ?_)
  · rw [if_pos c1] at H
    refine wp_aload_n (z := 0) (i := 0) (r := (some h)) 0 (by decide +kernel) rfl rfl ?_
    refine wp_getS (idx := 7) (q := (h + 1)) (by decide +kernel) fl9_7 rfl ok.1 (okr9_0 ok) ?_
    refine wp_iconst (z := 4) (v := 4) (by decide +kernel) (by decide) ?_
    refine wp_iald (j := 4) (by decide +kernel) (oks9_0 ok) (vin_c (by decide)) (by decide) ?_
    exact wp_iret (by decide +kernel) rfl (Nat.zero_le _) (Nat.zero_le _) ⟨_, _, _, rfl, rfl, H⟩
  · rw [if_neg c1] at H
    refine wp_iload (i := 6) (x := x6) 6 (by decide +kernel) rfl ?_
    refine wp_iconst (z := 4) (v := 4) (by decide +kernel) (by decide) ?_
    refine wp_icmp_ge (off := 7) (tgt := 37) (by decide +kernel) (by decide) (fun c2 => ?_) (fun c2 => ?_)
    · rw [if_pos c2] at H
      refine wp_iload (i := 6) (x := x6) 6 (by decide +kernel) rfl ?_
      refine wp_bipush (z := 8) (v := 8) (by decide +kernel) (by decide) ?_
      refine wp_icmp_ge (off := 7) (tgt := 48) (by decide +kernel) (by decide) (fun c3 => ?_) (fun c3 => ?_)
      · rw [if_pos c3] at H
        refine wp_iload (i := 6) (x := x6) 6 (by decide +kernel) rfl ?_
        refine wp_bipush (z := 12) (v := 12) (by decide +kernel) (by decide) ?_
        refine wp_icmp_ge (off := 7) (tgt := 59) (by decide +kernel) (by decide) (fun c4 => ?_) (fun c4 => ?_)
        · rw [if_pos c4] at H
          refine wp_iload (i := 6) (x := x6) 6 (by decide +kernel) rfl ?_
          refine wp_bipush (z := 16) (v := 16) (by decide +kernel) (by decide) ?_
          refine wp_icmp_ge (off := 8) (tgt := 71) (by decide +kernel) (by decide) (fun c5 => ?_) (fun c5 => ?_)
          · rw [if_pos c5] at H
            refine wp_iload (i := 5) (x := x5) 5 (by decide +kernel) rfl ?_
            exact wp_sub [0, 1, 2, 3, 4, 5, 6] rfl H
          · rw [if_neg c5] at H
            refine wp_iload (i := 4) (x := x4) 4 (by decide +kernel) rfl ?_
            refine wp_goto (off := 5) (tgt := 73) (by decide +kernel) (by decide) ?_
            exact wp_sub [0, 1, 2, 3, 4, 5, 6] rfl H
        · rw [if_neg c4] at H
          refine wp_iload_n (z := 3) (i := 3) (x := x3) 3 (by decide +kernel) rfl rfl ?_
          refine wp_goto (off := 17) (tgt := 73) (by decide +kernel) (by decide) ?_
          exact wp_sub [0, 1, 2, 3, 4, 5, 6] rfl H
      · rw [if_neg c3] at H
        refine wp_iload_n (z := 2) (i := 2) (x := x2) 2 (by decide +kernel) rfl rfl ?_
        refine wp_goto (off := 28) (tgt := 73) (by decide +kernel) (by decide) ?_
        exact wp_sub [0, 1, 2, 3, 4, 5, 6] rfl H
    · rw [if_neg c2] at H
      refine wp_iload_n (z := 1) (i := 1) (x := x1) 1 (by decide +kernel) rfl rfl ?_
      refine wp_goto (off := 39) (tgt := 73) (by decide +kernel) (by decide) ?_
      exact wp_sub [0, 1, 2, 3, 4, 5, 6] rfl H
set_option maxRecDepth 20000 in
theorem b9_feed_73 {X : XX} {G : GG} {I : Nat → Nat → Int32} {L : Nat → Nat → Int64} {h : Nat} {x1 : Int32} {x2 : Int32} {x3 : Int32} {x4 : Int32} {x5 : Int32} {x6 : Int32} {z0 : Int32} {Q : Int32 → (Nat → Nat → Int32) → (Nat → Nat → Int64) → Prop} (ok : OK9 G h) (H : vp_in (10 + (I (h + 1) 4)) 4096 ∧ (∀ I1, I1 = up2 I (h + 1) (cl (10 + (I (h + 1) 4))) ((z0 >>> ((24 - (8 * (x6 - x6 / 4 * 4))) &&& 31)) &&& 255) → ∀ I2, I2 = up2 I1 (h + 1) 4 ((I1 (h + 1) 4) + 1) → wpI X B9_feed 20 [(0, .ref h), (1, .int x1), (2, .int x2), (3, .int x3), (4, .int x4), (5, .int x5), (6, .int (x6 + 1))] [] G I2 L Q)) : wpI X B9_feed 73 [(0, .ref h), (1, .int x1), (2, .int x2), (3, .int x3), (4, .int x4), (5, .int x5), (6, .int x6)] [.int z0] G I L Q := by
  refine wp_istore (i := 7) (lv' := [(7, .int z0), (0, .ref h), (1, .int x1), (2, .int x2), (3, .int x3), (4, .int x4), (5, .int x5), (6, .int x6)]) (by decide +kernel) (by decide) rfl ?_
  refine wp_aload_n (z := 0) (i := 0) (r := (some h)) 1 (by decide +kernel) rfl rfl ?_
  refine wp_getS (idx := 7) (q := (h + 1)) (by decide +kernel) fl9_7 rfl ok.1 (okr9_0 ok) ?_
  refine wp_bipush (z := 10) (v := 10) (by decide +kernel) (by decide) ?_
  refine wp_aload_n (z := 0) (i := 0) (r := (some h)) 1 (by decide +kernel) rfl rfl ?_
  refine wp_getS (idx := 7) (q := (h + 1)) (by decide +kernel) fl9_7 rfl ok.1 (okr9_0 ok) ?_
  refine wp_iconst (z := 4) (v := 4) (by decide +kernel) (by decide) ?_
  refine wp_iald (j := 4) (by decide +kernel) (oks9_0 ok) (vin_c (by decide)) (by decide) ?_
  refine wp_iadd (by decide +kernel) ?_
  refine wp_iload (i := 7) (x := z0) 0 (by decide +kernel) rfl ?_
  refine wp_bipush (z := 24) (v := 24) (by decide +kernel) (by decide) ?_
  refine wp_bipush (z := 8) (v := 8) (by decide +kernel) (by decide) ?_
  refine wp_iload (i := 6) (x := x6) 7 (by decide +kernel) rfl ?_
  refine wp_iconst (z := 4) (v := 4) (by decide +kernel) (by decide) ?_
  refine wp_irem (by decide +kernel) (by decide) ?_
  refine wp_imul (by decide +kernel) ?_
  refine wp_isub (by decide +kernel) ?_
  refine wp_ishr (by decide +kernel) ?_
  refine wp_sipush (z := 255) (v := 255) (by decide +kernel) (by decide) ?_
  refine wp_iand (by decide +kernel) ?_
  obtain ⟨o3, H⟩ := H
  refine wp_iast (j := (cl (10 + (I (h + 1) 4)))) (by decide +kernel) (oks9_0 ok) o3 rfl ?_
  refine wp_memI (fun I1 eI1 => ?_)
  replace H := H I1 eI1
  refine wp_aload_n (z := 0) (i := 0) (r := (some h)) 1 (by decide +kernel) rfl rfl ?_
  refine wp_getS (idx := 7) (q := (h + 1)) (by decide +kernel) fl9_7 rfl ok.1 (okr9_0 ok) ?_
  refine wp_iconst (z := 4) (v := 4) (by decide +kernel) (by decide) ?_
  refine wp_dup2 (by decide +kernel) rfl rfl ?_
  refine wp_iald (j := 4) (by decide +kernel) (oks9_0 ok) (vin_c (by decide)) (by decide) ?_
  refine wp_iconst (z := 1) (v := 1) (by decide +kernel) (by decide) ?_
  refine wp_iadd (by decide +kernel) ?_
  refine wp_iast (j := 4) (by decide +kernel) (oks9_0 ok) (vin_c (by decide)) (by decide) ?_
  refine wp_memI (fun I2 eI2 => ?_)
  replace H := H I2 eI2
  refine wp_iinc (i := 6) (z := 1) (v := 1) (lv' := [(6, .int (x6 + 1)), (7, .int z0), (0, .ref h), (1, .int x1), (2, .int x2), (3, .int x3), (4, .int x4), (5, .int x5)]) 7 (by decide +kernel) rfl (by decide) (by decide) rfl ?_
  refine wp_goto (off := -99) (tgt := 20) (by decide +kernel) (by decide) ?_
  exact wp_sub [2, 3, 4, 5, 6, 7, 0] rfl H
/-! DeafWallModel.end(I)I -/
set_option maxRecDepth 20000 in
theorem b9_end {X : XX} {G : GG} {I : Nat → Nat → Int32} {L : Nat → Nat → Int64} {h : Nat} {x1 : Int32} {Q : Int32 → (Nat → Nat → Int32) → (Nat → Nat → Int64) → Prop} (ok : OK9 G h) (H : if x1 < (0 : Int32) then (Q (-1) I L) else (if x1 ≤ (I (h + 1) 4) then (∀ I3, I3 = up2 I (h + 1) 4 x1 → Q x1 I3 L) else (Q (-1) I L))) : wpI X B9_end 0 [(0, .ref h), (1, .int x1)] [] G I L Q := by
  refine wp_iload_n (z := 1) (i := 1) (x := x1) 1 (by decide +kernel) rfl rfl ?_
  refine wp_if_lt (off := 13) (tgt := 14) (by decide +kernel) (by decide) (fun c1 => ?_) (fun c1 => ?_)
  · rw [if_pos c1] at H
    refine wp_iconst (z := -1) (v := (-1)) (by decide +kernel) (by decide) ?_
    exact wp_iret (by decide +kernel) rfl (Nat.zero_le _) (Nat.zero_le _) ⟨_, _, _, rfl, rfl, H⟩
  · rw [if_neg c1] at H
    refine wp_iload_n (z := 1) (i := 1) (x := x1) 1 (by decide +kernel) rfl rfl ?_
    refine wp_aload_n (z := 0) (i := 0) (r := (some h)) 0 (by decide +kernel) rfl rfl ?_
    refine wp_getS (idx := 7) (q := (h + 1)) (by decide +kernel) fl9_7 rfl ok.1 (okr9_0 ok) ?_
    refine wp_iconst (z := 4) (v := 4) (by decide +kernel) (by decide) ?_
    refine wp_iald (j := 4) (by decide +kernel) (oks9_0 ok) (vin_c (by decide)) (by decide) ?_
    refine wp_icmp_le (off := 5) (tgt := 16) (by decide +kernel) (by decide) (fun c2 => ?_) (fun c2 => ?_)
    · rw [if_pos c2] at H
      refine wp_aload_n (z := 0) (i := 0) (r := (some h)) 0 (by decide +kernel) rfl rfl ?_
      refine wp_getS (idx := 7) (q := (h + 1)) (by decide +kernel) fl9_7 rfl ok.1 (okr9_0 ok) ?_
      refine wp_iconst (z := 4) (v := 4) (by decide +kernel) (by decide) ?_
      refine wp_iload_n (z := 1) (i := 1) (x := x1) 1 (by decide +kernel) rfl rfl ?_
      refine wp_iast (j := 4) (by decide +kernel) (oks9_0 ok) (vin_c (by decide)) (by decide) ?_
      refine wp_memI (fun I3 eI3 => ?_)
      replace H := H I3 eI3
      refine wp_iload_n (z := 1) (i := 1) (x := x1) 1 (by decide +kernel) rfl rfl ?_
      exact wp_iret (by decide +kernel) rfl (Nat.zero_le _) (Nat.zero_le _) ⟨_, _, _, rfl, rfl, H⟩
    · rw [if_neg c2] at H
      refine wp_iconst (z := -1) (v := (-1)) (by decide +kernel) (by decide) ?_
      exact wp_iret (by decide +kernel) rfl (Nat.zero_le _) (Nat.zero_le _) ⟨_, _, _, rfl, rfl, H⟩
/-! DeafWallModel.advance()V -/
set_option maxRecDepth 20000 in
theorem b9_advance {X : XX} {G : GG} {I : Nat → Nat → Int32} {L : Nat → Nat → Int64} {h : Nat} {Q : (Nat → Nat → Int32) → (Nat → Nat → Int64) → Prop} (ok : OK9 G h) (H : p9_byteAt I h (I h 3) ∧ (if (v9_byteAt I h (I h 3)) = 10 then (∀ I2, I2 = up2 I h 3 ((I h 3) + 1) → wpV X B9_advance 0 [(0, .ref h)] [] G I2 L Q) else (p9_byteAt I h (I h 3) ∧ (if (v9_byteAt I h (I h 3)) = 32 then (∀ I18, I18 = up2 I h 3 ((I h 3) + 1) → wpV X B9_advance 0 [(0, .ref h)] [] G I18 L Q) else (∀ I4, I4 = up2 I h 4 (I h 3) → p9_byteAt I4 h (I4 h 3) ∧ (∀ u5, u5 = (v9_byteAt I4 h (I4 h 3)) → if (0 : Int32) ≤ u5 then (if (v9_isLetter u5) = (0 : Int32) then (if (v9_isDigit u5) = (0 : Int32) then (∀ I9, I9 = up2 I4 h 3 ((I4 h 3) + 1) → if u5 = 59 then (∀ I12, I12 = up2 I9 h 5 2 → Q I12 L) else (∀ I11, I11 = up2 I9 h 5 4 → Q I11 L)) else (∀ I13, I13 = up2 I4 h 6 0 → wpV X B9_advance 198 [(0, .ref h)] [] G I13 L Q)) else (wpV X B9_advance 77 [(0, .ref h), (2, .long 0)] [] G I4 L Q)) else (∀ I16, I16 = up2 I4 h 5 0 → Q I16 L))))))) : wpV X B9_advance 0 [(0, .ref h)] [] G I L Q := by
  refine wp_aload_n (z := 0) (i := 0) (r := (some h)) 0 (by decide +kernel) rfl rfl ?_
  refine wp_aload_n (z := 0) (i := 0) (r := (some h)) 0 (by decide +kernel) rfl rfl ?_
  refine wp_getI (idx := 80) (by decide +kernel) fl9_80 rfl ok.1 ?_
  obtain ⟨o20, H⟩ := H
  refine wp_callV (idx := 83) (B2 := B9_byteAt) (As := [.int (I h 3)]) (a := h) (st := []) (by decide +kernel) m9_byteAt ml9_83 k9_byteAt e9_byteAt ck9 ok.1 (⟨Nat.le_of_ble_eq_true rfl, Nat.le_of_ble_eq_true rfl⟩ : rOK B9_advance B9_byteAt) rfl (Nat.le_of_ble_eq_true rfl) (Nat.le_of_ble_eq_true rfl) ⟨Nat.le_of_ble_eq_true rfl, Nat.le_of_ble_eq_true rfl⟩ rfl (wp_mono (b9_byteAt (Q := (fun r I' L' => r = (v9_byteAt I h (I h 3)) ∧ I = I' ∧ L = L')) ok o20 ⟨rfl, rfl, rfl⟩) (fun v9 M9 hq9 => ?_))
  obtain ⟨_, _, _, rfl, rfl, rfl, rfl, rfl⟩ := hq9
  show wp X B9_advance 8 [(0, .ref h)] [.int (v9_byteAt I h (I h 3))] (G, I, L) 0 0 _
  refine wp_bipush (z := 10) (v := 10) (by decide +kernel) (by decide) ?_
  refine wp_icmp_eq (off := 16) (tgt := 26) (by decide +kernel) (by decide) (fun c1 => ?_) (fun c1 => ?_)
  · rw [if_pos c1] at H
    refine wp_aload_n (z := 0) (i := 0) (r := (some h)) 0 (by decide +kernel) rfl rfl ?_
    refine wp_dup (by decide +kernel) rfl ?_
    refine wp_getI (idx := 80) (by decide +kernel) fl9_80 rfl ok.1 ?_
    refine wp_iconst (z := 1) (v := 1) (by decide +kernel) (by decide) ?_
    refine wp_iadd (by decide +kernel) ?_
    refine wp_putI (idx := 80) (by decide +kernel) fl9_80 rfl ok.1 ?_
    refine wp_memI (fun I2 eI2 => ?_)
    replace H := H I2 eI2
    refine wp_goto (off := -36) (tgt := 0) (by decide +kernel) (by decide) ?_
    exact wp_sub [0] rfl H
  · rw [if_neg c1] at H
    refine wp_aload_n (z := 0) (i := 0) (r := (some h)) 0 (by decide +kernel) rfl rfl ?_
    refine wp_aload_n (z := 0) (i := 0) (r := (some h)) 0 (by decide +kernel) rfl rfl ?_
    refine wp_getI (idx := 80) (by decide +kernel) fl9_80 rfl ok.1 ?_
    obtain ⟨o19, H⟩ := H
    refine wp_callV (idx := 83) (B2 := B9_byteAt) (As := [.int (I h 3)]) (a := h) (st := []) (by decide +kernel) m9_byteAt ml9_83 k9_byteAt e9_byteAt ck9 ok.1 (⟨Nat.le_of_ble_eq_true rfl, Nat.le_of_ble_eq_true rfl⟩ : rOK B9_advance B9_byteAt) rfl (Nat.le_of_ble_eq_true rfl) (Nat.le_of_ble_eq_true rfl) ⟨Nat.le_of_ble_eq_true rfl, Nat.le_of_ble_eq_true rfl⟩ rfl (wp_mono (b9_byteAt (Q := (fun r I' L' => r = (v9_byteAt I h (I h 3)) ∧ I = I' ∧ L = L')) ok o19 ⟨rfl, rfl, rfl⟩) (fun v9 M9 hq9 => ?_))
    obtain ⟨_, _, _, rfl, rfl, rfl, rfl, rfl⟩ := hq9
    show wp X B9_advance 21 [(0, .ref h)] [.int (v9_byteAt I h (I h 3))] (G, I, L) 0 0 _
    refine wp_bipush (z := 32) (v := 32) (by decide +kernel) (by decide) ?_
    refine wp_icmp_ne (off := 16) (tgt := 39) (by decide +kernel) (by decide) (fun c3 => ?_) (fun c3 => ?_)
    · rw [if_neg c3] at H
      refine wp_aload_n (z := 0) (i := 0) (r := (some h)) 0 (by decide +kernel) rfl rfl ?_
      refine wp_aload_n (z := 0) (i := 0) (r := (some h)) 0 (by decide +kernel) rfl rfl ?_
      refine wp_getI (idx := 80) (by decide +kernel) fl9_80 rfl ok.1 ?_
      refine wp_putI (idx := 87) (by decide +kernel) fl9_87 rfl ok.1 ?_
      refine wp_memI (fun I4 eI4 => ?_)
      replace H := H I4 eI4
      refine wp_aload_n (z := 0) (i := 0) (r := (some h)) 0 (by decide +kernel) rfl rfl ?_
      refine wp_aload_n (z := 0) (i := 0) (r := (some h)) 0 (by decide +kernel) rfl rfl ?_
      refine wp_getI (idx := 80) (by decide +kernel) fl9_80 rfl ok.1 ?_
      obtain ⟨o17, H⟩ := H
      refine wp_callV (idx := 83) (B2 := B9_byteAt) (As := [.int (I4 h 3)]) (a := h) (st := []) (by decide +kernel) m9_byteAt ml9_83 k9_byteAt e9_byteAt ck9 ok.1 (⟨Nat.le_of_ble_eq_true rfl, Nat.le_of_ble_eq_true rfl⟩ : rOK B9_advance B9_byteAt) rfl (Nat.le_of_ble_eq_true rfl) (Nat.le_of_ble_eq_true rfl) ⟨Nat.le_of_ble_eq_true rfl, Nat.le_of_ble_eq_true rfl⟩ rfl (wp_mono (b9_byteAt (Q := (fun r I' L' => r = (v9_byteAt I4 h (I4 h 3)) ∧ I4 = I' ∧ L = L')) ok o17 ⟨rfl, rfl, rfl⟩) (fun v9 M9 hq9 => ?_))
      obtain ⟨_, _, _, rfl, rfl, rfl, rfl, rfl⟩ := hq9
      show wp X B9_advance 55 [(0, .ref h)] [.int (v9_byteAt I4 h (I4 h 3))] (G, I4, L) 0 0 _
      refine wp_topi (fun u5 eu5 => ?_)
      replace H := H u5 eu5
      refine wp_istore_n (z := 1) (i := 1) (lv' := [(1, .int u5), (0, .ref h)]) (by decide +kernel) rfl (by decide) rfl ?_
      refine wp_iload_n (z := 1) (i := 1) (x := u5) 0 (by decide +kernel) rfl rfl ?_
      refine wp_if_ge (off := 11) (tgt := 68) (by decide +kernel) (by decide) (fun c6 => ?_) (fun c6 => ?_)
      · rw [if_pos c6] at H
        refine wp_iload_n (z := 1) (i := 1) (x := u5) 0 (by decide +kernel) rfl rfl ?_
        refine wp_callS (idx := 93) (B2 := B9_isLetter) (As := [.int u5]) (st := []) (by decide +kernel) m9_isLetter ml9_93 k9_isLetter (⟨Nat.le_of_ble_eq_true rfl, Nat.le_of_ble_eq_true rfl⟩ : rOK B9_advance B9_isLetter) rfl (Nat.le_of_ble_eq_true rfl) (Nat.le_of_ble_eq_true rfl) ⟨Nat.le_of_ble_eq_true rfl, Nat.le_of_ble_eq_true rfl⟩ rfl (wp_mono (b9_isLetter (Q := (fun r I' L' => r = (v9_isLetter u5) ∧ I4 = I' ∧ L = L'))  ⟨rfl, rfl, rfl⟩) (fun v9 M9 hq9 => ?_))
        obtain ⟨_, _, _, rfl, rfl, rfl, rfl, rfl⟩ := hq9
        show wp X B9_advance 72 [(1, .int u5), (0, .ref h)] [.int (v9_isLetter u5)] (G, I4, L) 0 0 _
        refine wp_if_eq (off := 114) (tgt := 186) (by decide +kernel) (by decide) (fun c7 => ?_) (fun c7 => ?_)
        · rw [if_pos c7] at H
          refine wp_iload_n (z := 1) (i := 1) (x := u5) 0 (by decide +kernel) rfl rfl ?_
          refine wp_callS (idx := 108) (B2 := B9_isDigit) (As := [.int u5]) (st := []) (by decide +kernel) m9_isDigit ml9_108 k9_isDigit (⟨Nat.le_of_ble_eq_true rfl, Nat.le_of_ble_eq_true rfl⟩ : rOK B9_advance B9_isDigit) rfl (Nat.le_of_ble_eq_true rfl) (Nat.le_of_ble_eq_true rfl) ⟨Nat.le_of_ble_eq_true rfl, Nat.le_of_ble_eq_true rfl⟩ rfl (wp_mono (b9_isDigit (Q := (fun r I' L' => r = (v9_isDigit u5) ∧ I4 = I' ∧ L = L'))  ⟨rfl, rfl, rfl⟩) (fun v9 M9 hq9 => ?_))
          obtain ⟨_, _, _, rfl, rfl, rfl, rfl, rfl⟩ := hq9
          show wp X B9_advance 190 [(1, .int u5), (0, .ref h)] [.int (v9_isDigit u5)] (G, I4, L) 0 0 _
          refine wp_if_eq (off := 96) (tgt := 286) (by decide +kernel) (by decide) (fun c8 => ?_) (fun c8 => ?_)
          · rw [if_pos c8] at H
            refine wp_aload_n (z := 0) (i := 0) (r := (some h)) 1 (by decide +kernel) rfl rfl ?_
            refine wp_dup (by decide +kernel) rfl ?_
            refine wp_getI (idx := 80) (by decide +kernel) fl9_80 rfl ok.1 ?_
            refine wp_iconst (z := 1) (v := 1) (by decide +kernel) (by decide) ?_
            refine wp_iadd (by decide +kernel) ?_
            refine wp_putI (idx := 80) (by decide +kernel) fl9_80 rfl ok.1 ?_
            refine wp_memI (fun I9 eI9 => ?_)
            replace H := H I9 eI9
            refine wp_aload_n (z := 0) (i := 0) (r := (some h)) 1 (by decide +kernel) rfl rfl ?_
            refine wp_iload_n (z := 1) (i := 1) (x := u5) 0 (by decide +kernel) rfl rfl ?_
            refine wp_bipush (z := 59) (v := 59) (by decide +kernel) (by decide) ?_
            refine wp_icmp_ne (off := 7) (tgt := 307) (by decide +kernel) (by decide) (fun c10 => ?_) (fun c10 => ?_)
            · rw [if_neg c10] at H
              refine wp_iconst (z := 4) (v := 4) (by decide +kernel) (by decide) ?_
              refine wp_putI (idx := 90) (by decide +kernel) fl9_90 rfl ok.1 ?_
              refine wp_memI (fun I11 eI11 => ?_)
              replace H := H I11 eI11
              exact wp_vret (by decide +kernel) rfl (Nat.zero_le _) (Nat.zero_le _) ⟨_, _, rfl, rfl, H⟩
            · rw [if_pos c10] at H
              refine wp_iconst (z := 2) (v := 2) (by decide +kernel) (by decide) ?_
              refine wp_goto (off := 4) (tgt := 308) (by decide +kernel) (by decide) ?_
              refine wp_putI (idx := 90) (by decide +kernel) fl9_90 rfl ok.1 ?_
              refine wp_memI (fun I12 eI12 => ?_)
              replace H := H I12 eI12
              exact wp_vret (by decide +kernel) rfl (Nat.zero_le _) (Nat.zero_le _) ⟨_, _, rfl, rfl, H⟩
          · rw [if_neg c8] at H
            refine wp_aload_n (z := 0) (i := 0) (r := (some h)) 1 (by decide +kernel) rfl rfl ?_
            refine wp_iconst (z := 0) (v := 0) (by decide +kernel) (by decide) ?_
            refine wp_putI (idx := 111) (by decide +kernel) fl9_111 rfl ok.1 ?_
            refine wp_memI (fun I13 eI13 => ?_)
            replace H := H I13 eI13
            exact wp_sub [1] rfl H
        · rw [if_neg c7] at H
          refine wp_lconst (z := 0) (v := 0) (by decide +kernel) (by decide) ?_
          refine wp_lstore_n (z := 2) (i := 2) (lv' := [(2, .long 0), (1, .int u5), (0, .ref h)]) (by decide +kernel) rfl (by decide) rfl ?_
          exact wp_sub [2, 0] rfl H
      · rw [if_neg c6] at H
        refine wp_aload_n (z := 0) (i := 0) (r := (some h)) 1 (by decide +kernel) rfl rfl ?_
        refine wp_iconst (z := 0) (v := 0) (by decide +kernel) (by decide) ?_
        refine wp_putI (idx := 90) (by decide +kernel) fl9_90 rfl ok.1 ?_
        refine wp_memI (fun I16 eI16 => ?_)
        replace H := H I16 eI16
        refine wp_goto (off := 246) (tgt := 311) (by decide +kernel) (by decide) ?_
        exact wp_vret (by decide +kernel) rfl (Nat.zero_le _) (Nat.zero_le _) ⟨_, _, rfl, rfl, H⟩
    · rw [if_pos c3] at H
      refine wp_aload_n (z := 0) (i := 0) (r := (some h)) 0 (by decide +kernel) rfl rfl ?_
      refine wp_dup (by decide +kernel) rfl ?_
      refine wp_getI (idx := 80) (by decide +kernel) fl9_80 rfl ok.1 ?_
      refine wp_iconst (z := 1) (v := 1) (by decide +kernel) (by decide) ?_
      refine wp_iadd (by decide +kernel) ?_
      refine wp_putI (idx := 80) (by decide +kernel) fl9_80 rfl ok.1 ?_
      refine wp_memI (fun I18 eI18 => ?_)
      replace H := H I18 eI18
      refine wp_goto (off := -36) (tgt := 0) (by decide +kernel) (by decide) ?_
      exact wp_sub [0] rfl H
set_option maxRecDepth 20000 in
theorem b9_advance_77 {X : XX} {G : GG} {I : Nat → Nat → Int32} {L : Nat → Nat → Int64} {h : Nat} {x2 : Int64} {Q : (Nat → Nat → Int32) → (Nat → Nat → Int64) → Prop} (ok : OK9 G h) (H : p9_byteAt I h (I h 3) ∧ (if (v9_isLetter (v9_byteAt I h (I h 3))) = (0 : Int32) then (if ((I h 3) - (I h 4)) ≤ 8 then (∀ I3, I3 = up2 I h 7 (v9_wordOf x2) → if (I3 h 7) = 99 then (∀ I6, I6 = up2 I3 h 5 4 → Q I6 L) else (∀ I5, I5 = up2 I3 h 5 3 → Q I5 L)) else (∀ I8, I8 = up2 I h 7 99 → if (I8 h 7) = 99 then (∀ I11, I11 = up2 I8 h 5 4 → Q I11 L) else (∀ I10, I10 = up2 I8 h 5 3 → Q I10 L))) else (if 8 ≤ ((I h 3) - (I h 4)) then (∀ I13, I13 = up2 I h 3 ((I h 3) + 1) → wpV X B9_advance 77 [(0, .ref h), (2, .long x2)] [] G I13 L Q) else (p9_byteAt I h (I h 3) ∧ (∀ u14, u14 = (((32 * x2) + (Int32.toInt64 (v9_byteAt I h (I h 3)))) - 96) → ∀ I15, I15 = up2 I h 3 ((I h 3) + 1) → wpV X B9_advance 77 [(0, .ref h), (2, .long u14)] [] G I15 L Q))))) : wpV X B9_advance 77 [(0, .ref h), (2, .long x2)] [] G I L Q := by
  refine wp_aload_n (z := 0) (i := 0) (r := (some h)) 0 (by decide +kernel) rfl rfl ?_
  refine wp_aload_n (z := 0) (i := 0) (r := (some h)) 0 (by decide +kernel) rfl rfl ?_
  refine wp_getI (idx := 80) (by decide +kernel) fl9_80 rfl ok.1 ?_
  obtain ⟨o18, H⟩ := H
  refine wp_callV (idx := 83) (B2 := B9_byteAt) (As := [.int (I h 3)]) (a := h) (st := []) (by decide +kernel) m9_byteAt ml9_83 k9_byteAt e9_byteAt ck9 ok.1 (⟨Nat.le_of_ble_eq_true rfl, Nat.le_of_ble_eq_true rfl⟩ : rOK B9_advance B9_byteAt) rfl (Nat.le_of_ble_eq_true rfl) (Nat.le_of_ble_eq_true rfl) ⟨Nat.le_of_ble_eq_true rfl, Nat.le_of_ble_eq_true rfl⟩ rfl (wp_mono (b9_byteAt (Q := (fun r I' L' => r = (v9_byteAt I h (I h 3)) ∧ I = I' ∧ L = L')) ok o18 ⟨rfl, rfl, rfl⟩) (fun v9 M9 hq9 => ?_))
  obtain ⟨_, _, _, rfl, rfl, rfl, rfl, rfl⟩ := hq9
  show wp X B9_advance 85 [(0, .ref h), (2, .long x2)] [.int (v9_byteAt I h (I h 3))] (G, I, L) 0 0 _
  refine wp_callS (idx := 93) (B2 := B9_isLetter) (As := [.int (v9_byteAt I h (I h 3))]) (st := []) (by decide +kernel) m9_isLetter ml9_93 k9_isLetter (⟨Nat.le_of_ble_eq_true rfl, Nat.le_of_ble_eq_true rfl⟩ : rOK B9_advance B9_isLetter) rfl (Nat.le_of_ble_eq_true rfl) (Nat.le_of_ble_eq_true rfl) ⟨Nat.le_of_ble_eq_true rfl, Nat.le_of_ble_eq_true rfl⟩ rfl (wp_mono (b9_isLetter (Q := (fun r I' L' => r = (v9_isLetter (v9_byteAt I h (I h 3))) ∧ I = I' ∧ L = L'))  ⟨rfl, rfl, rfl⟩) (fun v9 M9 hq9 => ?_))
  obtain ⟨_, _, _, rfl, rfl, rfl, rfl, rfl⟩ := hq9
  show wp X B9_advance 88 [(0, .ref h), (2, .long x2)] [.int (v9_isLetter (v9_byteAt I h (I h 3)))] (G, I, L) 0 0 _
  refine wp_if_eq (off := 50) (tgt := 138) (by decide +kernel) (by decide) (fun c1 => ?_) (fun c1 => ?_)
  · rw [if_pos c1] at H
    refine wp_aload_n (z := 0) (i := 0) (r := (some h)) 0 (by decide +kernel) rfl rfl ?_
    refine wp_aload_n (z := 0) (i := 0) (r := (some h)) 0 (by decide +kernel) rfl rfl ?_
    refine wp_getI (idx := 80) (by decide +kernel) fl9_80 rfl ok.1 ?_
    refine wp_aload_n (z := 0) (i := 0) (r := (some h)) 0 (by decide +kernel) rfl rfl ?_
    refine wp_getI (idx := 87) (by decide +kernel) fl9_87 rfl ok.1 ?_
    refine wp_isub (by decide +kernel) ?_
    refine wp_bipush (z := 8) (v := 8) (by decide +kernel) (by decide) ?_
    refine wp_icmp_le (off := 8) (tgt := 158) (by decide +kernel) (by decide) (fun c2 => ?_) (fun c2 => ?_)
    · rw [if_pos c2] at H
      refine wp_lload_n (z := 2) (i := 2) (x := x2) 1 (by decide +kernel) rfl rfl ?_
      refine wp_callS (idx := 101) (B2 := B9_wordOf) (As := [.long x2]) (st := [.ref h]) (by decide +kernel) m9_wordOf ml9_101 k9_wordOf (⟨Nat.le_of_ble_eq_true rfl, Nat.le_of_ble_eq_true rfl⟩ : rOK B9_advance B9_wordOf) rfl (Nat.le_of_ble_eq_true rfl) (Nat.le_of_ble_eq_true rfl) ⟨Nat.le_of_ble_eq_true rfl, Nat.le_of_ble_eq_true rfl⟩ rfl (wp_mono (b9_wordOf (Q := (fun r I' L' => r = (v9_wordOf x2) ∧ I = I' ∧ L = L'))  ⟨rfl, rfl, rfl⟩) (fun v9 M9 hq9 => ?_))
      obtain ⟨_, _, _, rfl, rfl, rfl, rfl, rfl⟩ := hq9
      show wp X B9_advance 162 [(0, .ref h), (2, .long x2)] [.int (v9_wordOf x2), .ref h] (G, I, L) 0 0 _
      refine wp_putI (idx := 105) (by decide +kernel) fl9_105 rfl ok.1 ?_
      refine wp_memI (fun I3 eI3 => ?_)
      replace H := H I3 eI3
      refine wp_aload_n (z := 0) (i := 0) (r := (some h)) 0 (by decide +kernel) rfl rfl ?_
      refine wp_aload_n (z := 0) (i := 0) (r := (some h)) 0 (by decide +kernel) rfl rfl ?_
      refine wp_getI (idx := 105) (by decide +kernel) fl9_105 rfl ok.1 ?_
      refine wp_bipush (z := 99) (v := 99) (by decide +kernel) (by decide) ?_
      refine wp_icmp_ne (off := 7) (tgt := 179) (by decide +kernel) (by decide) (fun c4 => ?_) (fun c4 => ?_)
      · rw [if_neg c4] at H
        refine wp_iconst (z := 3) (v := 3) (by decide +kernel) (by decide) ?_
        refine wp_putI (idx := 90) (by decide +kernel) fl9_90 rfl ok.1 ?_
        refine wp_memI (fun I5 eI5 => ?_)
        replace H := H I5 eI5
        refine wp_goto (off := 128) (tgt := 311) (by decide +kernel) (by decide) ?_
        exact wp_vret (by decide +kernel) rfl (Nat.zero_le _) (Nat.zero_le _) ⟨_, _, rfl, rfl, H⟩
      · rw [if_pos c4] at H
        refine wp_iconst (z := 4) (v := 4) (by decide +kernel) (by decide) ?_
        refine wp_goto (off := 4) (tgt := 180) (by decide +kernel) (by decide) ?_
        refine wp_putI (idx := 90) (by decide +kernel) fl9_90 rfl ok.1 ?_
        refine wp_memI (fun I6 eI6 => ?_)
        replace H := H I6 eI6
        refine wp_goto (off := 128) (tgt := 311) (by decide +kernel) (by decide) ?_
        exact wp_vret (by decide +kernel) rfl (Nat.zero_le _) (Nat.zero_le _) ⟨_, _, rfl, rfl, H⟩
    · rw [if_neg c2] at H
      refine wp_bipush (z := 99) (v := 99) (by decide +kernel) (by decide) ?_
      refine wp_goto (off := 7) (tgt := 162) (by decide +kernel) (by decide) ?_
      refine wp_putI (idx := 105) (by decide +kernel) fl9_105 rfl ok.1 ?_
      refine wp_memI (fun I8 eI8 => ?_)
      replace H := H I8 eI8
      refine wp_aload_n (z := 0) (i := 0) (r := (some h)) 0 (by decide +kernel) rfl rfl ?_
      refine wp_aload_n (z := 0) (i := 0) (r := (some h)) 0 (by decide +kernel) rfl rfl ?_
      refine wp_getI (idx := 105) (by decide +kernel) fl9_105 rfl ok.1 ?_
      refine wp_bipush (z := 99) (v := 99) (by decide +kernel) (by decide) ?_
      refine wp_icmp_ne (off := 7) (tgt := 179) (by decide +kernel) (by decide) (fun c9 => ?_) (fun c9 => ?_)
      · rw [if_neg c9] at H
        refine wp_iconst (z := 3) (v := 3) (by decide +kernel) (by decide) ?_
        refine wp_putI (idx := 90) (by decide +kernel) fl9_90 rfl ok.1 ?_
        refine wp_memI (fun I10 eI10 => ?_)
        replace H := H I10 eI10
        refine wp_goto (off := 128) (tgt := 311) (by decide +kernel) (by decide) ?_
        exact wp_vret (by decide +kernel) rfl (Nat.zero_le _) (Nat.zero_le _) ⟨_, _, rfl, rfl, H⟩
      · rw [if_pos c9] at H
        refine wp_iconst (z := 4) (v := 4) (by decide +kernel) (by decide) ?_
        refine wp_goto (off := 4) (tgt := 180) (by decide +kernel) (by decide) ?_
        refine wp_putI (idx := 90) (by decide +kernel) fl9_90 rfl ok.1 ?_
        refine wp_memI (fun I11 eI11 => ?_)
        replace H := H I11 eI11
        refine wp_goto (off := 128) (tgt := 311) (by decide +kernel) (by decide) ?_
        exact wp_vret (by decide +kernel) rfl (Nat.zero_le _) (Nat.zero_le _) ⟨_, _, rfl, rfl, H⟩
  · rw [if_neg c1] at H
    refine wp_aload_n (z := 0) (i := 0) (r := (some h)) 0 (by decide +kernel) rfl rfl ?_
    refine wp_getI (idx := 80) (by decide +kernel) fl9_80 rfl ok.1 ?_
    refine wp_aload_n (z := 0) (i := 0) (r := (some h)) 0 (by decide +kernel) rfl rfl ?_
    refine wp_getI (idx := 87) (by decide +kernel) fl9_87 rfl ok.1 ?_
    refine wp_isub (by decide +kernel) ?_
    refine wp_bipush (z := 8) (v := 8) (by decide +kernel) (by decide) ?_
    refine wp_icmp_ge (off := 23) (tgt := 125) (by decide +kernel) (by decide) (fun c12 => ?_) (fun c12 => ?_)
    · rw [if_pos c12] at H
      refine wp_aload_n (z := 0) (i := 0) (r := (some h)) 0 (by decide +kernel) rfl rfl ?_
      refine wp_dup (by decide +kernel) rfl ?_
      refine wp_getI (idx := 80) (by decide +kernel) fl9_80 rfl ok.1 ?_
      refine wp_iconst (z := 1) (v := 1) (by decide +kernel) (by decide) ?_
      refine wp_iadd (by decide +kernel) ?_
      refine wp_putI (idx := 80) (by decide +kernel) fl9_80 rfl ok.1 ?_
      refine wp_memI (fun I13 eI13 => ?_)
      replace H := H I13 eI13
      refine wp_goto (off := -58) (tgt := 77) (by decide +kernel) (by decide) ?_
      exact wp_sub [0, 1] rfl H
    · rw [if_neg c12] at H
      refine wp_ldc2 (idx := 97) (v := 32) (by decide +kernel) (in_g (List.mem_of_getElem? (i := 1309) (by decide +kernel)) rfl) ?_
      refine wp_lload_n (z := 2) (i := 2) (x := x2) 1 (by decide +kernel) rfl rfl ?_
      refine wp_lmul (by decide +kernel) ?_
      refine wp_aload_n (z := 0) (i := 0) (r := (some h)) 0 (by decide +kernel) rfl rfl ?_
      refine wp_aload_n (z := 0) (i := 0) (r := (some h)) 0 (by decide +kernel) rfl rfl ?_
      refine wp_getI (idx := 80) (by decide +kernel) fl9_80 rfl ok.1 ?_
      obtain ⟨o16, H⟩ := H
      refine wp_callV (idx := 83) (B2 := B9_byteAt) (As := [.int (I h 3)]) (a := h) (st := [.long (32 * x2)]) (by decide +kernel) m9_byteAt ml9_83 k9_byteAt e9_byteAt ck9 ok.1 (⟨Nat.le_of_ble_eq_true rfl, Nat.le_of_ble_eq_true rfl⟩ : rOK B9_advance B9_byteAt) rfl (Nat.le_of_ble_eq_true rfl) (Nat.le_of_ble_eq_true rfl) ⟨Nat.le_of_ble_eq_true rfl, Nat.le_of_ble_eq_true rfl⟩ rfl (wp_mono (b9_byteAt (Q := (fun r I' L' => r = (v9_byteAt I h (I h 3)) ∧ I = I' ∧ L = L')) ok o16 ⟨rfl, rfl, rfl⟩) (fun v9 M9 hq9 => ?_))
      obtain ⟨_, _, _, rfl, rfl, rfl, rfl, rfl⟩ := hq9
      show wp X B9_advance 118 [(0, .ref h), (2, .long x2)] [.int (v9_byteAt I h (I h 3)), .long (32 * x2)] (G, I, L) 0 0 _
      refine wp_i2l (by decide +kernel) ?_
      refine wp_ladd (by decide +kernel) ?_
      refine wp_ldc2 (idx := 99) (v := 96) (by decide +kernel) (in_g (List.mem_of_getElem? (i := 1310) (by decide +kernel)) rfl) ?_
      refine wp_lsub (by decide +kernel) ?_
      refine wp_topl (fun u14 eu14 => ?_)
      replace H := H u14 eu14
      refine wp_lstore_n (z := 2) (i := 2) (lv' := [(2, .long u14), (0, .ref h)]) (by decide +kernel) rfl (by decide) rfl ?_
      refine wp_aload_n (z := 0) (i := 0) (r := (some h)) 1 (by decide +kernel) rfl rfl ?_
      refine wp_dup (by decide +kernel) rfl ?_
      refine wp_getI (idx := 80) (by decide +kernel) fl9_80 rfl ok.1 ?_
      refine wp_iconst (z := 1) (v := 1) (by decide +kernel) (by decide) ?_
      refine wp_iadd (by decide +kernel) ?_
      refine wp_putI (idx := 80) (by decide +kernel) fl9_80 rfl ok.1 ?_
      refine wp_memI (fun I15 eI15 => ?_)
      replace H := H I15 eI15
      refine wp_goto (off := -58) (tgt := 77) (by decide +kernel) (by decide) ?_
      exact wp_sub [1, 0] rfl H
set_option maxRecDepth 20000 in
theorem b9_advance_198 {X : XX} {G : GG} {I : Nat → Nat → Int32} {L : Nat → Nat → Int64} {h : Nat} {Q : (Nat → Nat → Int32) → (Nat → Nat → Int64) → Prop} (ok : OK9 G h) (H : p9_byteAt I h (I h 3) ∧ (if (v9_isDigit (v9_byteAt I h (I h 3))) = (0 : Int32) then (if ((I h 3) - (I h 4)) ≤ 2 then (∀ I3, I3 = up2 I h 5 1 → Q I3 L) else (∀ I4, I4 = up2 I h 5 4 → Q I4 L)) else (if 2 ≤ ((I h 3) - (I h 4)) then (∀ I6, I6 = up2 I h 3 ((I h 3) + 1) → wpV X B9_advance 198 [(0, .ref h)] [] G I6 L Q) else (p9_byteAt I h (I h 3) ∧ (∀ I7, I7 = up2 I h 6 (((10 * (I h 6)) + (v9_byteAt I h (I h 3))) - 48) → ∀ I8, I8 = up2 I7 h 3 ((I7 h 3) + 1) → wpV X B9_advance 198 [(0, .ref h)] [] G I8 L Q))))) : wpV X B9_advance 198 [(0, .ref h)] [] G I L Q := by
  refine wp_aload_n (z := 0) (i := 0) (r := (some h)) 0 (by decide +kernel) rfl rfl ?_
  refine wp_aload_n (z := 0) (i := 0) (r := (some h)) 0 (by decide +kernel) rfl rfl ?_
  refine wp_getI (idx := 80) (by decide +kernel) fl9_80 rfl ok.1 ?_
  obtain ⟨o11, H⟩ := H
  refine wp_callV (idx := 83) (B2 := B9_byteAt) (As := [.int (I h 3)]) (a := h) (st := []) (by decide +kernel) m9_byteAt ml9_83 k9_byteAt e9_byteAt ck9 ok.1 (⟨Nat.le_of_ble_eq_true rfl, Nat.le_of_ble_eq_true rfl⟩ : rOK B9_advance B9_byteAt) rfl (Nat.le_of_ble_eq_true rfl) (Nat.le_of_ble_eq_true rfl) ⟨Nat.le_of_ble_eq_true rfl, Nat.le_of_ble_eq_true rfl⟩ rfl (wp_mono (b9_byteAt (Q := (fun r I' L' => r = (v9_byteAt I h (I h 3)) ∧ I = I' ∧ L = L')) ok o11 ⟨rfl, rfl, rfl⟩) (fun v9 M9 hq9 => ?_))
  obtain ⟨_, _, _, rfl, rfl, rfl, rfl, rfl⟩ := hq9
  show wp X B9_advance 206 [(0, .ref h)] [.int (v9_byteAt I h (I h 3))] (G, I, L) 0 0 _
  refine wp_callS (idx := 108) (B2 := B9_isDigit) (As := [.int (v9_byteAt I h (I h 3))]) (st := []) (by decide +kernel) m9_isDigit ml9_108 k9_isDigit (⟨Nat.le_of_ble_eq_true rfl, Nat.le_of_ble_eq_true rfl⟩ : rOK B9_advance B9_isDigit) rfl (Nat.le_of_ble_eq_true rfl) (Nat.le_of_ble_eq_true rfl) ⟨Nat.le_of_ble_eq_true rfl, Nat.le_of_ble_eq_true rfl⟩ rfl (wp_mono (b9_isDigit (Q := (fun r I' L' => r = (v9_isDigit (v9_byteAt I h (I h 3))) ∧ I = I' ∧ L = L'))  ⟨rfl, rfl, rfl⟩) (fun v9 M9 hq9 => ?_))
  obtain ⟨_, _, _, rfl, rfl, rfl, rfl, rfl⟩ := hq9
  show wp X B9_advance 209 [(0, .ref h)] [.int (v9_isDigit (v9_byteAt I h (I h 3)))] (G, I, L) 0 0 _
  refine wp_if_eq (off := 52) (tgt := 261) (by decide +kernel) (by decide) (fun c1 => ?_) (fun c1 => ?_)
  · rw [if_pos c1] at H
    refine wp_aload_n (z := 0) (i := 0) (r := (some h)) 0 (by decide +kernel) rfl rfl ?_
    refine wp_aload_n (z := 0) (i := 0) (r := (some h)) 0 (by decide +kernel) rfl rfl ?_
    refine wp_getI (idx := 80) (by decide +kernel) fl9_80 rfl ok.1 ?_
    refine wp_aload_n (z := 0) (i := 0) (r := (some h)) 0 (by decide +kernel) rfl rfl ?_
    refine wp_getI (idx := 87) (by decide +kernel) fl9_87 rfl ok.1 ?_
    refine wp_isub (by decide +kernel) ?_
    refine wp_iconst (z := 2) (v := 2) (by decide +kernel) (by decide) ?_
    refine wp_icmp_le (off := 7) (tgt := 279) (by decide +kernel) (by decide) (fun c2 => ?_) (fun c2 => ?_)
    · rw [if_pos c2] at H
      refine wp_iconst (z := 1) (v := 1) (by decide +kernel) (by decide) ?_
      refine wp_putI (idx := 90) (by decide +kernel) fl9_90 rfl ok.1 ?_
      refine wp_memI (fun I3 eI3 => ?_)
      replace H := H I3 eI3
      refine wp_goto (off := 28) (tgt := 311) (by decide +kernel) (by decide) ?_
      exact wp_vret (by decide +kernel) rfl (Nat.zero_le _) (Nat.zero_le _) ⟨_, _, rfl, rfl, H⟩
    · rw [if_neg c2] at H
      refine wp_iconst (z := 4) (v := 4) (by decide +kernel) (by decide) ?_
      refine wp_goto (off := 4) (tgt := 280) (by decide +kernel) (by decide) ?_
      refine wp_putI (idx := 90) (by decide +kernel) fl9_90 rfl ok.1 ?_
      refine wp_memI (fun I4 eI4 => ?_)
      replace H := H I4 eI4
      refine wp_goto (off := 28) (tgt := 311) (by decide +kernel) (by decide) ?_
      exact wp_vret (by decide +kernel) rfl (Nat.zero_le _) (Nat.zero_le _) ⟨_, _, rfl, rfl, H⟩
  · rw [if_neg c1] at H
    refine wp_aload_n (z := 0) (i := 0) (r := (some h)) 0 (by decide +kernel) rfl rfl ?_
    refine wp_getI (idx := 80) (by decide +kernel) fl9_80 rfl ok.1 ?_
    refine wp_aload_n (z := 0) (i := 0) (r := (some h)) 0 (by decide +kernel) rfl rfl ?_
    refine wp_getI (idx := 87) (by decide +kernel) fl9_87 rfl ok.1 ?_
    refine wp_isub (by decide +kernel) ?_
    refine wp_iconst (z := 2) (v := 2) (by decide +kernel) (by decide) ?_
    refine wp_icmp_ge (off := 26) (tgt := 248) (by decide +kernel) (by decide) (fun c5 => ?_) (fun c5 => ?_)
    · rw [if_pos c5] at H
      refine wp_aload_n (z := 0) (i := 0) (r := (some h)) 0 (by decide +kernel) rfl rfl ?_
      refine wp_dup (by decide +kernel) rfl ?_
      refine wp_getI (idx := 80) (by decide +kernel) fl9_80 rfl ok.1 ?_
      refine wp_iconst (z := 1) (v := 1) (by decide +kernel) (by decide) ?_
      refine wp_iadd (by decide +kernel) ?_
      refine wp_putI (idx := 80) (by decide +kernel) fl9_80 rfl ok.1 ?_
      refine wp_memI (fun I6 eI6 => ?_)
      replace H := H I6 eI6
      refine wp_goto (off := -60) (tgt := 198) (by decide +kernel) (by decide) ?_
      exact wp_sub [0] rfl H
    · rw [if_neg c5] at H
      refine wp_aload_n (z := 0) (i := 0) (r := (some h)) 0 (by decide +kernel) rfl rfl ?_
      refine wp_bipush (z := 10) (v := 10) (by decide +kernel) (by decide) ?_
      refine wp_aload_n (z := 0) (i := 0) (r := (some h)) 0 (by decide +kernel) rfl rfl ?_
      refine wp_getI (idx := 111) (by decide +kernel) fl9_111 rfl ok.1 ?_
      refine wp_imul (by decide +kernel) ?_
      refine wp_aload_n (z := 0) (i := 0) (r := (some h)) 0 (by decide +kernel) rfl rfl ?_
      refine wp_aload_n (z := 0) (i := 0) (r := (some h)) 0 (by decide +kernel) rfl rfl ?_
      refine wp_getI (idx := 80) (by decide +kernel) fl9_80 rfl ok.1 ?_
      obtain ⟨o9, H⟩ := H
      refine wp_callV (idx := 83) (B2 := B9_byteAt) (As := [.int (I h 3)]) (a := h) (st := [.int (10 * (I h 6)), .ref h]) (by decide +kernel) m9_byteAt ml9_83 k9_byteAt e9_byteAt ck9 ok.1 (⟨Nat.le_of_ble_eq_true rfl, Nat.le_of_ble_eq_true rfl⟩ : rOK B9_advance B9_byteAt) rfl (Nat.le_of_ble_eq_true rfl) (Nat.le_of_ble_eq_true rfl) ⟨Nat.le_of_ble_eq_true rfl, Nat.le_of_ble_eq_true rfl⟩ rfl (wp_mono (b9_byteAt (Q := (fun r I' L' => r = (v9_byteAt I h (I h 3)) ∧ I = I' ∧ L = L')) ok o9 ⟨rfl, rfl, rfl⟩) (fun v9 M9 hq9 => ?_))
      obtain ⟨_, _, _, rfl, rfl, rfl, rfl, rfl⟩ := hq9
      show wp X B9_advance 241 [(0, .ref h)] [.int (v9_byteAt I h (I h 3)), .int (10 * (I h 6)), .ref h] (G, I, L) 0 0 _
      refine wp_iadd (by decide +kernel) ?_
      refine wp_bipush (z := 48) (v := 48) (by decide +kernel) (by decide) ?_
      refine wp_isub (by decide +kernel) ?_
      refine wp_putI (idx := 111) (by decide +kernel) fl9_111 rfl ok.1 ?_
      refine wp_memI (fun I7 eI7 => ?_)
      replace H := H I7 eI7
      refine wp_aload_n (z := 0) (i := 0) (r := (some h)) 0 (by decide +kernel) rfl rfl ?_
      refine wp_dup (by decide +kernel) rfl ?_
      refine wp_getI (idx := 80) (by decide +kernel) fl9_80 rfl ok.1 ?_
      refine wp_iconst (z := 1) (v := 1) (by decide +kernel) (by decide) ?_
      refine wp_iadd (by decide +kernel) ?_
      refine wp_putI (idx := 80) (by decide +kernel) fl9_80 rfl ok.1 ?_
      refine wp_memI (fun I8 eI8 => ?_)
      replace H := H I8 eI8
      refine wp_goto (off := -60) (tgt := 198) (by decide +kernel) (by decide) ?_
      exact wp_sub [0] rfl H
/-! DeafWallModel.ends()V -/
set_option maxRecDepth 20000 in
theorem b9_ends {X : XX} {G : GG} {I : Nat → Nat → Int32} {L : Nat → Nat → Int64} {h : Nat} {Q : (Nat → Nat → Int32) → (Nat → Nat → Int64) → Prop} (ok : OK9 G h) (H : if (I h 8) = (0 : Int32) then (∀ I2, I2 = up2 I h 8 1 → ∀ I3, I3 = up2 I2 (h + 1) 5 1 → ∀ I4, I4 = up2 I3 (h + 1) 6 (I3 h 4) → Q I4 L) else (Q I L)) : wpV X B9_ends 0 [(0, .ref h)] [] G I L Q := by
  refine wp_aload_n (z := 0) (i := 0) (r := (some h)) 0 (by decide +kernel) rfl rfl ?_
  refine wp_getI (idx := 114) (by decide +kernel) fl9_114 rfl ok.1 ?_
  refine wp_if_eq (off := 4) (tgt := 8) (by decide +kernel) (by decide) (fun c1 => ?_) (fun c1 => ?_)
  · rw [if_pos c1] at H
    refine wp_aload_n (z := 0) (i := 0) (r := (some h)) 0 (by decide +kernel) rfl rfl ?_
    refine wp_iconst (z := 1) (v := 1) (by decide +kernel) (by decide) ?_
    refine wp_putZ (idx := 114) (by decide +kernel) fl9_114 rfl ok.1 (by decide) ?_
    refine wp_memI (fun I2 eI2 => ?_)
    replace H := H I2 eI2
    refine wp_aload_n (z := 0) (i := 0) (r := (some h)) 0 (by decide +kernel) rfl rfl ?_
    refine wp_getS (idx := 7) (q := (h + 1)) (by decide +kernel) fl9_7 rfl ok.1 (okr9_0 ok) ?_
    refine wp_iconst (z := 5) (v := 5) (by decide +kernel) (by decide) ?_
    refine wp_iconst (z := 1) (v := 1) (by decide +kernel) (by decide) ?_
    refine wp_iast (j := 5) (by decide +kernel) (oks9_0 ok) (vin_c (by decide)) (by decide) ?_
    refine wp_memI (fun I3 eI3 => ?_)
    replace H := H I3 eI3
    refine wp_aload_n (z := 0) (i := 0) (r := (some h)) 0 (by decide +kernel) rfl rfl ?_
    refine wp_getS (idx := 7) (q := (h + 1)) (by decide +kernel) fl9_7 rfl ok.1 (okr9_0 ok) ?_
    refine wp_bipush (z := 6) (v := 6) (by decide +kernel) (by decide) ?_
    refine wp_aload_n (z := 0) (i := 0) (r := (some h)) 0 (by decide +kernel) rfl rfl ?_
    refine wp_getI (idx := 87) (by decide +kernel) fl9_87 rfl ok.1 ?_
    refine wp_iast (j := 6) (by decide +kernel) (oks9_0 ok) (vin_c (by decide)) (by decide) ?_
    refine wp_memI (fun I4 eI4 => ?_)
    replace H := H I4 eI4
    exact wp_vret (by decide +kernel) rfl (Nat.zero_le _) (Nat.zero_le _) ⟨_, _, rfl, rfl, H⟩
  · rw [if_neg c1] at H
    exact wp_vret (by decide +kernel) rfl (Nat.zero_le _) (Nat.zero_le _) ⟨_, _, rfl, rfl, H⟩
/-! DeafWallModel.also(II)V -/
set_option maxRecDepth 20000 in
theorem b9_also {X : XX} {G : GG} {I : Nat → Nat → Int32} {L : Nat → Nat → Int64} {h : Nat} {x1 : Int32} {x2 : Int32} {Q : (Nat → Nat → Int32) → (Nat → Nat → Int64) → Prop} (ok : OK9 G h) (H : if (I h 8) = (0 : Int32) then (if (I (h + 1) 5) = (0 : Int32) then (∀ I3, I3 = up2 I (h + 1) 5 x1 → ∀ I4, I4 = up2 I3 (h + 1) 6 x2 → Q I4 L) else (if (I (h + 1) 6) < x2 then (Q I L) else (if (I (h + 1) 6) = x2 then (if x1 < (I (h + 1) 5) then (∀ I10, I10 = up2 I (h + 1) 5 x1 → ∀ I11, I11 = up2 I10 (h + 1) 6 x2 → Q I11 L) else (Q I L)) else (∀ I7, I7 = up2 I (h + 1) 5 x1 → ∀ I8, I8 = up2 I7 (h + 1) 6 x2 → Q I8 L)))) else (Q I L)) : wpV X B9_also 0 [(0, .ref h), (1, .int x1), (2, .int x2)] [] G I L Q := by
  refine wp_aload_n (z := 0) (i := 0) (r := (some h)) 0 (by decide +kernel) rfl rfl ?_
  refine wp_getI (idx := 114) (by decide +kernel) fl9_114 rfl ok.1 ?_
  refine wp_if_ne (off := 44) (tgt := 48) (by decide +kernel) (by decide) (fun c1 => ?_) (fun c1 => ?_)
  · rw [if_neg c1] at H
    exact wp_vret (by decide +kernel) rfl (Nat.zero_le _) (Nat.zero_le _) ⟨_, _, rfl, rfl, H⟩
  · rw [if_pos c1] at H
    refine wp_aload_n (z := 0) (i := 0) (r := (some h)) 0 (by decide +kernel) rfl rfl ?_
    refine wp_getS (idx := 7) (q := (h + 1)) (by decide +kernel) fl9_7 rfl ok.1 (okr9_0 ok) ?_
    refine wp_iconst (z := 5) (v := 5) (by decide +kernel) (by decide) ?_
    refine wp_iald (j := 5) (by decide +kernel) (oks9_0 ok) (vin_c (by decide)) (by decide) ?_
    refine wp_if_eq (off := 36) (tgt := 49) (by decide +kernel) (by decide) (fun c2 => ?_) (fun c2 => ?_)
    · rw [if_pos c2] at H
      refine wp_aload_n (z := 0) (i := 0) (r := (some h)) 0 (by decide +kernel) rfl rfl ?_
      refine wp_getS (idx := 7) (q := (h + 1)) (by decide +kernel) fl9_7 rfl ok.1 (okr9_0 ok) ?_
      refine wp_iconst (z := 5) (v := 5) (by decide +kernel) (by decide) ?_
      refine wp_iload_n (z := 1) (i := 1) (x := x1) 1 (by decide +kernel) rfl rfl ?_
      refine wp_iast (j := 5) (by decide +kernel) (oks9_0 ok) (vin_c (by decide)) (by decide) ?_
      refine wp_memI (fun I3 eI3 => ?_)
      replace H := H I3 eI3
      refine wp_aload_n (z := 0) (i := 0) (r := (some h)) 0 (by decide +kernel) rfl rfl ?_
      refine wp_getS (idx := 7) (q := (h + 1)) (by decide +kernel) fl9_7 rfl ok.1 (okr9_0 ok) ?_
      refine wp_bipush (z := 6) (v := 6) (by decide +kernel) (by decide) ?_
      refine wp_iload_n (z := 2) (i := 2) (x := x2) 2 (by decide +kernel) rfl rfl ?_
      refine wp_iast (j := 6) (by decide +kernel) (oks9_0 ok) (vin_c (by decide)) (by decide) ?_
      refine wp_memI (fun I4 eI4 => ?_)
      replace H := H I4 eI4
      exact wp_vret (by decide +kernel) rfl (Nat.zero_le _) (Nat.zero_le _) ⟨_, _, rfl, rfl, H⟩
    · rw [if_neg c2] at H
      refine wp_aload_n (z := 0) (i := 0) (r := (some h)) 0 (by decide +kernel) rfl rfl ?_
      refine wp_getS (idx := 7) (q := (h + 1)) (by decide +kernel) fl9_7 rfl ok.1 (okr9_0 ok) ?_
      refine wp_bipush (z := 6) (v := 6) (by decide +kernel) (by decide) ?_
      refine wp_iald (j := 6) (by decide +kernel) (oks9_0 ok) (vin_c (by decide)) (by decide) ?_
      refine wp_iload_n (z := 2) (i := 2) (x := x2) 2 (by decide +kernel) rfl rfl ?_
      refine wp_icmp_lt (off := 24) (tgt := 48) (by decide +kernel) (by decide) (fun c5 => ?_) (fun c5 => ?_)
      · rw [if_pos c5] at H
        exact wp_vret (by decide +kernel) rfl (Nat.zero_le _) (Nat.zero_le _) ⟨_, _, rfl, rfl, H⟩
      · rw [if_neg c5] at H
        refine wp_aload_n (z := 0) (i := 0) (r := (some h)) 0 (by decide +kernel) rfl rfl ?_
        refine wp_getS (idx := 7) (q := (h + 1)) (by decide +kernel) fl9_7 rfl ok.1 (okr9_0 ok) ?_
        refine wp_bipush (z := 6) (v := 6) (by decide +kernel) (by decide) ?_
        refine wp_iald (j := 6) (by decide +kernel) (oks9_0 ok) (vin_c (by decide)) (by decide) ?_
        refine wp_iload_n (z := 2) (i := 2) (x := x2) 2 (by decide +kernel) rfl rfl ?_
        refine wp_icmp_ne (off := 14) (tgt := 49) (by decide +kernel) (by decide) (fun c6 => ?_) (fun c6 => ?_)
        · rw [if_neg c6] at H
          refine wp_aload_n (z := 0) (i := 0) (r := (some h)) 0 (by decide +kernel) rfl rfl ?_
          refine wp_getS (idx := 7) (q := (h + 1)) (by decide +kernel) fl9_7 rfl ok.1 (okr9_0 ok) ?_
          refine wp_iconst (z := 5) (v := 5) (by decide +kernel) (by decide) ?_
          refine wp_iload_n (z := 1) (i := 1) (x := x1) 1 (by decide +kernel) rfl rfl ?_
          refine wp_iast (j := 5) (by decide +kernel) (oks9_0 ok) (vin_c (by decide)) (by decide) ?_
          refine wp_memI (fun I7 eI7 => ?_)
          replace H := H I7 eI7
          refine wp_aload_n (z := 0) (i := 0) (r := (some h)) 0 (by decide +kernel) rfl rfl ?_
          refine wp_getS (idx := 7) (q := (h + 1)) (by decide +kernel) fl9_7 rfl ok.1 (okr9_0 ok) ?_
          refine wp_bipush (z := 6) (v := 6) (by decide +kernel) (by decide) ?_
          refine wp_iload_n (z := 2) (i := 2) (x := x2) 2 (by decide +kernel) rfl rfl ?_
          refine wp_iast (j := 6) (by decide +kernel) (oks9_0 ok) (vin_c (by decide)) (by decide) ?_
          refine wp_memI (fun I8 eI8 => ?_)
          replace H := H I8 eI8
          exact wp_vret (by decide +kernel) rfl (Nat.zero_le _) (Nat.zero_le _) ⟨_, _, rfl, rfl, H⟩
        · rw [if_pos c6] at H
          refine wp_aload_n (z := 0) (i := 0) (r := (some h)) 0 (by decide +kernel) rfl rfl ?_
          refine wp_getS (idx := 7) (q := (h + 1)) (by decide +kernel) fl9_7 rfl ok.1 (okr9_0 ok) ?_
          refine wp_iconst (z := 5) (v := 5) (by decide +kernel) (by decide) ?_
          refine wp_iald (j := 5) (by decide +kernel) (oks9_0 ok) (vin_c (by decide)) (by decide) ?_
          refine wp_iload_n (z := 1) (i := 1) (x := x1) 1 (by decide +kernel) rfl rfl ?_
          refine wp_icmp_gt (off := 4) (tgt := 49) (by decide +kernel) (by decide) (fun c9 => ?_) (fun c9 => ?_)
          · rw [if_pos c9] at H
            refine wp_aload_n (z := 0) (i := 0) (r := (some h)) 0 (by decide +kernel) rfl rfl ?_
            refine wp_getS (idx := 7) (q := (h + 1)) (by decide +kernel) fl9_7 rfl ok.1 (okr9_0 ok) ?_
            refine wp_iconst (z := 5) (v := 5) (by decide +kernel) (by decide) ?_
            refine wp_iload_n (z := 1) (i := 1) (x := x1) 1 (by decide +kernel) rfl rfl ?_
            refine wp_iast (j := 5) (by decide +kernel) (oks9_0 ok) (vin_c (by decide)) (by decide) ?_
            refine wp_memI (fun I10 eI10 => ?_)
            replace H := H I10 eI10
            refine wp_aload_n (z := 0) (i := 0) (r := (some h)) 0 (by decide +kernel) rfl rfl ?_
            refine wp_getS (idx := 7) (q := (h + 1)) (by decide +kernel) fl9_7 rfl ok.1 (okr9_0 ok) ?_
            refine wp_bipush (z := 6) (v := 6) (by decide +kernel) (by decide) ?_
            refine wp_iload_n (z := 2) (i := 2) (x := x2) 2 (by decide +kernel) rfl rfl ?_
            refine wp_iast (j := 6) (by decide +kernel) (oks9_0 ok) (vin_c (by decide)) (by decide) ?_
            refine wp_memI (fun I11 eI11 => ?_)
            replace H := H I11 eI11
            exact wp_vret (by decide +kernel) rfl (Nat.zero_le _) (Nat.zero_le _) ⟨_, _, rfl, rfl, H⟩
          · rw [if_neg c9] at H
            exact wp_vret (by decide +kernel) rfl (Nat.zero_le _) (Nat.zero_le _) ⟨_, _, rfl, rfl, H⟩
/-! DeafWallModel.numbered(II)I -/
set_option maxRecDepth 20000 in
theorem b9_numbered {X : XX} {G : GG} {I : Nat → Nat → Int32} {L : Nat → Nat → Int64} {h : Nat} {x1 : Int32} {x2 : Int32} {Q : Int32 → (Nat → Nat → Int32) → (Nat → Nat → Int64) → Prop} (ok : OK9 G h) (H : if (I h 8) = (0 : Int32) then (if (I h 5) = 1 then (if (v9_isIn (I h 6) x1 x2) = (0 : Int32) then (wpV X B9_also 0 [(0, .ref h), (1, .int 2), (2, .int (I h 4))] [] G I L (fun I12 L13 => wpV X B9_advance 0 [(0, .ref h)] [] G I12 L13 (fun I15 L16 => if (v9_isIn (I h 6) x1 x2) = (0 : Int32) then (Q x1 I15 L16) else (Q (I h 6) I15 L16)))) else (wpV X B9_advance 0 [(0, .ref h)] [] G I L (fun I7 L8 => if (v9_isIn (I h 6) x1 x2) = (0 : Int32) then (Q x1 I7 L8) else (Q (I h 6) I7 L8)))) else (wpV X B9_ends 0 [(0, .ref h)] [] G I L (fun I21 L22 => Q x1 I21 L22))) else (wpV X B9_ends 0 [(0, .ref h)] [] G I L (fun I2 L3 => Q x1 I2 L3))) : wpI X B9_numbered 0 [(0, .ref h), (1, .int x1), (2, .int x2)] [] G I L Q := by
  refine wp_aload_n (z := 0) (i := 0) (r := (some h)) 0 (by decide +kernel) rfl rfl ?_
  refine wp_getI (idx := 114) (by decide +kernel) fl9_114 rfl ok.1 ?_
  refine wp_if_ne (off := 11) (tgt := 15) (by decide +kernel) (by decide) (fun c1 => ?_) (fun c1 => ?_)
  · rw [if_neg c1] at H
    refine wp_aload_n (z := 0) (i := 0) (r := (some h)) 0 (by decide +kernel) rfl rfl ?_
    refine wp_callV (idx := 118) (B2 := B9_ends) (As := []) (a := h) (st := []) (by decide +kernel) m9_ends ml9_118 k9_ends e9_ends ck9 ok.1 (⟨Nat.le_of_ble_eq_true rfl, Nat.le_of_ble_eq_true rfl⟩ : rOK B9_numbered B9_ends) rfl (Nat.le_of_ble_eq_true rfl) (Nat.le_of_ble_eq_true rfl) ⟨Nat.le_of_ble_eq_true rfl, Nat.le_of_ble_eq_true rfl⟩ rfl (wp_mono H (fun v9 M9 hq9 => ?_))
    clear H
    obtain ⟨I2, L3, rfl, rfl, H⟩ := hq9
    show wp X B9_numbered 19 [(0, .ref h), (1, .int x1), (2, .int x2)] [] (G, I2, L3) 0 0 _
    refine wp_iload_n (z := 1) (i := 1) (x := x1) 1 (by decide +kernel) rfl rfl ?_
    exact wp_iret (by decide +kernel) rfl (Nat.zero_le _) (Nat.zero_le _) ⟨_, _, _, rfl, rfl, H⟩
  · rw [if_pos c1] at H
    refine wp_aload_n (z := 0) (i := 0) (r := (some h)) 0 (by decide +kernel) rfl rfl ?_
    refine wp_getI (idx := 90) (by decide +kernel) fl9_90 rfl ok.1 ?_
    refine wp_iconst (z := 1) (v := 1) (by decide +kernel) (by decide) ?_
    refine wp_icmp_eq (off := 9) (tgt := 21) (by decide +kernel) (by decide) (fun c5 => ?_) (fun c5 => ?_)
    · rw [if_pos c5] at H
      refine wp_aload_n (z := 0) (i := 0) (r := (some h)) 0 (by decide +kernel) rfl rfl ?_
      refine wp_getI (idx := 111) (by decide +kernel) fl9_111 rfl ok.1 ?_
      refine wp_istore_n (z := 3) (i := 3) (lv' := [(3, .int (I h 6)), (0, .ref h), (1, .int x1), (2, .int x2)]) (by decide +kernel) rfl (by decide) rfl ?_
      refine wp_iload_n (z := 3) (i := 3) (x := (I h 6)) 0 (by decide +kernel) rfl rfl ?_
      refine wp_iload_n (z := 1) (i := 1) (x := x1) 2 (by decide +kernel) rfl rfl ?_
      refine wp_iload_n (z := 2) (i := 2) (x := x2) 3 (by decide +kernel) rfl rfl ?_
      refine wp_callS (idx := 121) (B2 := B9_isIn) (As := [.int (I h 6), .int x1, .int x2]) (st := []) (by decide +kernel) m9_isIn ml9_121 k9_isIn (⟨Nat.le_of_ble_eq_true rfl, Nat.le_of_ble_eq_true rfl⟩ : rOK B9_numbered B9_isIn) rfl (Nat.le_of_ble_eq_true rfl) (Nat.le_of_ble_eq_true rfl) ⟨Nat.le_of_ble_eq_true rfl, Nat.le_of_ble_eq_true rfl⟩ rfl (wp_mono (b9_isIn (Q := (fun r I' L' => r = (v9_isIn (I h 6) x1 x2) ∧ I = I' ∧ L = L'))  ⟨rfl, rfl, rfl⟩) (fun v9 M9 hq9 => ?_))
      obtain ⟨_, _, _, rfl, rfl, rfl, rfl, rfl⟩ := hq9
      show wp X B9_numbered 32 [(3, .int (I h 6)), (0, .ref h), (1, .int x1), (2, .int x2)] [.int (v9_isIn (I h 6) x1 x2)] (G, I, L) 0 0 _
      refine wp_if_ne (off := 12) (tgt := 44) (by decide +kernel) (by decide) (fun c6 => ?_) (fun c6 => ?_)
      · rw [if_neg c6] at H
        refine wp_aload_n (z := 0) (i := 0) (r := (some h)) 1 (by decide +kernel) rfl rfl ?_
        refine wp_callV (idx := 129) (B2 := B9_advance) (As := []) (a := h) (st := []) (by decide +kernel) m9_advance ml9_129 k9_advance e9_advance ck9 ok.1 (⟨Nat.le_of_ble_eq_true rfl, Nat.le_of_ble_eq_true rfl⟩ : rOK B9_numbered B9_advance) rfl (Nat.le_of_ble_eq_true rfl) (Nat.le_of_ble_eq_true rfl) ⟨Nat.le_of_ble_eq_true rfl, Nat.le_of_ble_eq_true rfl⟩ rfl (wp_mono H (fun v9 M9 hq9 => ?_))
        clear H
        obtain ⟨I7, L8, rfl, rfl, H⟩ := hq9
        show wp X B9_numbered 48 [(3, .int (I h 6)), (0, .ref h), (1, .int x1), (2, .int x2)] [] (G, I7, L8) 0 0 _
        refine wp_iload_n (z := 3) (i := 3) (x := (I h 6)) 0 (by decide +kernel) rfl rfl ?_
        refine wp_iload_n (z := 1) (i := 1) (x := x1) 2 (by decide +kernel) rfl rfl ?_
        refine wp_iload_n (z := 2) (i := 2) (x := x2) 3 (by decide +kernel) rfl rfl ?_
        refine wp_callS (idx := 121) (B2 := B9_isIn) (As := [.int (I h 6), .int x1, .int x2]) (st := []) (by decide +kernel) m9_isIn ml9_121 k9_isIn (⟨Nat.le_of_ble_eq_true rfl, Nat.le_of_ble_eq_true rfl⟩ : rOK B9_numbered B9_isIn) rfl (Nat.le_of_ble_eq_true rfl) (Nat.le_of_ble_eq_true rfl) ⟨Nat.le_of_ble_eq_true rfl, Nat.le_of_ble_eq_true rfl⟩ rfl (wp_mono (b9_isIn (Q := (fun r I' L' => r = (v9_isIn (I h 6) x1 x2) ∧ I7 = I' ∧ L8 = L'))  ⟨rfl, rfl, rfl⟩) (fun v9 M9 hq9 => ?_))
        obtain ⟨_, _, _, rfl, rfl, rfl, rfl, rfl⟩ := hq9
        show wp X B9_numbered 54 [(3, .int (I h 6)), (0, .ref h), (1, .int x1), (2, .int x2)] [.int (v9_isIn (I h 6) x1 x2)] (G, I7, L8) 0 0 _
        refine wp_if_eq (off := 7) (tgt := 61) (by decide +kernel) (by decide) (fun c10 => ?_) (fun c10 => ?_)
        · rw [if_pos c10] at H
          refine wp_iload_n (z := 1) (i := 1) (x := x1) 2 (by decide +kernel) rfl rfl ?_
          exact wp_iret (by decide +kernel) rfl (Nat.zero_le _) (Nat.zero_le _) ⟨_, _, _, rfl, rfl, H⟩
        · rw [if_neg c10] at H
          refine wp_iload_n (z := 3) (i := 3) (x := (I h 6)) 0 (by decide +kernel) rfl rfl ?_
          refine wp_goto (off := 4) (tgt := 62) (by decide +kernel) (by decide) ?_
          exact wp_iret (by decide +kernel) rfl (Nat.zero_le _) (Nat.zero_le _) ⟨_, _, _, rfl, rfl, H⟩
      · rw [if_pos c6] at H
        refine wp_aload_n (z := 0) (i := 0) (r := (some h)) 1 (by decide +kernel) rfl rfl ?_
        refine wp_iconst (z := 2) (v := 2) (by decide +kernel) (by decide) ?_
        refine wp_aload_n (z := 0) (i := 0) (r := (some h)) 1 (by decide +kernel) rfl rfl ?_
        refine wp_getI (idx := 87) (by decide +kernel) fl9_87 rfl ok.1 ?_
        refine wp_callV (idx := 125) (B2 := B9_also) (As := [.int 2, .int (I h 4)]) (a := h) (st := []) (by decide +kernel) m9_also ml9_125 k9_also e9_also ck9 ok.1 (⟨Nat.le_of_ble_eq_true rfl, Nat.le_of_ble_eq_true rfl⟩ : rOK B9_numbered B9_also) rfl (Nat.le_of_ble_eq_true rfl) (Nat.le_of_ble_eq_true rfl) ⟨Nat.le_of_ble_eq_true rfl, Nat.le_of_ble_eq_true rfl⟩ rfl (wp_mono H (fun v9 M9 hq9 => ?_))
        clear H
        obtain ⟨I12, L13, rfl, rfl, H⟩ := hq9
        show wp X B9_numbered 44 [(3, .int (I h 6)), (0, .ref h), (1, .int x1), (2, .int x2)] [] (G, I12, L13) 0 0 _
        refine wp_aload_n (z := 0) (i := 0) (r := (some h)) 1 (by decide +kernel) rfl rfl ?_
        refine wp_callV (idx := 129) (B2 := B9_advance) (As := []) (a := h) (st := []) (by decide +kernel) m9_advance ml9_129 k9_advance e9_advance ck9 ok.1 (⟨Nat.le_of_ble_eq_true rfl, Nat.le_of_ble_eq_true rfl⟩ : rOK B9_numbered B9_advance) rfl (Nat.le_of_ble_eq_true rfl) (Nat.le_of_ble_eq_true rfl) ⟨Nat.le_of_ble_eq_true rfl, Nat.le_of_ble_eq_true rfl⟩ rfl (wp_mono H (fun v9 M9 hq9 => ?_))
        clear H
        obtain ⟨I15, L16, rfl, rfl, H⟩ := hq9
        show wp X B9_numbered 48 [(3, .int (I h 6)), (0, .ref h), (1, .int x1), (2, .int x2)] [] (G, I15, L16) 0 0 _
        refine wp_iload_n (z := 3) (i := 3) (x := (I h 6)) 0 (by decide +kernel) rfl rfl ?_
        refine wp_iload_n (z := 1) (i := 1) (x := x1) 2 (by decide +kernel) rfl rfl ?_
        refine wp_iload_n (z := 2) (i := 2) (x := x2) 3 (by decide +kernel) rfl rfl ?_
        refine wp_callS (idx := 121) (B2 := B9_isIn) (As := [.int (I h 6), .int x1, .int x2]) (st := []) (by decide +kernel) m9_isIn ml9_121 k9_isIn (⟨Nat.le_of_ble_eq_true rfl, Nat.le_of_ble_eq_true rfl⟩ : rOK B9_numbered B9_isIn) rfl (Nat.le_of_ble_eq_true rfl) (Nat.le_of_ble_eq_true rfl) ⟨Nat.le_of_ble_eq_true rfl, Nat.le_of_ble_eq_true rfl⟩ rfl (wp_mono (b9_isIn (Q := (fun r I' L' => r = (v9_isIn (I h 6) x1 x2) ∧ I15 = I' ∧ L16 = L'))  ⟨rfl, rfl, rfl⟩) (fun v9 M9 hq9 => ?_))
        obtain ⟨_, _, _, rfl, rfl, rfl, rfl, rfl⟩ := hq9
        show wp X B9_numbered 54 [(3, .int (I h 6)), (0, .ref h), (1, .int x1), (2, .int x2)] [.int (v9_isIn (I h 6) x1 x2)] (G, I15, L16) 0 0 _
        refine wp_if_eq (off := 7) (tgt := 61) (by decide +kernel) (by decide) (fun c18 => ?_) (fun c18 => ?_)
        · rw [if_pos c18] at H
          refine wp_iload_n (z := 1) (i := 1) (x := x1) 2 (by decide +kernel) rfl rfl ?_
          exact wp_iret (by decide +kernel) rfl (Nat.zero_le _) (Nat.zero_le _) ⟨_, _, _, rfl, rfl, H⟩
        · rw [if_neg c18] at H
          refine wp_iload_n (z := 3) (i := 3) (x := (I h 6)) 0 (by decide +kernel) rfl rfl ?_
          refine wp_goto (off := 4) (tgt := 62) (by decide +kernel) (by decide) ?_
          exact wp_iret (by decide +kernel) rfl (Nat.zero_le _) (Nat.zero_le _) ⟨_, _, _, rfl, rfl, H⟩
    · rw [if_neg c5] at H
      refine wp_aload_n (z := 0) (i := 0) (r := (some h)) 0 (by decide +kernel) rfl rfl ?_
      refine wp_callV (idx := 118) (B2 := B9_ends) (As := []) (a := h) (st := []) (by decide +kernel) m9_ends ml9_118 k9_ends e9_ends ck9 ok.1 (⟨Nat.le_of_ble_eq_true rfl, Nat.le_of_ble_eq_true rfl⟩ : rOK B9_numbered B9_ends) rfl (Nat.le_of_ble_eq_true rfl) (Nat.le_of_ble_eq_true rfl) ⟨Nat.le_of_ble_eq_true rfl, Nat.le_of_ble_eq_true rfl⟩ rfl (wp_mono H (fun v9 M9 hq9 => ?_))
      clear H
      obtain ⟨I21, L22, rfl, rfl, H⟩ := hq9
      show wp X B9_numbered 19 [(0, .ref h), (1, .int x1), (2, .int x2)] [] (G, I21, L22) 0 0 _
      refine wp_iload_n (z := 1) (i := 1) (x := x1) 1 (by decide +kernel) rfl rfl ?_
      exact wp_iret (by decide +kernel) rfl (Nat.zero_le _) (Nat.zero_le _) ⟨_, _, _, rfl, rfl, H⟩
/-! DeafWallModel.wordIn(II)I -/
set_option maxRecDepth 20000 in
theorem b9_wordIn {X : XX} {G : GG} {I : Nat → Nat → Int32} {L : Nat → Nat → Int64} {h : Nat} {x1 : Int32} {x2 : Int32} {Q : Int32 → (Nat → Nat → Int32) → (Nat → Nat → Int64) → Prop} (ok : OK9 G h) (H : if (I h 8) = (0 : Int32) then (if (I h 5) = 3 then (if (v9_isIn (I h 7) x1 x2) = (0 : Int32) then (wpV X B9_ends 0 [(0, .ref h)] [] G I L (fun I13 L14 => Q 0 I13 L14)) else (wpV X B9_advance 0 [(0, .ref h)] [] G I L (fun I10 L11 => Q (I h 7) I10 L11))) else (wpV X B9_ends 0 [(0, .ref h)] [] G I L (fun I6 L7 => Q 0 I6 L7))) else (wpV X B9_ends 0 [(0, .ref h)] [] G I L (fun I2 L3 => Q 0 I2 L3))) : wpI X B9_wordIn 0 [(0, .ref h), (1, .int x1), (2, .int x2)] [] G I L Q := by
  refine wp_aload_n (z := 0) (i := 0) (r := (some h)) 0 (by decide +kernel) rfl rfl ?_
  refine wp_getI (idx := 114) (by decide +kernel) fl9_114 rfl ok.1 ?_
  refine wp_if_ne (off := 23) (tgt := 27) (by decide +kernel) (by decide) (fun c1 => ?_) (fun c1 => ?_)
  · rw [if_neg c1] at H
    refine wp_aload_n (z := 0) (i := 0) (r := (some h)) 0 (by decide +kernel) rfl rfl ?_
    refine wp_callV (idx := 118) (B2 := B9_ends) (As := []) (a := h) (st := []) (by decide +kernel) m9_ends ml9_118 k9_ends e9_ends ck9 ok.1 (⟨Nat.le_of_ble_eq_true rfl, Nat.le_of_ble_eq_true rfl⟩ : rOK B9_wordIn B9_ends) rfl (Nat.le_of_ble_eq_true rfl) (Nat.le_of_ble_eq_true rfl) ⟨Nat.le_of_ble_eq_true rfl, Nat.le_of_ble_eq_true rfl⟩ rfl (wp_mono H (fun v9 M9 hq9 => ?_))
    clear H
    obtain ⟨I2, L3, rfl, rfl, H⟩ := hq9
    show wp X B9_wordIn 31 [(0, .ref h), (1, .int x1), (2, .int x2)] [] (G, I2, L3) 0 0 _
    refine wp_iconst (z := 0) (v := 0) (by decide +kernel) (by decide) ?_
    exact wp_iret (by decide +kernel) rfl (Nat.zero_le _) (Nat.zero_le _) ⟨_, _, _, rfl, rfl, H⟩
  · rw [if_pos c1] at H
    refine wp_aload_n (z := 0) (i := 0) (r := (some h)) 0 (by decide +kernel) rfl rfl ?_
    refine wp_getI (idx := 90) (by decide +kernel) fl9_90 rfl ok.1 ?_
    refine wp_iconst (z := 3) (v := 3) (by decide +kernel) (by decide) ?_
    refine wp_icmp_ne (off := 15) (tgt := 27) (by decide +kernel) (by decide) (fun c5 => ?_) (fun c5 => ?_)
    · rw [if_neg c5] at H
      refine wp_aload_n (z := 0) (i := 0) (r := (some h)) 0 (by decide +kernel) rfl rfl ?_
      refine wp_callV (idx := 118) (B2 := B9_ends) (As := []) (a := h) (st := []) (by decide +kernel) m9_ends ml9_118 k9_ends e9_ends ck9 ok.1 (⟨Nat.le_of_ble_eq_true rfl, Nat.le_of_ble_eq_true rfl⟩ : rOK B9_wordIn B9_ends) rfl (Nat.le_of_ble_eq_true rfl) (Nat.le_of_ble_eq_true rfl) ⟨Nat.le_of_ble_eq_true rfl, Nat.le_of_ble_eq_true rfl⟩ rfl (wp_mono H (fun v9 M9 hq9 => ?_))
      clear H
      obtain ⟨I6, L7, rfl, rfl, H⟩ := hq9
      show wp X B9_wordIn 31 [(0, .ref h), (1, .int x1), (2, .int x2)] [] (G, I6, L7) 0 0 _
      refine wp_iconst (z := 0) (v := 0) (by decide +kernel) (by decide) ?_
      exact wp_iret (by decide +kernel) rfl (Nat.zero_le _) (Nat.zero_le _) ⟨_, _, _, rfl, rfl, H⟩
    · rw [if_pos c5] at H
      refine wp_aload_n (z := 0) (i := 0) (r := (some h)) 0 (by decide +kernel) rfl rfl ?_
      refine wp_getI (idx := 105) (by decide +kernel) fl9_105 rfl ok.1 ?_
      refine wp_iload_n (z := 1) (i := 1) (x := x1) 1 (by decide +kernel) rfl rfl ?_
      refine wp_iload_n (z := 2) (i := 2) (x := x2) 2 (by decide +kernel) rfl rfl ?_
      refine wp_callS (idx := 121) (B2 := B9_isIn) (As := [.int (I h 7), .int x1, .int x2]) (st := []) (by decide +kernel) m9_isIn ml9_121 k9_isIn (⟨Nat.le_of_ble_eq_true rfl, Nat.le_of_ble_eq_true rfl⟩ : rOK B9_wordIn B9_isIn) rfl (Nat.le_of_ble_eq_true rfl) (Nat.le_of_ble_eq_true rfl) ⟨Nat.le_of_ble_eq_true rfl, Nat.le_of_ble_eq_true rfl⟩ rfl (wp_mono (b9_isIn (Q := (fun r I' L' => r = (v9_isIn (I h 7) x1 x2) ∧ I = I' ∧ L = L'))  ⟨rfl, rfl, rfl⟩) (fun v9 M9 hq9 => ?_))
      obtain ⟨_, _, _, rfl, rfl, rfl, rfl, rfl⟩ := hq9
      show wp X B9_wordIn 24 [(0, .ref h), (1, .int x1), (2, .int x2)] [.int (v9_isIn (I h 7) x1 x2)] (G, I, L) 0 0 _
      refine wp_if_ne (off := 9) (tgt := 33) (by decide +kernel) (by decide) (fun c9 => ?_) (fun c9 => ?_)
      · rw [if_neg c9] at H
        refine wp_aload_n (z := 0) (i := 0) (r := (some h)) 0 (by decide +kernel) rfl rfl ?_
        refine wp_getI (idx := 105) (by decide +kernel) fl9_105 rfl ok.1 ?_
        refine wp_istore_n (z := 3) (i := 3) (lv' := [(3, .int (I h 7)), (0, .ref h), (1, .int x1), (2, .int x2)]) (by decide +kernel) rfl (by decide) rfl ?_
        refine wp_aload_n (z := 0) (i := 0) (r := (some h)) 1 (by decide +kernel) rfl rfl ?_
        refine wp_callV (idx := 129) (B2 := B9_advance) (As := []) (a := h) (st := []) (by decide +kernel) m9_advance ml9_129 k9_advance e9_advance ck9 ok.1 (⟨Nat.le_of_ble_eq_true rfl, Nat.le_of_ble_eq_true rfl⟩ : rOK B9_wordIn B9_advance) rfl (Nat.le_of_ble_eq_true rfl) (Nat.le_of_ble_eq_true rfl) ⟨Nat.le_of_ble_eq_true rfl, Nat.le_of_ble_eq_true rfl⟩ rfl (wp_mono H (fun v9 M9 hq9 => ?_))
        clear H
        obtain ⟨I10, L11, rfl, rfl, H⟩ := hq9
        show wp X B9_wordIn 42 [(3, .int (I h 7)), (0, .ref h), (1, .int x1), (2, .int x2)] [] (G, I10, L11) 0 0 _
        refine wp_iload_n (z := 3) (i := 3) (x := (I h 7)) 0 (by decide +kernel) rfl rfl ?_
        exact wp_iret (by decide +kernel) rfl (Nat.zero_le _) (Nat.zero_le _) ⟨_, _, _, rfl, rfl, H⟩
      · rw [if_pos c9] at H
        refine wp_aload_n (z := 0) (i := 0) (r := (some h)) 0 (by decide +kernel) rfl rfl ?_
        refine wp_callV (idx := 118) (B2 := B9_ends) (As := []) (a := h) (st := []) (by decide +kernel) m9_ends ml9_118 k9_ends e9_ends ck9 ok.1 (⟨Nat.le_of_ble_eq_true rfl, Nat.le_of_ble_eq_true rfl⟩ : rOK B9_wordIn B9_ends) rfl (Nat.le_of_ble_eq_true rfl) (Nat.le_of_ble_eq_true rfl) ⟨Nat.le_of_ble_eq_true rfl, Nat.le_of_ble_eq_true rfl⟩ rfl (wp_mono H (fun v9 M9 hq9 => ?_))
        clear H
        obtain ⟨I13, L14, rfl, rfl, H⟩ := hq9
        show wp X B9_wordIn 31 [(0, .ref h), (1, .int x1), (2, .int x2)] [] (G, I13, L14) 0 0 _
        refine wp_iconst (z := 0) (v := 0) (by decide +kernel) (by decide) ?_
        exact wp_iret (by decide +kernel) rfl (Nat.zero_le _) (Nat.zero_le _) ⟨_, _, _, rfl, rfl, H⟩
/-! DeafWallModel.endsLine()V -/
set_option maxRecDepth 20000 in
theorem b9_endsLine {X : XX} {G : GG} {I : Nat → Nat → Int32} {L : Nat → Nat → Int64} {h : Nat} {Q : (Nat → Nat → Int32) → (Nat → Nat → Int64) → Prop} (ok : OK9 G h) (H : if (I h 8) = (0 : Int32) then (if (I h 5) = 2 then (wpV X B9_advance 0 [(0, .ref h)] [] G I L (fun I9 L10 => Q I9 L10)) else (wpV X B9_ends 0 [(0, .ref h)] [] G I L (fun I6 L7 => Q I6 L7))) else (wpV X B9_ends 0 [(0, .ref h)] [] G I L (fun I2 L3 => Q I2 L3))) : wpV X B9_endsLine 0 [(0, .ref h)] [] G I L Q := by
  refine wp_aload_n (z := 0) (i := 0) (r := (some h)) 0 (by decide +kernel) rfl rfl ?_
  refine wp_getI (idx := 114) (by decide +kernel) fl9_114 rfl ok.1 ?_
  refine wp_if_ne (off := 18) (tgt := 22) (by decide +kernel) (by decide) (fun c1 => ?_) (fun c1 => ?_)
  · rw [if_neg c1] at H
    refine wp_aload_n (z := 0) (i := 0) (r := (some h)) 0 (by decide +kernel) rfl rfl ?_
    refine wp_callV (idx := 118) (B2 := B9_ends) (As := []) (a := h) (st := []) (by decide +kernel) m9_ends ml9_118 k9_ends e9_ends ck9 ok.1 (⟨Nat.le_of_ble_eq_true rfl, Nat.le_of_ble_eq_true rfl⟩ : rOK B9_endsLine B9_ends) rfl (Nat.le_of_ble_eq_true rfl) (Nat.le_of_ble_eq_true rfl) ⟨Nat.le_of_ble_eq_true rfl, Nat.le_of_ble_eq_true rfl⟩ rfl (wp_mono H (fun v9 M9 hq9 => ?_))
    clear H
    obtain ⟨I2, L3, rfl, rfl, H⟩ := hq9
    show wp X B9_endsLine 26 [(0, .ref h)] [] (G, I2, L3) 0 0 _
    exact wp_vret (by decide +kernel) rfl (Nat.zero_le _) (Nat.zero_le _) ⟨_, _, rfl, rfl, H⟩
  · rw [if_pos c1] at H
    refine wp_aload_n (z := 0) (i := 0) (r := (some h)) 0 (by decide +kernel) rfl rfl ?_
    refine wp_getI (idx := 90) (by decide +kernel) fl9_90 rfl ok.1 ?_
    refine wp_iconst (z := 2) (v := 2) (by decide +kernel) (by decide) ?_
    refine wp_icmp_ne (off := 10) (tgt := 22) (by decide +kernel) (by decide) (fun c5 => ?_) (fun c5 => ?_)
    · rw [if_neg c5] at H
      refine wp_aload_n (z := 0) (i := 0) (r := (some h)) 0 (by decide +kernel) rfl rfl ?_
      refine wp_callV (idx := 118) (B2 := B9_ends) (As := []) (a := h) (st := []) (by decide +kernel) m9_ends ml9_118 k9_ends e9_ends ck9 ok.1 (⟨Nat.le_of_ble_eq_true rfl, Nat.le_of_ble_eq_true rfl⟩ : rOK B9_endsLine B9_ends) rfl (Nat.le_of_ble_eq_true rfl) (Nat.le_of_ble_eq_true rfl) ⟨Nat.le_of_ble_eq_true rfl, Nat.le_of_ble_eq_true rfl⟩ rfl (wp_mono H (fun v9 M9 hq9 => ?_))
      clear H
      obtain ⟨I6, L7, rfl, rfl, H⟩ := hq9
      show wp X B9_endsLine 26 [(0, .ref h)] [] (G, I6, L7) 0 0 _
      exact wp_vret (by decide +kernel) rfl (Nat.zero_le _) (Nat.zero_le _) ⟨_, _, rfl, rfl, H⟩
    · rw [if_pos c5] at H
      refine wp_aload_n (z := 0) (i := 0) (r := (some h)) 0 (by decide +kernel) rfl rfl ?_
      refine wp_callV (idx := 129) (B2 := B9_advance) (As := []) (a := h) (st := []) (by decide +kernel) m9_advance ml9_129 k9_advance e9_advance ck9 ok.1 (⟨Nat.le_of_ble_eq_true rfl, Nat.le_of_ble_eq_true rfl⟩ : rOK B9_endsLine B9_advance) rfl (Nat.le_of_ble_eq_true rfl) (Nat.le_of_ble_eq_true rfl) ⟨Nat.le_of_ble_eq_true rfl, Nat.le_of_ble_eq_true rfl⟩ rfl (wp_mono H (fun v9 M9 hq9 => ?_))
      clear H
      obtain ⟨I9, L10, rfl, rfl, H⟩ := hq9
      show wp X B9_endsLine 19 [(0, .ref h)] [] (G, I9, L10) 0 0 _
      refine wp_goto (off := 7) (tgt := 26) (by decide +kernel) (by decide) ?_
      exact wp_vret (by decide +kernel) rfl (Nat.zero_le _) (Nat.zero_le _) ⟨_, _, rfl, rfl, H⟩
/-! DeafWallModel.cellTold()I -/
set_option maxRecDepth 20000 in
theorem b9_cellTold {X : XX} {G : GG} {I : Nat → Nat → Int32} {L : Nat → Nat → Int64} {h : Nat} {Q : Int32 → (Nat → Nat → Int32) → (Nat → Nat → Int64) → Prop} (ok : OK9 G h) (H : wpI X B9_numbered 0 [(0, .ref h), (1, .int 0), (2, .int 31)] [] G I L (fun r3 I1 L2 => if r3 ≤ (I1 h 9) then (∀ I5, I5 = up2 I1 h 9 (I1 h 9) → Q r3 I5 L2) else (∀ I6, I6 = up2 I1 h 9 r3 → Q r3 I6 L2))) : wpI X B9_cellTold 0 [(0, .ref h)] [] G I L Q := by
  refine wp_aload_n (z := 0) (i := 0) (r := (some h)) 0 (by decide +kernel) rfl rfl ?_
  refine wp_iconst (z := 0) (v := 0) (by decide +kernel) (by decide) ?_
  refine wp_bipush (z := 31) (v := 31) (by decide +kernel) (by decide) ?_
  refine wp_callV (idx := 132) (B2 := B9_numbered) (As := [.int 0, .int 31]) (a := h) (st := []) (by decide +kernel) m9_numbered ml9_132 k9_numbered e9_numbered ck9 ok.1 (⟨Nat.le_of_ble_eq_true rfl, Nat.le_of_ble_eq_true rfl⟩ : rOK B9_cellTold B9_numbered) rfl (Nat.le_of_ble_eq_true rfl) (Nat.le_of_ble_eq_true rfl) ⟨Nat.le_of_ble_eq_true rfl, Nat.le_of_ble_eq_true rfl⟩ rfl (wp_mono H (fun v9 M9 hq9 => ?_))
  clear H
  obtain ⟨r3, I1, L2, rfl, rfl, H⟩ := hq9
  show wp X B9_cellTold 7 [(0, .ref h)] [.int r3] (G, I1, L2) 0 0 _
  refine wp_istore_n (z := 1) (i := 1) (lv' := [(1, .int r3), (0, .ref h)]) (by decide +kernel) rfl (by decide) rfl ?_
  refine wp_aload_n (z := 0) (i := 0) (r := (some h)) 1 (by decide +kernel) rfl rfl ?_
  refine wp_iload_n (z := 1) (i := 1) (x := r3) 0 (by decide +kernel) rfl rfl ?_
  refine wp_aload_n (z := 0) (i := 0) (r := (some h)) 1 (by decide +kernel) rfl rfl ?_
  refine wp_getI (idx := 136) (by decide +kernel) fl9_136 rfl ok.1 ?_
  refine wp_icmp_le (off := 7) (tgt := 21) (by decide +kernel) (by decide) (fun c4 => ?_) (fun c4 => ?_)
  · rw [if_pos c4] at H
    refine wp_aload_n (z := 0) (i := 0) (r := (some h)) 1 (by decide +kernel) rfl rfl ?_
    refine wp_getI (idx := 136) (by decide +kernel) fl9_136 rfl ok.1 ?_
    refine wp_putI (idx := 136) (by decide +kernel) fl9_136 rfl ok.1 ?_
    refine wp_memI (fun I5 eI5 => ?_)
    replace H := H I5 eI5
    refine wp_iload_n (z := 1) (i := 1) (x := r3) 0 (by decide +kernel) rfl rfl ?_
    exact wp_iret (by decide +kernel) rfl (Nat.zero_le _) (Nat.zero_le _) ⟨_, _, _, rfl, rfl, H⟩
  · rw [if_neg c4] at H
    refine wp_iload_n (z := 1) (i := 1) (x := r3) 0 (by decide +kernel) rfl rfl ?_
    refine wp_goto (off := 7) (tgt := 25) (by decide +kernel) (by decide) ?_
    refine wp_putI (idx := 136) (by decide +kernel) fl9_136 rfl ok.1 ?_
    refine wp_memI (fun I6 eI6 => ?_)
    replace H := H I6 eI6
    refine wp_iload_n (z := 1) (i := 1) (x := r3) 0 (by decide +kernel) rfl rfl ?_
    exact wp_iret (by decide +kernel) rfl (Nat.zero_le _) (Nat.zero_le _) ⟨_, _, _, rfl, rfl, H⟩
/-! DeafWallModel.feelerTold(I)V -/
set_option maxRecDepth 20000 in
theorem b9_feelerTold {X : XX} {G : GG} {I : Nat → Nat → Int32} {L : Nat → Nat → Int64} {h : Nat} {x1 : Int32} {Q : (Nat → Nat → Int32) → (Nat → Nat → Int64) → Prop} (ok : OK9 G h) (H : if (I (h + 3) 3) < 6 then (wpI X B9_cellTold 0 [(0, .ref h)] [] G I L (fun r4 I2 L3 => wpI X B9_numbered 0 [(0, .ref h), (1, .int 1), (2, .int 9)] [] G I2 L3 (fun r7 I5 L6 => if (I5 (h + 3) 3) < 6 then (vp_in (5 + (2 * (I5 (h + 3) 3))) 121 ∧ (∀ I9, I9 = up2 I5 (h + 3) (cl (5 + (2 * (I5 (h + 3) 3)))) r4 → vp_in (6 + (2 * (I9 (h + 3) 3))) 121 ∧ (∀ I10, I10 = up2 I9 (h + 3) (cl (6 + (2 * (I9 (h + 3) 3)))) r7 → ∀ I11, I11 = up2 I10 (h + 3) 3 ((I10 (h + 3) 3) + 1) → Q I11 L6))) else (Q I5 L6)))) else (wpV X B9_also 0 [(0, .ref h), (1, .int 3), (2, .int x1)] [] G I L (fun I14 L15 => wpI X B9_cellTold 0 [(0, .ref h)] [] G I14 L15 (fun r19 I17 L18 => wpI X B9_numbered 0 [(0, .ref h), (1, .int 1), (2, .int 9)] [] G I17 L18 (fun r22 I20 L21 => if (I20 (h + 3) 3) < 6 then (vp_in (5 + (2 * (I20 (h + 3) 3))) 121 ∧ (∀ I24, I24 = up2 I20 (h + 3) (cl (5 + (2 * (I20 (h + 3) 3)))) r19 → vp_in (6 + (2 * (I24 (h + 3) 3))) 121 ∧ (∀ I25, I25 = up2 I24 (h + 3) (cl (6 + (2 * (I24 (h + 3) 3)))) r22 → ∀ I26, I26 = up2 I25 (h + 3) 3 ((I25 (h + 3) 3) + 1) → Q I26 L21))) else (Q I20 L21)))))) : wpV X B9_feelerTold 0 [(0, .ref h), (1, .int x1)] [] G I L Q := by
  refine wp_aload_n (z := 0) (i := 0) (r := (some h)) 0 (by decide +kernel) rfl rfl ?_
  refine wp_getS (idx := 17) (q := (h + 3)) (by decide +kernel) fl9_17 rfl ok.1 (okr9_10 ok) ?_
  refine wp_iconst (z := 3) (v := 3) (by decide +kernel) (by decide) ?_
  refine wp_iald (j := 3) (by decide +kernel) (oks9_10 ok) (vin_c (by decide)) (by decide) ?_
  refine wp_bipush (z := 6) (v := 6) (by decide +kernel) (by decide) ?_
  refine wp_icmp_lt (off := 9) (tgt := 17) (by decide +kernel) (by decide) (fun c1 => ?_) (fun c1 => ?_)
  · rw [if_pos c1] at H
    refine wp_aload_n (z := 0) (i := 0) (r := (some h)) 0 (by decide +kernel) rfl rfl ?_
    refine wp_callV (idx := 139) (B2 := B9_cellTold) (As := []) (a := h) (st := []) (by decide +kernel) m9_cellTold ml9_139 k9_cellTold e9_cellTold ck9 ok.1 (⟨Nat.le_of_ble_eq_true rfl, Nat.le_of_ble_eq_true rfl⟩ : rOK B9_feelerTold B9_cellTold) rfl (Nat.le_of_ble_eq_true rfl) (Nat.le_of_ble_eq_true rfl) ⟨Nat.le_of_ble_eq_true rfl, Nat.le_of_ble_eq_true rfl⟩ rfl (wp_mono H (fun v9 M9 hq9 => ?_))
    clear H
    obtain ⟨r4, I2, L3, rfl, rfl, H⟩ := hq9
    show wp X B9_feelerTold 21 [(0, .ref h), (1, .int x1)] [.int r4] (G, I2, L3) 0 0 _
    refine wp_istore_n (z := 2) (i := 2) (lv' := [(2, .int r4), (0, .ref h), (1, .int x1)]) (by decide +kernel) rfl (by decide) rfl ?_
    refine wp_aload_n (z := 0) (i := 0) (r := (some h)) 1 (by decide +kernel) rfl rfl ?_
    refine wp_iconst (z := 1) (v := 1) (by decide +kernel) (by decide) ?_
    refine wp_bipush (z := 9) (v := 9) (by decide +kernel) (by decide) ?_
    refine wp_callV (idx := 132) (B2 := B9_numbered) (As := [.int 1, .int 9]) (a := h) (st := []) (by decide +kernel) m9_numbered ml9_132 k9_numbered e9_numbered ck9 ok.1 (⟨Nat.le_of_ble_eq_true rfl, Nat.le_of_ble_eq_true rfl⟩ : rOK B9_feelerTold B9_numbered) rfl (Nat.le_of_ble_eq_true rfl) (Nat.le_of_ble_eq_true rfl) ⟨Nat.le_of_ble_eq_true rfl, Nat.le_of_ble_eq_true rfl⟩ rfl (wp_mono H (fun v9 M9 hq9 => ?_))
    clear H
    obtain ⟨r7, I5, L6, rfl, rfl, H⟩ := hq9
    show wp X B9_feelerTold 29 [(2, .int r4), (0, .ref h), (1, .int x1)] [.int r7] (G, I5, L6) 0 0 _
    refine wp_istore_n (z := 3) (i := 3) (lv' := [(3, .int r7), (2, .int r4), (0, .ref h), (1, .int x1)]) (by decide +kernel) rfl (by decide) rfl ?_
    refine wp_aload_n (z := 0) (i := 0) (r := (some h)) 2 (by decide +kernel) rfl rfl ?_
    refine wp_getS (idx := 17) (q := (h + 3)) (by decide +kernel) fl9_17 rfl ok.1 (okr9_10 ok) ?_
    refine wp_iconst (z := 3) (v := 3) (by decide +kernel) (by decide) ?_
    refine wp_iald (j := 3) (by decide +kernel) (oks9_10 ok) (vin_c (by decide)) (by decide) ?_
    refine wp_bipush (z := 6) (v := 6) (by decide +kernel) (by decide) ?_
    refine wp_icmp_lt (off := 4) (tgt := 42) (by decide +kernel) (by decide) (fun c8 => ?_) (fun c8 => ?_)
    · rw [if_pos c8] at H
      refine wp_aload_n (z := 0) (i := 0) (r := (some h)) 2 (by decide +kernel) rfl rfl ?_
      refine wp_getS (idx := 17) (q := (h + 3)) (by decide +kernel) fl9_17 rfl ok.1 (okr9_10 ok) ?_
      refine wp_iconst (z := 5) (v := 5) (by decide +kernel) (by decide) ?_
      refine wp_iconst (z := 2) (v := 2) (by decide +kernel) (by decide) ?_
      refine wp_aload_n (z := 0) (i := 0) (r := (some h)) 2 (by decide +kernel) rfl rfl ?_
      refine wp_getS (idx := 17) (q := (h + 3)) (by decide +kernel) fl9_17 rfl ok.1 (okr9_10 ok) ?_
      refine wp_iconst (z := 3) (v := 3) (by decide +kernel) (by decide) ?_
      refine wp_iald (j := 3) (by decide +kernel) (oks9_10 ok) (vin_c (by decide)) (by decide) ?_
      refine wp_imul (by decide +kernel) ?_
      refine wp_iadd (by decide +kernel) ?_
      refine wp_iload_n (z := 2) (i := 2) (x := r4) 1 (by decide +kernel) rfl rfl ?_
      obtain ⟨o13, H⟩ := H
      refine wp_iast (j := (cl (5 + (2 * (I5 (h + 3) 3))))) (by decide +kernel) (oks9_10 ok) o13 rfl ?_
      refine wp_memI (fun I9 eI9 => ?_)
      replace H := H I9 eI9
      refine wp_aload_n (z := 0) (i := 0) (r := (some h)) 2 (by decide +kernel) rfl rfl ?_
      refine wp_getS (idx := 17) (q := (h + 3)) (by decide +kernel) fl9_17 rfl ok.1 (okr9_10 ok) ?_
      refine wp_bipush (z := 6) (v := 6) (by decide +kernel) (by decide) ?_
      refine wp_iconst (z := 2) (v := 2) (by decide +kernel) (by decide) ?_
      refine wp_aload_n (z := 0) (i := 0) (r := (some h)) 2 (by decide +kernel) rfl rfl ?_
      refine wp_getS (idx := 17) (q := (h + 3)) (by decide +kernel) fl9_17 rfl ok.1 (okr9_10 ok) ?_
      refine wp_iconst (z := 3) (v := 3) (by decide +kernel) (by decide) ?_
      refine wp_iald (j := 3) (by decide +kernel) (oks9_10 ok) (vin_c (by decide)) (by decide) ?_
      refine wp_imul (by decide +kernel) ?_
      refine wp_iadd (by decide +kernel) ?_
      refine wp_iload_n (z := 3) (i := 3) (x := r7) 0 (by decide +kernel) rfl rfl ?_
      obtain ⟨o12, H⟩ := H
      refine wp_iast (j := (cl (6 + (2 * (I9 (h + 3) 3))))) (by decide +kernel) (oks9_10 ok) o12 rfl ?_
      refine wp_memI (fun I10 eI10 => ?_)
      replace H := H I10 eI10
      refine wp_aload_n (z := 0) (i := 0) (r := (some h)) 2 (by decide +kernel) rfl rfl ?_
      refine wp_getS (idx := 17) (q := (h + 3)) (by decide +kernel) fl9_17 rfl ok.1 (okr9_10 ok) ?_
      refine wp_iconst (z := 3) (v := 3) (by decide +kernel) (by decide) ?_
      refine wp_dup2 (by decide +kernel) rfl rfl ?_
      refine wp_iald (j := 3) (by decide +kernel) (oks9_10 ok) (vin_c (by decide)) (by decide) ?_
      refine wp_iconst (z := 1) (v := 1) (by decide +kernel) (by decide) ?_
      refine wp_iadd (by decide +kernel) ?_
      refine wp_iast (j := 3) (by decide +kernel) (oks9_10 ok) (vin_c (by decide)) (by decide) ?_
      refine wp_memI (fun I11 eI11 => ?_)
      replace H := H I11 eI11
      exact wp_vret (by decide +kernel) rfl (Nat.zero_le _) (Nat.zero_le _) ⟨_, _, rfl, rfl, H⟩
    · rw [if_neg c8] at H
      exact wp_vret (by decide +kernel) rfl (Nat.zero_le _) (Nat.zero_le _) ⟨_, _, rfl, rfl, H⟩
  · rw [if_neg c1] at H
    refine wp_aload_n (z := 0) (i := 0) (r := (some h)) 0 (by decide +kernel) rfl rfl ?_
    refine wp_iconst (z := 3) (v := 3) (by decide +kernel) (by decide) ?_
    refine wp_iload_n (z := 1) (i := 1) (x := x1) 1 (by decide +kernel) rfl rfl ?_
    refine wp_callV (idx := 125) (B2 := B9_also) (As := [.int 3, .int x1]) (a := h) (st := []) (by decide +kernel) m9_also ml9_125 k9_also e9_also ck9 ok.1 (⟨Nat.le_of_ble_eq_true rfl, Nat.le_of_ble_eq_true rfl⟩ : rOK B9_feelerTold B9_also) rfl (Nat.le_of_ble_eq_true rfl) (Nat.le_of_ble_eq_true rfl) ⟨Nat.le_of_ble_eq_true rfl, Nat.le_of_ble_eq_true rfl⟩ rfl (wp_mono H (fun v9 M9 hq9 => ?_))
    clear H
    obtain ⟨I14, L15, rfl, rfl, H⟩ := hq9
    show wp X B9_feelerTold 17 [(0, .ref h), (1, .int x1)] [] (G, I14, L15) 0 0 _
    refine wp_aload_n (z := 0) (i := 0) (r := (some h)) 0 (by decide +kernel) rfl rfl ?_
    refine wp_callV (idx := 139) (B2 := B9_cellTold) (As := []) (a := h) (st := []) (by decide +kernel) m9_cellTold ml9_139 k9_cellTold e9_cellTold ck9 ok.1 (⟨Nat.le_of_ble_eq_true rfl, Nat.le_of_ble_eq_true rfl⟩ : rOK B9_feelerTold B9_cellTold) rfl (Nat.le_of_ble_eq_true rfl) (Nat.le_of_ble_eq_true rfl) ⟨Nat.le_of_ble_eq_true rfl, Nat.le_of_ble_eq_true rfl⟩ rfl (wp_mono H (fun v9 M9 hq9 => ?_))
    clear H
    obtain ⟨r19, I17, L18, rfl, rfl, H⟩ := hq9
    show wp X B9_feelerTold 21 [(0, .ref h), (1, .int x1)] [.int r19] (G, I17, L18) 0 0 _
    refine wp_istore_n (z := 2) (i := 2) (lv' := [(2, .int r19), (0, .ref h), (1, .int x1)]) (by decide +kernel) rfl (by decide) rfl ?_
    refine wp_aload_n (z := 0) (i := 0) (r := (some h)) 1 (by decide +kernel) rfl rfl ?_
    refine wp_iconst (z := 1) (v := 1) (by decide +kernel) (by decide) ?_
    refine wp_bipush (z := 9) (v := 9) (by decide +kernel) (by decide) ?_
    refine wp_callV (idx := 132) (B2 := B9_numbered) (As := [.int 1, .int 9]) (a := h) (st := []) (by decide +kernel) m9_numbered ml9_132 k9_numbered e9_numbered ck9 ok.1 (⟨Nat.le_of_ble_eq_true rfl, Nat.le_of_ble_eq_true rfl⟩ : rOK B9_feelerTold B9_numbered) rfl (Nat.le_of_ble_eq_true rfl) (Nat.le_of_ble_eq_true rfl) ⟨Nat.le_of_ble_eq_true rfl, Nat.le_of_ble_eq_true rfl⟩ rfl (wp_mono H (fun v9 M9 hq9 => ?_))
    clear H
    obtain ⟨r22, I20, L21, rfl, rfl, H⟩ := hq9
    show wp X B9_feelerTold 29 [(2, .int r19), (0, .ref h), (1, .int x1)] [.int r22] (G, I20, L21) 0 0 _
    refine wp_istore_n (z := 3) (i := 3) (lv' := [(3, .int r22), (2, .int r19), (0, .ref h), (1, .int x1)]) (by decide +kernel) rfl (by decide) rfl ?_
    refine wp_aload_n (z := 0) (i := 0) (r := (some h)) 2 (by decide +kernel) rfl rfl ?_
    refine wp_getS (idx := 17) (q := (h + 3)) (by decide +kernel) fl9_17 rfl ok.1 (okr9_10 ok) ?_
    refine wp_iconst (z := 3) (v := 3) (by decide +kernel) (by decide) ?_
    refine wp_iald (j := 3) (by decide +kernel) (oks9_10 ok) (vin_c (by decide)) (by decide) ?_
    refine wp_bipush (z := 6) (v := 6) (by decide +kernel) (by decide) ?_
    refine wp_icmp_lt (off := 4) (tgt := 42) (by decide +kernel) (by decide) (fun c23 => ?_) (fun c23 => ?_)
    · rw [if_pos c23] at H
      refine wp_aload_n (z := 0) (i := 0) (r := (some h)) 2 (by decide +kernel) rfl rfl ?_
      refine wp_getS (idx := 17) (q := (h + 3)) (by decide +kernel) fl9_17 rfl ok.1 (okr9_10 ok) ?_
      refine wp_iconst (z := 5) (v := 5) (by decide +kernel) (by decide) ?_
      refine wp_iconst (z := 2) (v := 2) (by decide +kernel) (by decide) ?_
      refine wp_aload_n (z := 0) (i := 0) (r := (some h)) 2 (by decide +kernel) rfl rfl ?_
      refine wp_getS (idx := 17) (q := (h + 3)) (by decide +kernel) fl9_17 rfl ok.1 (okr9_10 ok) ?_
      refine wp_iconst (z := 3) (v := 3) (by decide +kernel) (by decide) ?_
      refine wp_iald (j := 3) (by decide +kernel) (oks9_10 ok) (vin_c (by decide)) (by decide) ?_
      refine wp_imul (by decide +kernel) ?_
      refine wp_iadd (by decide +kernel) ?_
      refine wp_iload_n (z := 2) (i := 2) (x := r19) 1 (by decide +kernel) rfl rfl ?_
      obtain ⟨o28, H⟩ := H
      refine wp_iast (j := (cl (5 + (2 * (I20 (h + 3) 3))))) (by decide +kernel) (oks9_10 ok) o28 rfl ?_
      refine wp_memI (fun I24 eI24 => ?_)
      replace H := H I24 eI24
      refine wp_aload_n (z := 0) (i := 0) (r := (some h)) 2 (by decide +kernel) rfl rfl ?_
      refine wp_getS (idx := 17) (q := (h + 3)) (by decide +kernel) fl9_17 rfl ok.1 (okr9_10 ok) ?_
      refine wp_bipush (z := 6) (v := 6) (by decide +kernel) (by decide) ?_
      refine wp_iconst (z := 2) (v := 2) (by decide +kernel) (by decide) ?_
      refine wp_aload_n (z := 0) (i := 0) (r := (some h)) 2 (by decide +kernel) rfl rfl ?_
      refine wp_getS (idx := 17) (q := (h + 3)) (by decide +kernel) fl9_17 rfl ok.1 (okr9_10 ok) ?_
      refine wp_iconst (z := 3) (v := 3) (by decide +kernel) (by decide) ?_
      refine wp_iald (j := 3) (by decide +kernel) (oks9_10 ok) (vin_c (by decide)) (by decide) ?_
      refine wp_imul (by decide +kernel) ?_
      refine wp_iadd (by decide +kernel) ?_
      refine wp_iload_n (z := 3) (i := 3) (x := r22) 0 (by decide +kernel) rfl rfl ?_
      obtain ⟨o27, H⟩ := H
      refine wp_iast (j := (cl (6 + (2 * (I24 (h + 3) 3))))) (by decide +kernel) (oks9_10 ok) o27 rfl ?_
      refine wp_memI (fun I25 eI25 => ?_)
      replace H := H I25 eI25
      refine wp_aload_n (z := 0) (i := 0) (r := (some h)) 2 (by decide +kernel) rfl rfl ?_
      refine wp_getS (idx := 17) (q := (h + 3)) (by decide +kernel) fl9_17 rfl ok.1 (okr9_10 ok) ?_
      refine wp_iconst (z := 3) (v := 3) (by decide +kernel) (by decide) ?_
      refine wp_dup2 (by decide +kernel) rfl rfl ?_
      refine wp_iald (j := 3) (by decide +kernel) (oks9_10 ok) (vin_c (by decide)) (by decide) ?_
      refine wp_iconst (z := 1) (v := 1) (by decide +kernel) (by decide) ?_
      refine wp_iadd (by decide +kernel) ?_
      refine wp_iast (j := 3) (by decide +kernel) (oks9_10 ok) (vin_c (by decide)) (by decide) ?_
      refine wp_memI (fun I26 eI26 => ?_)
      replace H := H I26 eI26
      exact wp_vret (by decide +kernel) rfl (Nat.zero_le _) (Nat.zero_le _) ⟨_, _, rfl, rfl, H⟩
    · rw [if_neg c23] at H
      exact wp_vret (by decide +kernel) rfl (Nat.zero_le _) (Nat.zero_le _) ⟨_, _, rfl, rfl, H⟩
/-! DeafWallModel.taleTold(I)V -/
set_option maxRecDepth 20000 in
theorem b9_taleTold {X : XX} {G : GG} {I : Nat → Nat → Int32} {L : Nat → Nat → Int64} {h : Nat} {x1 : Int32} {Q : (Nat → Nat → Int32) → (Nat → Nat → Int64) → Prop} (ok : OK9 G h) (H : if (I (h + 3) 4) < 6 then (wpV X B9_taleTold 21 [(0, .ref h), (2, .int 0), (3, .int 0)] [] G I L Q) else (wpV X B9_also 0 [(0, .ref h), (1, .int 3), (2, .int x1)] [] G I L (fun I2 L3 => wpV X B9_taleTold 21 [(0, .ref h), (2, .int 0), (3, .int 0)] [] G I2 L3 Q))) : wpV X B9_taleTold 0 [(0, .ref h), (1, .int x1)] [] G I L Q := by
  refine wp_aload_n (z := 0) (i := 0) (r := (some h)) 0 (by decide +kernel) rfl rfl ?_
  refine wp_getS (idx := 17) (q := (h + 3)) (by decide +kernel) fl9_17 rfl ok.1 (okr9_10 ok) ?_
  refine wp_iconst (z := 4) (v := 4) (by decide +kernel) (by decide) ?_
  refine wp_iald (j := 4) (by decide +kernel) (oks9_10 ok) (vin_c (by decide)) (by decide) ?_
  refine wp_bipush (z := 6) (v := 6) (by decide +kernel) (by decide) ?_
  refine wp_icmp_lt (off := 9) (tgt := 17) (by decide +kernel) (by decide) (fun c1 => ?_) (fun c1 => ?_)
  · rw [if_pos c1] at H
    refine wp_iconst (z := 0) (v := 0) (by decide +kernel) (by decide) ?_
    refine wp_istore_n (z := 2) (i := 2) (lv' := [(2, .int 0), (0, .ref h), (1, .int x1)]) (by decide +kernel) rfl (by decide) rfl ?_
    refine wp_iconst (z := 0) (v := 0) (by decide +kernel) (by decide) ?_
    refine wp_istore_n (z := 3) (i := 3) (lv' := [(3, .int 0), (2, .int 0), (0, .ref h), (1, .int x1)]) (by decide +kernel) rfl (by decide) rfl ?_
    exact wp_sub [2, 1, 0] rfl H
  · rw [if_neg c1] at H
    refine wp_aload_n (z := 0) (i := 0) (r := (some h)) 0 (by decide +kernel) rfl rfl ?_
    refine wp_iconst (z := 3) (v := 3) (by decide +kernel) (by decide) ?_
    refine wp_iload_n (z := 1) (i := 1) (x := x1) 1 (by decide +kernel) rfl rfl ?_
    refine wp_callV (idx := 125) (B2 := B9_also) (As := [.int 3, .int x1]) (a := h) (st := []) (by decide +kernel) m9_also ml9_125 k9_also e9_also ck9 ok.1 (⟨Nat.le_of_ble_eq_true rfl, Nat.le_of_ble_eq_true rfl⟩ : rOK B9_taleTold B9_also) rfl (Nat.le_of_ble_eq_true rfl) (Nat.le_of_ble_eq_true rfl) ⟨Nat.le_of_ble_eq_true rfl, Nat.le_of_ble_eq_true rfl⟩ rfl (wp_mono H (fun v9 M9 hq9 => ?_))
    clear H
    obtain ⟨I2, L3, rfl, rfl, H⟩ := hq9
    show wp X B9_taleTold 17 [(0, .ref h), (1, .int x1)] [] (G, I2, L3) 0 0 _
    refine wp_iconst (z := 0) (v := 0) (by decide +kernel) (by decide) ?_
    refine wp_istore_n (z := 2) (i := 2) (lv' := [(2, .int 0), (0, .ref h), (1, .int x1)]) (by decide +kernel) rfl (by decide) rfl ?_
    refine wp_iconst (z := 0) (v := 0) (by decide +kernel) (by decide) ?_
    refine wp_istore_n (z := 3) (i := 3) (lv' := [(3, .int 0), (2, .int 0), (0, .ref h), (1, .int x1)]) (by decide +kernel) rfl (by decide) rfl ?_
    exact wp_sub [2, 1, 0] rfl H
set_option maxRecDepth 20000 in
theorem b9_taleTold_21 {X : XX} {G : GG} {I : Nat → Nat → Int32} {L : Nat → Nat → Int64} {h : Nat} {x2 : Int32} {x3 : Int32} {Q : (Nat → Nat → Int32) → (Nat → Nat → Int64) → Prop} (ok : OK9 G h) (H : if (I h 8) = (0 : Int32) then (if x3 = (0 : Int32) then (wpV X B9_taleTold 40 [(0, .ref h), (2, .int x2), (3, .int x3)] [] G I L Q) else (if (I h 5) = 1 then (wpV X B9_taleTold 40 [(0, .ref h), (2, .int x2), (3, .int x3)] [] G I L Q) else (if (I (h + 3) 4) < 6 then (vp_in (17 + (2 * (I (h + 3) 4))) 121 ∧ (∀ I11, I11 = up2 I (h + 3) (cl (17 + (2 * (I (h + 3) 4)))) x3 → vp_in (18 + (2 * (I11 (h + 3) 4))) 121 ∧ (∀ I12, I12 = up2 I11 (h + 3) (cl (18 + (2 * (I11 (h + 3) 4)))) x2 → ∀ I13, I13 = up2 I12 (h + 3) 4 ((I12 (h + 3) 4) + 1) → Q I13 L))) else (Q I L)))) else (if (I (h + 3) 4) < 6 then (vp_in (17 + (2 * (I (h + 3) 4))) 121 ∧ (∀ I3, I3 = up2 I (h + 3) (cl (17 + (2 * (I (h + 3) 4)))) x3 → vp_in (18 + (2 * (I3 (h + 3) 4))) 121 ∧ (∀ I4, I4 = up2 I3 (h + 3) (cl (18 + (2 * (I3 (h + 3) 4)))) x2 → ∀ I5, I5 = up2 I4 (h + 3) 4 ((I4 (h + 3) 4) + 1) → Q I5 L))) else (Q I L))) : wpV X B9_taleTold 21 [(0, .ref h), (2, .int x2), (3, .int x3)] [] G I L Q := by
  refine wp_aload_n (z := 0) (i := 0) (r := (some h)) 0 (by decide +kernel) rfl rfl ?_
  refine wp_getI (idx := 114) (by decide +kernel) fl9_114 rfl ok.1 ?_
  refine wp_if_ne (off := 73) (tgt := 98) (by decide +kernel) (by decide) (fun c1 => ?_) (fun c1 => ?_)
  · rw [if_neg c1] at H
    refine wp_aload_n (z := 0) (i := 0) (r := (some h)) 0 (by decide +kernel) rfl rfl ?_
    refine wp_getS (idx := 17) (q := (h + 3)) (by decide +kernel) fl9_17 rfl ok.1 (okr9_10 ok) ?_
    refine wp_iconst (z := 4) (v := 4) (by decide +kernel) (by decide) ?_
    refine wp_iald (j := 4) (by decide +kernel) (oks9_10 ok) (vin_c (by decide)) (by decide) ?_
    refine wp_bipush (z := 6) (v := 6) (by decide +kernel) (by decide) ?_
    refine wp_icmp_lt (off := 4) (tgt := 110) (by decide +kernel) (by decide) (fun c2 => ?_) (fun c2 => ?_)
    · rw [if_pos c2] at H
      refine wp_aload_n (z := 0) (i := 0) (r := (some h)) 0 (by decide +kernel) rfl rfl ?_
      refine wp_getS (idx := 17) (q := (h + 3)) (by decide +kernel) fl9_17 rfl ok.1 (okr9_10 ok) ?_
      refine wp_bipush (z := 17) (v := 17) (by decide +kernel) (by decide) ?_
      refine wp_iconst (z := 2) (v := 2) (by decide +kernel) (by decide) ?_
      refine wp_aload_n (z := 0) (i := 0) (r := (some h)) 0 (by decide +kernel) rfl rfl ?_
      refine wp_getS (idx := 17) (q := (h + 3)) (by decide +kernel) fl9_17 rfl ok.1 (okr9_10 ok) ?_
      refine wp_iconst (z := 4) (v := 4) (by decide +kernel) (by decide) ?_
      refine wp_iald (j := 4) (by decide +kernel) (oks9_10 ok) (vin_c (by decide)) (by decide) ?_
      refine wp_imul (by decide +kernel) ?_
      refine wp_iadd (by decide +kernel) ?_
      refine wp_iload_n (z := 3) (i := 3) (x := x3) 2 (by decide +kernel) rfl rfl ?_
      obtain ⟨o7, H⟩ := H
      refine wp_iast (j := (cl (17 + (2 * (I (h + 3) 4))))) (by decide +kernel) (oks9_10 ok) o7 rfl ?_
      refine wp_memI (fun I3 eI3 => ?_)
      replace H := H I3 eI3
      refine wp_aload_n (z := 0) (i := 0) (r := (some h)) 0 (by decide +kernel) rfl rfl ?_
      refine wp_getS (idx := 17) (q := (h + 3)) (by decide +kernel) fl9_17 rfl ok.1 (okr9_10 ok) ?_
      refine wp_bipush (z := 18) (v := 18) (by decide +kernel) (by decide) ?_
      refine wp_iconst (z := 2) (v := 2) (by decide +kernel) (by decide) ?_
      refine wp_aload_n (z := 0) (i := 0) (r := (some h)) 0 (by decide +kernel) rfl rfl ?_
      refine wp_getS (idx := 17) (q := (h + 3)) (by decide +kernel) fl9_17 rfl ok.1 (okr9_10 ok) ?_
      refine wp_iconst (z := 4) (v := 4) (by decide +kernel) (by decide) ?_
      refine wp_iald (j := 4) (by decide +kernel) (oks9_10 ok) (vin_c (by decide)) (by decide) ?_
      refine wp_imul (by decide +kernel) ?_
      refine wp_iadd (by decide +kernel) ?_
      refine wp_iload_n (z := 2) (i := 2) (x := x2) 1 (by decide +kernel) rfl rfl ?_
      obtain ⟨o6, H⟩ := H
      refine wp_iast (j := (cl (18 + (2 * (I3 (h + 3) 4))))) (by decide +kernel) (oks9_10 ok) o6 rfl ?_
      refine wp_memI (fun I4 eI4 => ?_)
      replace H := H I4 eI4
      refine wp_aload_n (z := 0) (i := 0) (r := (some h)) 0 (by decide +kernel) rfl rfl ?_
      refine wp_getS (idx := 17) (q := (h + 3)) (by decide +kernel) fl9_17 rfl ok.1 (okr9_10 ok) ?_
      refine wp_iconst (z := 4) (v := 4) (by decide +kernel) (by decide) ?_
      refine wp_dup2 (by decide +kernel) rfl rfl ?_
      refine wp_iald (j := 4) (by decide +kernel) (oks9_10 ok) (vin_c (by decide)) (by decide) ?_
      refine wp_iconst (z := 1) (v := 1) (by decide +kernel) (by decide) ?_
      refine wp_iadd (by decide +kernel) ?_
      refine wp_iast (j := 4) (by decide +kernel) (oks9_10 ok) (vin_c (by decide)) (by decide) ?_
      refine wp_memI (fun I5 eI5 => ?_)
      replace H := H I5 eI5
      exact wp_vret (by decide +kernel) rfl (Nat.zero_le _) (Nat.zero_le _) ⟨_, _, rfl, rfl, H⟩
    · rw [if_neg c2] at H
      exact wp_vret (by decide +kernel) rfl (Nat.zero_le _) (Nat.zero_le _) ⟨_, _, rfl, rfl, H⟩
  · rw [if_pos c1] at H
    refine wp_iload_n (z := 3) (i := 3) (x := x3) 2 (by decide +kernel) rfl rfl ?_
    refine wp_if_eq (off := 11) (tgt := 40) (by decide +kernel) (by decide) (fun c8 => ?_) (fun c8 => ?_)
    · rw [if_pos c8] at H
      exact wp_sub [0, 1, 2] rfl H
    · rw [if_neg c8] at H
      refine wp_aload_n (z := 0) (i := 0) (r := (some h)) 0 (by decide +kernel) rfl rfl ?_
      refine wp_getI (idx := 90) (by decide +kernel) fl9_90 rfl ok.1 ?_
      refine wp_iconst (z := 1) (v := 1) (by decide +kernel) (by decide) ?_
      refine wp_icmp_ne (off := 61) (tgt := 98) (by decide +kernel) (by decide) (fun c9 => ?_) (fun c9 => ?_)
      · rw [if_neg c9] at H
        refine wp_aload_n (z := 0) (i := 0) (r := (some h)) 0 (by decide +kernel) rfl rfl ?_
        refine wp_getS (idx := 17) (q := (h + 3)) (by decide +kernel) fl9_17 rfl ok.1 (okr9_10 ok) ?_
        refine wp_iconst (z := 4) (v := 4) (by decide +kernel) (by decide) ?_
        refine wp_iald (j := 4) (by decide +kernel) (oks9_10 ok) (vin_c (by decide)) (by decide) ?_
        refine wp_bipush (z := 6) (v := 6) (by decide +kernel) (by decide) ?_
        refine wp_icmp_lt (off := 4) (tgt := 110) (by decide +kernel) (by decide) (fun c10 => ?_) (fun c10 => ?_)
        · rw [if_pos c10] at H
          refine wp_aload_n (z := 0) (i := 0) (r := (some h)) 0 (by decide +kernel) rfl rfl ?_
          refine wp_getS (idx := 17) (q := (h + 3)) (by decide +kernel) fl9_17 rfl ok.1 (okr9_10 ok) ?_
          refine wp_bipush (z := 17) (v := 17) (by decide +kernel) (by decide) ?_
          refine wp_iconst (z := 2) (v := 2) (by decide +kernel) (by decide) ?_
          refine wp_aload_n (z := 0) (i := 0) (r := (some h)) 0 (by decide +kernel) rfl rfl ?_
          refine wp_getS (idx := 17) (q := (h + 3)) (by decide +kernel) fl9_17 rfl ok.1 (okr9_10 ok) ?_
          refine wp_iconst (z := 4) (v := 4) (by decide +kernel) (by decide) ?_
          refine wp_iald (j := 4) (by decide +kernel) (oks9_10 ok) (vin_c (by decide)) (by decide) ?_
          refine wp_imul (by decide +kernel) ?_
          refine wp_iadd (by decide +kernel) ?_
          refine wp_iload_n (z := 3) (i := 3) (x := x3) 2 (by decide +kernel) rfl rfl ?_
          obtain ⟨o15, H⟩ := H
          refine wp_iast (j := (cl (17 + (2 * (I (h + 3) 4))))) (by decide +kernel) (oks9_10 ok) o15 rfl ?_
          refine wp_memI (fun I11 eI11 => ?_)
          replace H := H I11 eI11
          refine wp_aload_n (z := 0) (i := 0) (r := (some h)) 0 (by decide +kernel) rfl rfl ?_
          refine wp_getS (idx := 17) (q := (h + 3)) (by decide +kernel) fl9_17 rfl ok.1 (okr9_10 ok) ?_
          refine wp_bipush (z := 18) (v := 18) (by decide +kernel) (by decide) ?_
          refine wp_iconst (z := 2) (v := 2) (by decide +kernel) (by decide) ?_
          refine wp_aload_n (z := 0) (i := 0) (r := (some h)) 0 (by decide +kernel) rfl rfl ?_
          refine wp_getS (idx := 17) (q := (h + 3)) (by decide +kernel) fl9_17 rfl ok.1 (okr9_10 ok) ?_
          refine wp_iconst (z := 4) (v := 4) (by decide +kernel) (by decide) ?_
          refine wp_iald (j := 4) (by decide +kernel) (oks9_10 ok) (vin_c (by decide)) (by decide) ?_
          refine wp_imul (by decide +kernel) ?_
          refine wp_iadd (by decide +kernel) ?_
          refine wp_iload_n (z := 2) (i := 2) (x := x2) 1 (by decide +kernel) rfl rfl ?_
          obtain ⟨o14, H⟩ := H
          refine wp_iast (j := (cl (18 + (2 * (I11 (h + 3) 4))))) (by decide +kernel) (oks9_10 ok) o14 rfl ?_
          refine wp_memI (fun I12 eI12 => ?_)
          replace H := H I12 eI12
          refine wp_aload_n (z := 0) (i := 0) (r := (some h)) 0 (by decide +kernel) rfl rfl ?_
          refine wp_getS (idx := 17) (q := (h + 3)) (by decide +kernel) fl9_17 rfl ok.1 (okr9_10 ok) ?_
          refine wp_iconst (z := 4) (v := 4) (by decide +kernel) (by decide) ?_
          refine wp_dup2 (by decide +kernel) rfl rfl ?_
          refine wp_iald (j := 4) (by decide +kernel) (oks9_10 ok) (vin_c (by decide)) (by decide) ?_
          refine wp_iconst (z := 1) (v := 1) (by decide +kernel) (by decide) ?_
          refine wp_iadd (by decide +kernel) ?_
          refine wp_iast (j := 4) (by decide +kernel) (oks9_10 ok) (vin_c (by decide)) (by decide) ?_
          refine wp_memI (fun I13 eI13 => ?_)
          replace H := H I13 eI13
          exact wp_vret (by decide +kernel) rfl (Nat.zero_le _) (Nat.zero_le _) ⟨_, _, rfl, rfl, H⟩
        · rw [if_neg c10] at H
          exact wp_vret (by decide +kernel) rfl (Nat.zero_le _) (Nat.zero_le _) ⟨_, _, rfl, rfl, H⟩
      · rw [if_pos c9] at H
        exact wp_sub [0, 1, 2] rfl H
set_option maxRecDepth 20000 in
theorem b9_taleTold_40 {X : XX} {G : GG} {I : Nat → Nat → Int32} {L : Nat → Nat → Int64} {h : Nat} {x2 : Int32} {x3 : Int32} {Q : (Nat → Nat → Int32) → (Nat → Nat → Int64) → Prop} (ok : OK9 G h) (H : if x3 = 6 then (wpV X B9_also 0 [(0, .ref h), (1, .int 3), (2, .int (I h 4))] [] G I L (fun I9 L10 => wpI X B9_numbered 0 [(0, .ref h), (1, .int 0), (2, .int 1)] [] G I9 L10 (fun r14 I12 L13 => if 6 ≤ x3 then (if 6 ≤ x3 then (wpV X B9_taleTold 21 [(0, .ref h), (2, .int (x2 ||| 0)), (3, .int 6)] [] G I12 L13 Q) else (wpV X B9_taleTold 21 [(0, .ref h), (2, .int (x2 ||| 0)), (3, .int (x3 + 1))] [] G I12 L13 Q)) else (∀ u17, u17 = (x2 ||| (r14 <<< (x3 &&& 31))) → if 6 ≤ x3 then (wpV X B9_taleTold 21 [(0, .ref h), (2, .int u17), (3, .int 6)] [] G I12 L13 Q) else (wpV X B9_taleTold 21 [(0, .ref h), (2, .int u17), (3, .int (x3 + 1))] [] G I12 L13 Q))))) else (wpI X B9_numbered 0 [(0, .ref h), (1, .int 0), (2, .int 1)] [] G I L (fun r4 I2 L3 => if 6 ≤ x3 then (if 6 ≤ x3 then (wpV X B9_taleTold 21 [(0, .ref h), (2, .int (x2 ||| 0)), (3, .int 6)] [] G I2 L3 Q) else (wpV X B9_taleTold 21 [(0, .ref h), (2, .int (x2 ||| 0)), (3, .int (x3 + 1))] [] G I2 L3 Q)) else (∀ u7, u7 = (x2 ||| (r4 <<< (x3 &&& 31))) → if 6 ≤ x3 then (wpV X B9_taleTold 21 [(0, .ref h), (2, .int u7), (3, .int 6)] [] G I2 L3 Q) else (wpV X B9_taleTold 21 [(0, .ref h), (2, .int u7), (3, .int (x3 + 1))] [] G I2 L3 Q))))) : wpV X B9_taleTold 40 [(0, .ref h), (2, .int x2), (3, .int x3)] [] G I L Q := by
  refine wp_iload_n (z := 3) (i := 3) (x := x3) 2 (by decide +kernel) rfl rfl ?_
  refine wp_bipush (z := 6) (v := 6) (by decide +kernel) (by decide) ?_
  refine wp_icmp_ne (off := 12) (tgt := 55) (by decide +kernel) (by decide) (fun c1 => ?_) (fun c1 => ?_)
  · rw [if_neg c1] at H
    refine wp_aload_n (z := 0) (i := 0) (r := (some h)) 0 (by decide +kernel) rfl rfl ?_
    refine wp_iconst (z := 0) (v := 0) (by decide +kernel) (by decide) ?_
    refine wp_iconst (z := 1) (v := 1) (by decide +kernel) (by decide) ?_
    refine wp_callV (idx := 132) (B2 := B9_numbered) (As := [.int 0, .int 1]) (a := h) (st := []) (by decide +kernel) m9_numbered ml9_132 k9_numbered e9_numbered ck9 ok.1 (⟨Nat.le_of_ble_eq_true rfl, Nat.le_of_ble_eq_true rfl⟩ : rOK B9_taleTold B9_numbered) rfl (Nat.le_of_ble_eq_true rfl) (Nat.le_of_ble_eq_true rfl) ⟨Nat.le_of_ble_eq_true rfl, Nat.le_of_ble_eq_true rfl⟩ rfl (wp_mono H (fun v9 M9 hq9 => ?_))
    clear H
    obtain ⟨r4, I2, L3, rfl, rfl, H⟩ := hq9
    show wp X B9_taleTold 61 [(0, .ref h), (2, .int x2), (3, .int x3)] [.int r4] (G, I2, L3) 0 0 _
    refine wp_istore (i := 4) (lv' := [(4, .int r4), (0, .ref h), (2, .int x2), (3, .int x3)]) (by decide +kernel) (by decide) rfl ?_
    refine wp_iload_n (z := 2) (i := 2) (x := x2) 2 (by decide +kernel) rfl rfl ?_
    refine wp_iload_n (z := 3) (i := 3) (x := x3) 3 (by decide +kernel) rfl rfl ?_
    refine wp_bipush (z := 6) (v := 6) (by decide +kernel) (by decide) ?_
    refine wp_icmp_ge (off := 10) (tgt := 77) (by decide +kernel) (by decide) (fun c5 => ?_) (fun c5 => ?_)
    · rw [if_pos c5] at H
      refine wp_iconst (z := 0) (v := 0) (by decide +kernel) (by decide) ?_
      refine wp_ior (by decide +kernel) ?_
      refine wp_istore_n (z := 2) (i := 2) (lv' := [(2, .int (x2 ||| 0)), (4, .int r4), (0, .ref h), (3, .int x3)]) (by decide +kernel) rfl (by decide) rfl ?_
      refine wp_iload_n (z := 3) (i := 3) (x := x3) 3 (by decide +kernel) rfl rfl ?_
      refine wp_bipush (z := 6) (v := 6) (by decide +kernel) (by decide) ?_
      refine wp_icmp_ge (off := 9) (tgt := 92) (by decide +kernel) (by decide) (fun c6 => ?_) (fun c6 => ?_)
      · rw [if_pos c6] at H
        refine wp_bipush (z := 6) (v := 6) (by decide +kernel) (by decide) ?_
        refine wp_istore_n (z := 3) (i := 3) (lv' := [(3, .int 6), (2, .int (x2 ||| 0)), (4, .int r4), (0, .ref h)]) (by decide +kernel) rfl (by decide) rfl ?_
        refine wp_goto (off := -74) (tgt := 21) (by decide +kernel) (by decide) ?_
        exact wp_sub [3, 1, 0] rfl H
      · rw [if_neg c6] at H
        refine wp_iload_n (z := 3) (i := 3) (x := x3) 3 (by decide +kernel) rfl rfl ?_
        refine wp_iconst (z := 1) (v := 1) (by decide +kernel) (by decide) ?_
        refine wp_iadd (by decide +kernel) ?_
        refine wp_goto (off := 5) (tgt := 94) (by decide +kernel) (by decide) ?_
        refine wp_istore_n (z := 3) (i := 3) (lv' := [(3, .int (x3 + 1)), (2, .int (x2 ||| 0)), (4, .int r4), (0, .ref h)]) (by decide +kernel) rfl (by decide) rfl ?_
        refine wp_goto (off := -74) (tgt := 21) (by decide +kernel) (by decide) ?_
        exact wp_sub [3, 1, 0] rfl H
    · rw [if_neg c5] at H
      refine wp_iload (i := 4) (x := r4) 0 (by decide +kernel) rfl ?_
      refine wp_iload_n (z := 3) (i := 3) (x := x3) 3 (by decide +kernel) rfl rfl ?_
      refine wp_ishl (by decide +kernel) ?_
      refine wp_goto (off := 4) (tgt := 78) (by decide +kernel) (by decide) ?_
      refine wp_ior (by decide +kernel) ?_
      refine wp_topi (fun u7 eu7 => ?_)
      replace H := H u7 eu7
      refine wp_istore_n (z := 2) (i := 2) (lv' := [(2, .int u7), (4, .int r4), (0, .ref h), (3, .int x3)]) (by decide +kernel) rfl (by decide) rfl ?_
      refine wp_iload_n (z := 3) (i := 3) (x := x3) 3 (by decide +kernel) rfl rfl ?_
      refine wp_bipush (z := 6) (v := 6) (by decide +kernel) (by decide) ?_
      refine wp_icmp_ge (off := 9) (tgt := 92) (by decide +kernel) (by decide) (fun c8 => ?_) (fun c8 => ?_)
      · rw [if_pos c8] at H
        refine wp_bipush (z := 6) (v := 6) (by decide +kernel) (by decide) ?_
        refine wp_istore_n (z := 3) (i := 3) (lv' := [(3, .int 6), (2, .int u7), (4, .int r4), (0, .ref h)]) (by decide +kernel) rfl (by decide) rfl ?_
        refine wp_goto (off := -74) (tgt := 21) (by decide +kernel) (by decide) ?_
        exact wp_sub [3, 1, 0] rfl H
      · rw [if_neg c8] at H
        refine wp_iload_n (z := 3) (i := 3) (x := x3) 3 (by decide +kernel) rfl rfl ?_
        refine wp_iconst (z := 1) (v := 1) (by decide +kernel) (by decide) ?_
        refine wp_iadd (by decide +kernel) ?_
        refine wp_goto (off := 5) (tgt := 94) (by decide +kernel) (by decide) ?_
        refine wp_istore_n (z := 3) (i := 3) (lv' := [(3, .int (x3 + 1)), (2, .int u7), (4, .int r4), (0, .ref h)]) (by decide +kernel) rfl (by decide) rfl ?_
        refine wp_goto (off := -74) (tgt := 21) (by decide +kernel) (by decide) ?_
        exact wp_sub [3, 1, 0] rfl H
  · rw [if_pos c1] at H
    refine wp_aload_n (z := 0) (i := 0) (r := (some h)) 0 (by decide +kernel) rfl rfl ?_
    refine wp_iconst (z := 3) (v := 3) (by decide +kernel) (by decide) ?_
    refine wp_aload_n (z := 0) (i := 0) (r := (some h)) 0 (by decide +kernel) rfl rfl ?_
    refine wp_getI (idx := 87) (by decide +kernel) fl9_87 rfl ok.1 ?_
    refine wp_callV (idx := 125) (B2 := B9_also) (As := [.int 3, .int (I h 4)]) (a := h) (st := []) (by decide +kernel) m9_also ml9_125 k9_also e9_also ck9 ok.1 (⟨Nat.le_of_ble_eq_true rfl, Nat.le_of_ble_eq_true rfl⟩ : rOK B9_taleTold B9_also) rfl (Nat.le_of_ble_eq_true rfl) (Nat.le_of_ble_eq_true rfl) ⟨Nat.le_of_ble_eq_true rfl, Nat.le_of_ble_eq_true rfl⟩ rfl (wp_mono H (fun v9 M9 hq9 => ?_))
    clear H
    obtain ⟨I9, L10, rfl, rfl, H⟩ := hq9
    show wp X B9_taleTold 55 [(0, .ref h), (2, .int x2), (3, .int x3)] [] (G, I9, L10) 0 0 _
    refine wp_aload_n (z := 0) (i := 0) (r := (some h)) 0 (by decide +kernel) rfl rfl ?_
    refine wp_iconst (z := 0) (v := 0) (by decide +kernel) (by decide) ?_
    refine wp_iconst (z := 1) (v := 1) (by decide +kernel) (by decide) ?_
    refine wp_callV (idx := 132) (B2 := B9_numbered) (As := [.int 0, .int 1]) (a := h) (st := []) (by decide +kernel) m9_numbered ml9_132 k9_numbered e9_numbered ck9 ok.1 (⟨Nat.le_of_ble_eq_true rfl, Nat.le_of_ble_eq_true rfl⟩ : rOK B9_taleTold B9_numbered) rfl (Nat.le_of_ble_eq_true rfl) (Nat.le_of_ble_eq_true rfl) ⟨Nat.le_of_ble_eq_true rfl, Nat.le_of_ble_eq_true rfl⟩ rfl (wp_mono H (fun v9 M9 hq9 => ?_))
    clear H
    obtain ⟨r14, I12, L13, rfl, rfl, H⟩ := hq9
    show wp X B9_taleTold 61 [(0, .ref h), (2, .int x2), (3, .int x3)] [.int r14] (G, I12, L13) 0 0 _
    refine wp_istore (i := 4) (lv' := [(4, .int r14), (0, .ref h), (2, .int x2), (3, .int x3)]) (by decide +kernel) (by decide) rfl ?_
    refine wp_iload_n (z := 2) (i := 2) (x := x2) 2 (by decide +kernel) rfl rfl ?_
    refine wp_iload_n (z := 3) (i := 3) (x := x3) 3 (by decide +kernel) rfl rfl ?_
    refine wp_bipush (z := 6) (v := 6) (by decide +kernel) (by decide) ?_
    refine wp_icmp_ge (off := 10) (tgt := 77) (by decide +kernel) (by decide) (fun c15 => ?_) (fun c15 => ?_)
    · rw [if_pos c15] at H
      refine wp_iconst (z := 0) (v := 0) (by decide +kernel) (by decide) ?_
      refine wp_ior (by decide +kernel) ?_
      refine wp_istore_n (z := 2) (i := 2) (lv' := [(2, .int (x2 ||| 0)), (4, .int r14), (0, .ref h), (3, .int x3)]) (by decide +kernel) rfl (by decide) rfl ?_
      refine wp_iload_n (z := 3) (i := 3) (x := x3) 3 (by decide +kernel) rfl rfl ?_
      refine wp_bipush (z := 6) (v := 6) (by decide +kernel) (by decide) ?_
      refine wp_icmp_ge (off := 9) (tgt := 92) (by decide +kernel) (by decide) (fun c16 => ?_) (fun c16 => ?_)
      · rw [if_pos c16] at H
        refine wp_bipush (z := 6) (v := 6) (by decide +kernel) (by decide) ?_
        refine wp_istore_n (z := 3) (i := 3) (lv' := [(3, .int 6), (2, .int (x2 ||| 0)), (4, .int r14), (0, .ref h)]) (by decide +kernel) rfl (by decide) rfl ?_
        refine wp_goto (off := -74) (tgt := 21) (by decide +kernel) (by decide) ?_
        exact wp_sub [3, 1, 0] rfl H
      · rw [if_neg c16] at H
        refine wp_iload_n (z := 3) (i := 3) (x := x3) 3 (by decide +kernel) rfl rfl ?_
        refine wp_iconst (z := 1) (v := 1) (by decide +kernel) (by decide) ?_
        refine wp_iadd (by decide +kernel) ?_
        refine wp_goto (off := 5) (tgt := 94) (by decide +kernel) (by decide) ?_
        refine wp_istore_n (z := 3) (i := 3) (lv' := [(3, .int (x3 + 1)), (2, .int (x2 ||| 0)), (4, .int r14), (0, .ref h)]) (by decide +kernel) rfl (by decide) rfl ?_
        refine wp_goto (off := -74) (tgt := 21) (by decide +kernel) (by decide) ?_
        exact wp_sub [3, 1, 0] rfl H
    · rw [if_neg c15] at H
      refine wp_iload (i := 4) (x := r14) 0 (by decide +kernel) rfl ?_
      refine wp_iload_n (z := 3) (i := 3) (x := x3) 3 (by decide +kernel) rfl rfl ?_
      refine wp_ishl (by decide +kernel) ?_
      refine wp_goto (off := 4) (tgt := 78) (by decide +kernel) (by decide) ?_
      refine wp_ior (by decide +kernel) ?_
      refine wp_topi (fun u17 eu17 => ?_)
      replace H := H u17 eu17
      refine wp_istore_n (z := 2) (i := 2) (lv' := [(2, .int u17), (4, .int r14), (0, .ref h), (3, .int x3)]) (by decide +kernel) rfl (by decide) rfl ?_
      refine wp_iload_n (z := 3) (i := 3) (x := x3) 3 (by decide +kernel) rfl rfl ?_
      refine wp_bipush (z := 6) (v := 6) (by decide +kernel) (by decide) ?_
      refine wp_icmp_ge (off := 9) (tgt := 92) (by decide +kernel) (by decide) (fun c18 => ?_) (fun c18 => ?_)
      · rw [if_pos c18] at H
        refine wp_bipush (z := 6) (v := 6) (by decide +kernel) (by decide) ?_
        refine wp_istore_n (z := 3) (i := 3) (lv' := [(3, .int 6), (2, .int u17), (4, .int r14), (0, .ref h)]) (by decide +kernel) rfl (by decide) rfl ?_
        refine wp_goto (off := -74) (tgt := 21) (by decide +kernel) (by decide) ?_
        exact wp_sub [3, 1, 0] rfl H
      · rw [if_neg c18] at H
        refine wp_iload_n (z := 3) (i := 3) (x := x3) 3 (by decide +kernel) rfl rfl ?_
        refine wp_iconst (z := 1) (v := 1) (by decide +kernel) (by decide) ?_
        refine wp_iadd (by decide +kernel) ?_
        refine wp_goto (off := 5) (tgt := 94) (by decide +kernel) (by decide) ?_
        refine wp_istore_n (z := 3) (i := 3) (lv' := [(3, .int (x3 + 1)), (2, .int u17), (4, .int r14), (0, .ref h)]) (by decide +kernel) rfl (by decide) rfl ?_
        refine wp_goto (off := -74) (tgt := 21) (by decide +kernel) (by decide) ?_
        exact wp_sub [3, 1, 0] rfl H
