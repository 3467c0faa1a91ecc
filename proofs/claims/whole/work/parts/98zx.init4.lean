/-! the reference's constructor -/
section
variable {X : XX} {G : GG} {I : Nat → Nat → Int32} {L : Nat → Nat → Int64} {h : Nat} {Q : GG → (Nat → Nat → Int32) → (Nat → Nat → Int64) → Prop}
theorem cs_newRef (H0 : HDn 9 [] 1 h G) (K : ∀ G' I' L', OK9 G' h → G'.2.2 = h + 19 → (∀ b, h + 19 ≤ b → G'.1 b = none) → FH h h G G' I I' → (∀ j, I' (h + 1) j = if j = 6 then -1 else 0) → (∀ j, I' (h + 2) j = 0) → Q G' I' L') : wgV X B9_init 0 [(0, .ref h)] [] G I L 0 0 Q := by
  refine b9_init H0.1 (fun G1 I2 L3 e1 => ?_)
  refine ⟨hd_mid H0 (by decide) e1, fun G6 e6 G7 I8 L9 e7 => ?_⟩
  have t1 := hd_new H0 (by decide) (by decide) e1 e6
  obtain ⟨H1, F1, z1, -⟩ : HDn 9 [(0, 1, 11, 4096)] 2 h G6 ∧ FH h (h + 1) G G6 I I2 ∧ (∀ j, I2 (h + 1) j = 0) ∧ (∀ j, G6.2.1 (h + 1) j = none) := t1
  refine ⟨hd_mid H1 (by decide) e7, fun G12 e12 G13 I14 L15 e13 => ?_⟩
  have t2 := hd_new H1 (by decide) (by decide) e7 e12
  obtain ⟨H2, F2, z2, -⟩ : HDn 9 [(0, 1, 11, 4096), (1, 2, 13, 3)] 3 h G12 ∧ FH h (h + 2) G6 G12 I2 I8 ∧ (∀ j, I8 (h + 2) j = 0) ∧ (∀ j, G12.2.1 (h + 2) j = none) := t2
  refine ⟨hd_mid H2 (by decide) e13, fun G18 e18 G19 I20 L21 e19 => ?_⟩
  have t3 := hd_new H2 (by decide) (by decide) e13 e18
  obtain ⟨H3, F3, z3, -⟩ : HDn 9 [(0, 1, 11, 4096), (1, 2, 13, 3), (10, 3, 11, 121)] 4 h G18 ∧ FH h (h + 3) G12 G18 I8 I14 ∧ (∀ j, I14 (h + 3) j = 0) ∧ (∀ j, G18.2.1 (h + 3) j = none) := t3
  refine ⟨hd_mid H3 (by decide) e19, fun G24 e24 G25 I26 L27 e25 => ?_⟩
  have t4 := hd_new H3 (by decide) (by decide) e19 e24
  obtain ⟨H4, F4, z4, -⟩ : HDn 9 [(0, 1, 11, 4096), (1, 2, 13, 3), (10, 3, 11, 121), (23, 4, 11, 32)] 5 h G24 ∧ FH h (h + 4) G18 G24 I14 I20 ∧ (∀ j, I20 (h + 4) j = 0) ∧ (∀ j, G24.2.1 (h + 4) j = none) := t4
  refine ⟨hd_mid H4 (by decide) e25, fun G30 e30 G31 I32 L33 e31 => ?_⟩
  have t5 := hd_new H4 (by decide) (by decide) e25 e30
  obtain ⟨H5, F5, z5, -⟩ : HDn 9 [(0, 1, 11, 4096), (1, 2, 13, 3), (10, 3, 11, 121), (23, 4, 11, 32), (24, 5, 11, 32)] 6 h G30 ∧ FH h (h + 5) G24 G30 I20 I26 ∧ (∀ j, I26 (h + 5) j = 0) ∧ (∀ j, G30.2.1 (h + 5) j = none) := t5
  refine ⟨hd_mid H5 (by decide) e31, fun G36 e36 G37 I38 L39 e37 => ?_⟩
  have t6 := hd_new H5 (by decide) (by decide) e31 e36
  obtain ⟨H6, F6, z6, -⟩ : HDn 9 [(0, 1, 11, 4096), (1, 2, 13, 3), (10, 3, 11, 121), (23, 4, 11, 32), (24, 5, 11, 32), (25, 6, 11, 32)] 7 h G36 ∧ FH h (h + 6) G30 G36 I26 I32 ∧ (∀ j, I32 (h + 6) j = 0) ∧ (∀ j, G36.2.1 (h + 6) j = none) := t6
  refine ⟨hd_mid H6 (by decide) e37, fun G42 e42 G43 I44 L45 e43 => ?_⟩
  have t7 := hd_new H6 (by decide) (by decide) e37 e42
  obtain ⟨H7, F7, z7, -⟩ : HDn 9 [(0, 1, 11, 4096), (1, 2, 13, 3), (10, 3, 11, 121), (23, 4, 11, 32), (24, 5, 11, 32), (25, 6, 11, 32), (26, 7, 11, 6)] 8 h G42 ∧ FH h (h + 7) G36 G42 I32 I38 ∧ (∀ j, I38 (h + 7) j = 0) ∧ (∀ j, G42.2.1 (h + 7) j = none) := t7
  refine ⟨hd_mid H7 (by decide) e43, fun G48 e48 G49 I50 L51 e49 => ?_⟩
  have t8 := hd_new H7 (by decide) (by decide) e43 e48
  obtain ⟨H8, F8, z8, -⟩ : HDn 9 [(0, 1, 11, 4096), (1, 2, 13, 3), (10, 3, 11, 121), (23, 4, 11, 32), (24, 5, 11, 32), (25, 6, 11, 32), (26, 7, 11, 6), (27, 8, 11, 6)] 9 h G48 ∧ FH h (h + 8) G42 G48 I38 I44 ∧ (∀ j, I44 (h + 8) j = 0) ∧ (∀ j, G48.2.1 (h + 8) j = none) := t8
  refine ⟨hd_mid H8 (by decide) e49, fun G54 e54 G55 I56 L57 e55 => ?_⟩
  have t9 := hd_new H8 (by decide) (by decide) e49 e54
  obtain ⟨H9, F9, z9, -⟩ : HDn 9 [(0, 1, 11, 4096), (1, 2, 13, 3), (10, 3, 11, 121), (23, 4, 11, 32), (24, 5, 11, 32), (25, 6, 11, 32), (26, 7, 11, 6), (27, 8, 11, 6), (28, 9, 11, 6)] 10 h G54 ∧ FH h (h + 9) G48 G54 I44 I50 ∧ (∀ j, I50 (h + 9) j = 0) ∧ (∀ j, G54.2.1 (h + 9) j = none) := t9
  refine ⟨hd_mid H9 (by decide) e55, fun G60 e60 G61 I62 L63 e61 => ?_⟩
  have t10 := hd_new H9 (by decide) (by decide) e55 e60
  obtain ⟨H10, F10, z10, -⟩ : HDn 9 [(0, 1, 11, 4096), (1, 2, 13, 3), (10, 3, 11, 121), (23, 4, 11, 32), (24, 5, 11, 32), (25, 6, 11, 32), (26, 7, 11, 6), (27, 8, 11, 6), (28, 9, 11, 6), (29, 10, 11, 6)] 11 h G60 ∧ FH h (h + 10) G54 G60 I50 I56 ∧ (∀ j, I56 (h + 10) j = 0) ∧ (∀ j, G60.2.1 (h + 10) j = none) := t10
  refine ⟨hd_mid H10 (by decide) e61, fun G66 e66 G67 I68 L69 e67 => ?_⟩
  have t11 := hd_new H10 (by decide) (by decide) e61 e66
  obtain ⟨H11, F11, z11, -⟩ : HDn 9 [(0, 1, 11, 4096), (1, 2, 13, 3), (10, 3, 11, 121), (23, 4, 11, 32), (24, 5, 11, 32), (25, 6, 11, 32), (26, 7, 11, 6), (27, 8, 11, 6), (28, 9, 11, 6), (29, 10, 11, 6), (30, 11, 11, 64)] 12 h G66 ∧ FH h (h + 11) G60 G66 I56 I62 ∧ (∀ j, I62 (h + 11) j = 0) ∧ (∀ j, G66.2.1 (h + 11) j = none) := t11
  refine ⟨hd_mid H11 (by decide) e67, fun G72 e72 G73 I74 L75 e73 => ?_⟩
  have t12 := hd_new H11 (by decide) (by decide) e67 e72
  obtain ⟨H12, F12, z12, -⟩ : HDn 9 [(0, 1, 11, 4096), (1, 2, 13, 3), (10, 3, 11, 121), (23, 4, 11, 32), (24, 5, 11, 32), (25, 6, 11, 32), (26, 7, 11, 6), (27, 8, 11, 6), (28, 9, 11, 6), (29, 10, 11, 6), (30, 11, 11, 64), (31, 12, 11, 256)] 13 h G72 ∧ FH h (h + 12) G66 G72 I62 I68 ∧ (∀ j, I68 (h + 12) j = 0) ∧ (∀ j, G72.2.1 (h + 12) j = none) := t12
  refine ⟨hd_mid H12 (by decide) e73, fun G78 e78 G79 I80 L81 e79 => ?_⟩
  have t13 := hd_new H12 (by decide) (by decide) e73 e78
  obtain ⟨H13, F13, z13, -⟩ : HDn 9 [(0, 1, 11, 4096), (1, 2, 13, 3), (10, 3, 11, 121), (23, 4, 11, 32), (24, 5, 11, 32), (25, 6, 11, 32), (26, 7, 11, 6), (27, 8, 11, 6), (28, 9, 11, 6), (29, 10, 11, 6), (30, 11, 11, 64), (31, 12, 11, 256), (32, 13, 12, 14)] 14 h G78 ∧ FH h (h + 13) G72 G78 I68 I74 ∧ (∀ j, I74 (h + 13) j = 0) ∧ (∀ j, G78.2.1 (h + 13) j = none) := t13
  refine ⟨hd_mid H13 (by decide) e79, fun G84 e84 G85 I86 L87 e85 => ?_⟩
  have t14 := hd_new H13 (by decide) (by decide) e79 e84
  obtain ⟨H14, F14, z14, -⟩ : HDn 9 [(0, 1, 11, 4096), (1, 2, 13, 3), (10, 3, 11, 121), (23, 4, 11, 32), (24, 5, 11, 32), (25, 6, 11, 32), (26, 7, 11, 6), (27, 8, 11, 6), (28, 9, 11, 6), (29, 10, 11, 6), (30, 11, 11, 64), (31, 12, 11, 256), (32, 13, 12, 14), (33, 14, 11, 384)] 15 h G84 ∧ FH h (h + 14) G78 G84 I74 I80 ∧ (∀ j, I80 (h + 14) j = 0) ∧ (∀ j, G84.2.1 (h + 14) j = none) := t14
  refine ⟨hd_mid H14 (by decide) e85, fun G90 e90 G91 I92 L93 e91 => ?_⟩
  have t15 := hd_new H14 (by decide) (by decide) e85 e90
  obtain ⟨H15, F15, z15, -⟩ : HDn 9 [(0, 1, 11, 4096), (1, 2, 13, 3), (10, 3, 11, 121), (23, 4, 11, 32), (24, 5, 11, 32), (25, 6, 11, 32), (26, 7, 11, 6), (27, 8, 11, 6), (28, 9, 11, 6), (29, 10, 11, 6), (30, 11, 11, 64), (31, 12, 11, 256), (32, 13, 12, 14), (33, 14, 11, 384), (34, 15, 12, 31)] 16 h G90 ∧ FH h (h + 15) G84 G90 I80 I86 ∧ (∀ j, I86 (h + 15) j = 0) ∧ (∀ j, G90.2.1 (h + 15) j = none) := t15
  refine ⟨hd_mid H15 (by decide) e91, fun G96 e96 G97 I98 L99 e97 => ?_⟩
  have t16 := hd_new H15 (by decide) (by decide) e91 e96
  obtain ⟨H16, F16, z16, -⟩ : HDn 9 [(0, 1, 11, 4096), (1, 2, 13, 3), (10, 3, 11, 121), (23, 4, 11, 32), (24, 5, 11, 32), (25, 6, 11, 32), (26, 7, 11, 6), (27, 8, 11, 6), (28, 9, 11, 6), (29, 10, 11, 6), (30, 11, 11, 64), (31, 12, 11, 256), (32, 13, 12, 14), (33, 14, 11, 384), (34, 15, 12, 31), (35, 16, 11, 288)] 17 h G96 ∧ FH h (h + 16) G90 G96 I86 I92 ∧ (∀ j, I92 (h + 16) j = 0) ∧ (∀ j, G96.2.1 (h + 16) j = none) := t16
  refine ⟨hd_mid H16 (by decide) e97, fun G102 e102 G103 I104 L105 e103 => ?_⟩
  have t17 := hd_new H16 (by decide) (by decide) e97 e102
  obtain ⟨H17, F17, z17, -⟩ : HDn 9 [(0, 1, 11, 4096), (1, 2, 13, 3), (10, 3, 11, 121), (23, 4, 11, 32), (24, 5, 11, 32), (25, 6, 11, 32), (26, 7, 11, 6), (27, 8, 11, 6), (28, 9, 11, 6), (29, 10, 11, 6), (30, 11, 11, 64), (31, 12, 11, 256), (32, 13, 12, 14), (33, 14, 11, 384), (34, 15, 12, 31), (35, 16, 11, 288), (43, 17, 11, 200)] 18 h G102 ∧ FH h (h + 17) G96 G102 I92 I98 ∧ (∀ j, I98 (h + 17) j = 0) ∧ (∀ j, G102.2.1 (h + 17) j = none) := t17
  refine ⟨hd_mid H17 (by decide) e103, fun G108 e108 => ?_⟩
  have t18 := hd_new H17 (by decide) (by decide) e103 e108
  obtain ⟨H18, F18, z18, -⟩ : HDn 9 [(0, 1, 11, 4096), (1, 2, 13, 3), (10, 3, 11, 121), (23, 4, 11, 32), (24, 5, 11, 32), (25, 6, 11, 32), (26, 7, 11, 6), (27, 8, 11, 6), (28, 9, 11, 6), (29, 10, 11, 6), (30, 11, 11, 64), (31, 12, 11, 256), (32, 13, 12, 14), (33, 14, 11, 384), (34, 15, 12, 31), (35, 16, 11, 288), (43, 17, 11, 200), (44, 18, 11, 8)] 19 h G108 ∧ FH h (h + 18) G102 G108 I98 I104 ∧ (∀ j, I104 (h + 18) j = 0) ∧ (∀ j, G108.2.1 (h + 18) j = none) := t18
  have Z18 : FH h (h + 18) G102 G108 I98 I104 := F18
  have Z17 : FH h (h + 17) G96 G108 I92 I104 := FH_trans F17 Z18 (by omega)
  have Z16 : FH h (h + 16) G90 G108 I86 I104 := FH_trans F16 Z17 (by omega)
  have Z15 : FH h (h + 15) G84 G108 I80 I104 := FH_trans F15 Z16 (by omega)
  have Z14 : FH h (h + 14) G78 G108 I74 I104 := FH_trans F14 Z15 (by omega)
  have Z13 : FH h (h + 13) G72 G108 I68 I104 := FH_trans F13 Z14 (by omega)
  have Z12 : FH h (h + 12) G66 G108 I62 I104 := FH_trans F12 Z13 (by omega)
  have Z11 : FH h (h + 11) G60 G108 I56 I104 := FH_trans F11 Z12 (by omega)
  have Z10 : FH h (h + 10) G54 G108 I50 I104 := FH_trans F10 Z11 (by omega)
  have Z9 : FH h (h + 9) G48 G108 I44 I104 := FH_trans F9 Z10 (by omega)
  have Z8 : FH h (h + 8) G42 G108 I38 I104 := FH_trans F8 Z9 (by omega)
  have Z7 : FH h (h + 7) G36 G108 I32 I104 := FH_trans F7 Z8 (by omega)
  have Z6 : FH h (h + 6) G30 G108 I26 I104 := FH_trans F6 Z7 (by omega)
  have Z5 : FH h (h + 5) G24 G108 I20 I104 := FH_trans F5 Z6 (by omega)
  have Z4 : FH h (h + 4) G18 G108 I14 I104 := FH_trans F4 Z5 (by omega)
  have Z3 : FH h (h + 3) G12 G108 I8 I104 := FH_trans F3 Z4 (by omega)
  have Z2 : FH h (h + 2) G6 G108 I2 I104 := FH_trans F2 Z3 (by omega)
  have Z1 : FH h (h + 1) G G108 I I104 := FH_trans F1 Z2 (by omega)
  have q0 := H18.2.1 (0, 1, 11, 4096) (by decide)
  refine ⟨H18.1, fun r er => ⟨h + 1, er.trans q0.1, 4096, q0.2, vp_in_nI (n := 6) (by decide) (by decide), fun J eJ => ?_⟩⟩
  have u : ∀ b, b ≠ h + 1 → J b = I104 b := fun b hb => by rw [eJ]; exact up2_ne hb
  refine K G108 J _ ⟨H18.1, H18.2.1⟩ H18.2.2.1 H18.2.2.2 (fun b hb => ⟨(Z1 b (by omega)).1, (Z1 b (by omega)).2.1, (u b (by omega)).trans (Z1 b (by omega)).2.2⟩) (fun j => ?_) (fun j => ?_)
  · rw [eJ, up2_row, (Z2 (h + 1) (by omega)).2.2, z1 j]
  · rw [u _ (by omega), (Z3 (h + 2) (by omega)).2.2]
    exact z2 j
end
