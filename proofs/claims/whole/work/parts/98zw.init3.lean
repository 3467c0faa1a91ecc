/-! the class's constructor -/
theorem hd_subz {G G1 : GG} {I I1 : Nat → Nat → Int32} {L L1 : Nat → Nat → Int64} {h d c : Nat} {sh : Nat × Nat} {tb : List (Nat × Nat × Nat × Nat)} (H : HDn c tb d h G) (e : (G1, I1, L1) = mNew (G, I, L) sh) : ∀ b, h + d + 1 ≤ b → G1.1 b = none := fun b hb => by
  rw [(nw_obj e H.2.2.1).2.2.1 b (by omega)]
  exact H.2.2.2 b (by omega)
section
variable {X : XX} {G : GG} {I : Nat → Nat → Int32} {L : Nat → Nat → Int64} {h : Nat} {Q : GG → (Nat → Nat → Int32) → (Nat → Nat → Int64) → Prop}
theorem cs_newDeaf (H0 : HDn 8 [] 1 h G) (K : ∀ G' I' L', OK8 G' h → G'.2.2 = h + 68 → (∀ b, h + 68 ≤ b → G'.1 b = none) → (I' (h + 1) 1 = 0 ∧ I' (h + 1) 2 = 0 ∧ I' (h + 1) 3 = -1 ∧ (∀ j, I' (h + 2) j = 0) ∧ (∀ j, I' (h + 3) j = 0)) → (∀ j, G'.2.1 (h + 4) j = none ∧ G'.2.1 (h + 5) j = none ∧ G'.2.1 (h + 6) j = none ∧ G'.2.1 (h + 7) j = none) → G'.2.1 (h + 10) 3 = some (h + 17) → G'.2.1 (h + 10) 4 = some (h + 18) → Q G' I' L') : wgV X B8_init 0 [(0, .ref h)] [] G I L 0 0 Q := by
  refine b8_init H0.1 (fun G1 I2 L3 e1 => ?_)
  rw [H0.2.2.1]
  refine cs_newTold2 (hd_sub H0 e1).1 (hd_sub H0 e1).2 (hd_subz H0 e1) (fun G8 I5 L6 k1 k2 k3 k4 o6 ti tr => ?_)
  obtain ⟨a0, b0⟩ := hd_set (f := 0) (z := 6) H0 (by decide) (by decide) (by decide) e1 k1 k2 k3 k4
  clear k1 k2 k3 k4
  refine ⟨a0, fun G10 e10 G11 I12 L13 e11 => ?_⟩
  have t0 := b0 G10 e10
  obtain ⟨H1, F1, E1⟩ : HDn 8 [(0, 1, 6, 0)] 7 h G10 ∧ FH h (h + 1) G G10 I I5 ∧ FH h (h + 7) G8 G10 I5 I5 := t0
  refine ⟨hd_mid H1 (by decide) e11, fun G16 e16 G17 I18 L19 e17 => ?_⟩
  have t1 := hd_new H1 (by decide) (by decide) e11 e16
  obtain ⟨H2, F2, -, n2⟩ : HDn 8 [(0, 1, 6, 0), (1, 7, 15, 3)] 8 h G16 ∧ FH h (h + 7) G10 G16 I5 I12 ∧ (∀ j, I12 (h + 7) j = 0) ∧ (∀ j, G16.2.1 (h + 7) j = none) := t1
  rw [H2.2.2.1]
  refine cs_newReader (hd_sub H2 e17).1 (hd_sub H2 e17).2 (hd_subz H2 e17) (fun G24 I21 L22 k1 k2 k3 k4 o4 => ?_)
  obtain ⟨a2, b2⟩ := hd_set (f := 2) (z := 2) H2 (by decide) (by decide) (by decide) e17 k1 k2 k3 k4
  clear k1 k2 k3 k4
  refine ⟨a2, fun G26 e26 G27 I28 L29 e27 => ?_⟩
  have t2 := b2 G26 e26
  obtain ⟨H3, F3, E3⟩ : HDn 8 [(0, 1, 6, 0), (1, 7, 15, 3), (2, 8, 4, 0)] 10 h G26 ∧ FH h (h + 8) G16 G26 I12 I21 ∧ FH h (h + 10) G24 G26 I21 I21 := t2
  rw [H3.2.2.1]
  refine cs_newStand (hd_sub H3 e27).1 (hd_sub H3 e27).2 (hd_subz H3 e27) (fun G34 I31 L32 k1 k2 k3 k4 o5 r3 r4 => ?_)
  obtain ⟨a3, b3⟩ := hd_set (f := 3) (z := 14) H3 (by decide) (by decide) (by decide) e27 k1 k2 k3 k4
  clear k1 k2 k3 k4
  refine ⟨a3, fun G36 e36 G37 I38 L39 e37 => ?_⟩
  have t3 := b3 G36 e36
  obtain ⟨H4, F4, E4⟩ : HDn 8 [(0, 1, 6, 0), (1, 7, 15, 3), (2, 8, 4, 0), (3, 10, 5, 0)] 24 h G36 ∧ FH h (h + 10) G26 G36 I21 I31 ∧ FH h (h + 24) G34 G36 I31 I31 := t3
  rw [H4.2.2.1]
  refine cs_newEcho (hd_sub H4 e37).1 (hd_sub H4 e37).2 (hd_subz H4 e37) (fun G44 I41 L42 k1 k2 k3 k4 o1 => ?_)
  obtain ⟨a4, b4⟩ := hd_set (f := 4) (z := 23) H4 (by decide) (by decide) (by decide) e37 k1 k2 k3 k4
  clear k1 k2 k3 k4
  refine ⟨a4, fun G46 e46 G47 I48 L49 e47 => ?_⟩
  have t4 := b4 G46 e46
  obtain ⟨H5, F5, E5⟩ : HDn 8 [(0, 1, 6, 0), (1, 7, 15, 3), (2, 8, 4, 0), (3, 10, 5, 0), (4, 24, 1, 0)] 47 h G46 ∧ FH h (h + 24) G36 G46 I31 I41 ∧ FH h (h + 47) G44 G46 I41 I41 := t4
  rw [H5.2.2.1]
  refine cs_newPaths (hd_sub H5 e47).1 (hd_sub H5 e47).2 (hd_subz H5 e47) (fun G54 I51 L52 k1 k2 k3 k4 o3 => ?_)
  obtain ⟨a5, b5⟩ := hd_set (f := 5) (z := 11) H5 (by decide) (by decide) (by decide) e47 k1 k2 k3 k4
  clear k1 k2 k3 k4
  refine ⟨a5, fun G56 e56 G57 I58 L59 e57 => ?_⟩
  have t5 := b5 G56 e56
  obtain ⟨H6, F6, E6⟩ : HDn 8 [(0, 1, 6, 0), (1, 7, 15, 3), (2, 8, 4, 0), (3, 10, 5, 0), (4, 24, 1, 0), (5, 47, 3, 0)] 58 h G56 ∧ FH h (h + 47) G46 G56 I41 I51 ∧ FH h (h + 58) G54 G56 I51 I51 := t5
  refine ⟨hd_mid H6 (by decide) e57, fun G62 e62 G63 I64 L65 e63 => ?_⟩
  have t6 := hd_new H6 (by decide) (by decide) e57 e62
  obtain ⟨H7, F7, -, n7⟩ : HDn 8 [(0, 1, 6, 0), (1, 7, 15, 3), (2, 8, 4, 0), (3, 10, 5, 0), (4, 24, 1, 0), (5, 47, 3, 0), (6, 58, 11, 6)] 59 h G62 ∧ FH h (h + 58) G56 G62 I51 I58 ∧ (∀ j, I58 (h + 58) j = 0) ∧ (∀ j, G62.2.1 (h + 58) j = none) := t6
  refine ⟨hd_mid H7 (by decide) e63, fun G68 e68 G69 I70 L71 e69 => ?_⟩
  have t7 := hd_new H7 (by decide) (by decide) e63 e68
  obtain ⟨H8, F8, -, n8⟩ : HDn 8 [(0, 1, 6, 0), (1, 7, 15, 3), (2, 8, 4, 0), (3, 10, 5, 0), (4, 24, 1, 0), (5, 47, 3, 0), (6, 58, 11, 6), (7, 59, 11, 256)] 60 h G68 ∧ FH h (h + 59) G62 G68 I58 I64 ∧ (∀ j, I64 (h + 59) j = 0) ∧ (∀ j, G68.2.1 (h + 59) j = none) := t7
  refine ⟨hd_mid H8 (by decide) e69, fun G74 e74 G75 I76 L77 e75 => ?_⟩
  have t8 := hd_new H8 (by decide) (by decide) e69 e74
  obtain ⟨H9, F9, -, n9⟩ : HDn 8 [(0, 1, 6, 0), (1, 7, 15, 3), (2, 8, 4, 0), (3, 10, 5, 0), (4, 24, 1, 0), (5, 47, 3, 0), (6, 58, 11, 6), (7, 59, 11, 256), (8, 60, 11, 20)] 61 h G74 ∧ FH h (h + 60) G68 G74 I64 I70 ∧ (∀ j, I70 (h + 60) j = 0) ∧ (∀ j, G74.2.1 (h + 60) j = none) := t8
  refine ⟨hd_mid H9 (by decide) e75, fun G80 e80 G81 I82 L83 e81 => ?_⟩
  have t9 := hd_new H9 (by decide) (by decide) e75 e80
  obtain ⟨H10, F10, -, n10⟩ : HDn 8 [(0, 1, 6, 0), (1, 7, 15, 3), (2, 8, 4, 0), (3, 10, 5, 0), (4, 24, 1, 0), (5, 47, 3, 0), (6, 58, 11, 6), (7, 59, 11, 256), (8, 60, 11, 20), (9, 61, 11, 120)] 62 h G80 ∧ FH h (h + 61) G74 G80 I70 I76 ∧ (∀ j, I76 (h + 61) j = 0) ∧ (∀ j, G80.2.1 (h + 61) j = none) := t9
  refine ⟨hd_mid H10 (by decide) e81, fun G86 e86 G87 I88 L89 e87 => ?_⟩
  have t10 := hd_new H10 (by decide) (by decide) e81 e86
  obtain ⟨H11, F11, -, n11⟩ : HDn 8 [(0, 1, 6, 0), (1, 7, 15, 3), (2, 8, 4, 0), (3, 10, 5, 0), (4, 24, 1, 0), (5, 47, 3, 0), (6, 58, 11, 6), (7, 59, 11, 256), (8, 60, 11, 20), (9, 61, 11, 120), (10, 62, 11, 256)] 63 h G86 ∧ FH h (h + 62) G80 G86 I76 I82 ∧ (∀ j, I82 (h + 62) j = 0) ∧ (∀ j, G86.2.1 (h + 62) j = none) := t10
  refine ⟨hd_mid H11 (by decide) e87, fun G92 e92 G93 I94 L95 e93 => ?_⟩
  have t11 := hd_new H11 (by decide) (by decide) e87 e92
  obtain ⟨H12, F12, -, n12⟩ : HDn 8 [(0, 1, 6, 0), (1, 7, 15, 3), (2, 8, 4, 0), (3, 10, 5, 0), (4, 24, 1, 0), (5, 47, 3, 0), (6, 58, 11, 6), (7, 59, 11, 256), (8, 60, 11, 20), (9, 61, 11, 120), (10, 62, 11, 256), (11, 63, 11, 4)] 64 h G92 ∧ FH h (h + 63) G86 G92 I82 I88 ∧ (∀ j, I88 (h + 63) j = 0) ∧ (∀ j, G92.2.1 (h + 63) j = none) := t11
  refine ⟨hd_mid H12 (by decide) e93, fun G98 e98 G99 I100 L101 e99 => ?_⟩
  have t12 := hd_new H12 (by decide) (by decide) e93 e98
  obtain ⟨H13, F13, -, n13⟩ : HDn 8 [(0, 1, 6, 0), (1, 7, 15, 3), (2, 8, 4, 0), (3, 10, 5, 0), (4, 24, 1, 0), (5, 47, 3, 0), (6, 58, 11, 6), (7, 59, 11, 256), (8, 60, 11, 20), (9, 61, 11, 120), (10, 62, 11, 256), (11, 63, 11, 4), (12, 64, 11, 4)] 65 h G98 ∧ FH h (h + 64) G92 G98 I88 I94 ∧ (∀ j, I94 (h + 64) j = 0) ∧ (∀ j, G98.2.1 (h + 64) j = none) := t12
  refine ⟨hd_mid H13 (by decide) e99, fun G104 e104 G105 I106 L107 e105 => ?_⟩
  have t13 := hd_new H13 (by decide) (by decide) e99 e104
  obtain ⟨H14, F14, -, n14⟩ : HDn 8 [(0, 1, 6, 0), (1, 7, 15, 3), (2, 8, 4, 0), (3, 10, 5, 0), (4, 24, 1, 0), (5, 47, 3, 0), (6, 58, 11, 6), (7, 59, 11, 256), (8, 60, 11, 20), (9, 61, 11, 120), (10, 62, 11, 256), (11, 63, 11, 4), (12, 64, 11, 4), (13, 65, 12, 10)] 66 h G104 ∧ FH h (h + 65) G98 G104 I94 I100 ∧ (∀ j, I100 (h + 65) j = 0) ∧ (∀ j, G104.2.1 (h + 65) j = none) := t13
  refine ⟨hd_mid H14 (by decide) e105, fun G110 e110 G111 I112 L113 e111 => ?_⟩
  have t14 := hd_new H14 (by decide) (by decide) e105 e110
  obtain ⟨H15, F15, -, n15⟩ : HDn 8 [(0, 1, 6, 0), (1, 7, 15, 3), (2, 8, 4, 0), (3, 10, 5, 0), (4, 24, 1, 0), (5, 47, 3, 0), (6, 58, 11, 6), (7, 59, 11, 256), (8, 60, 11, 20), (9, 61, 11, 120), (10, 62, 11, 256), (11, 63, 11, 4), (12, 64, 11, 4), (13, 65, 12, 10), (14, 66, 12, 21)] 67 h G110 ∧ FH h (h + 66) G104 G110 I100 I106 ∧ (∀ j, I106 (h + 66) j = 0) ∧ (∀ j, G110.2.1 (h + 66) j = none) := t14
  refine ⟨hd_mid H15 (by decide) e111, fun G116 e116 => ?_⟩
  have t15 := hd_new H15 (by decide) (by decide) e111 e116
  obtain ⟨H16, F16, -, n16⟩ : HDn 8 [(0, 1, 6, 0), (1, 7, 15, 3), (2, 8, 4, 0), (3, 10, 5, 0), (4, 24, 1, 0), (5, 47, 3, 0), (6, 58, 11, 6), (7, 59, 11, 256), (8, 60, 11, 20), (9, 61, 11, 120), (10, 62, 11, 256), (11, 63, 11, 4), (12, 64, 11, 4), (13, 65, 12, 10), (14, 66, 12, 21), (15, 67, 11, 128)] 68 h G116 ∧ FH h (h + 67) G110 G116 I106 I112 ∧ (∀ j, I112 (h + 67) j = 0) ∧ (∀ j, G116.2.1 (h + 67) j = none) := t15
  have Z16 : FH h (h + 67) G110 G116 I106 I112 := F16
  have Z15 : FH h (h + 66) G104 G116 I100 I112 := FH_trans F15 Z16 (by omega)
  have Z14 : FH h (h + 65) G98 G116 I94 I112 := FH_trans F14 Z15 (by omega)
  have Z13 : FH h (h + 64) G92 G116 I88 I112 := FH_trans F13 Z14 (by omega)
  have Z12 : FH h (h + 63) G86 G116 I82 I112 := FH_trans F12 Z13 (by omega)
  have Z11 : FH h (h + 62) G80 G116 I76 I112 := FH_trans F11 Z12 (by omega)
  have Z10 : FH h (h + 61) G74 G116 I70 I112 := FH_trans F10 Z11 (by omega)
  have Z9 : FH h (h + 60) G68 G116 I64 I112 := FH_trans F9 Z10 (by omega)
  have Z8 : FH h (h + 59) G62 G116 I58 I112 := FH_trans F8 Z9 (by omega)
  have Z7 : FH h (h + 58) G56 G116 I51 I112 := FH_trans F7 Z8 (by omega)
  have Z6 : FH h (h + 47) G46 G116 I41 I112 := FH_trans F6 Z7 (by omega)
  have Z5 : FH h (h + 24) G36 G116 I31 I112 := FH_trans F5 Z6 (by omega)
  have Z4 : FH h (h + 10) G26 G116 I21 I112 := FH_trans F4 Z5 (by omega)
  have Z3 : FH h (h + 8) G16 G116 I12 I112 := FH_trans F3 Z4 (by omega)
  have Z2 : FH h (h + 7) G10 G116 I5 I112 := FH_trans F2 Z3 (by omega)
  have Y1 : FH h (h + 7) G8 G116 I5 I112 := FH_trans E1 Z2 (by omega)
  have Y3 : FH h (h + 10) G24 G116 I21 I112 := FH_trans E3 Z4 (by omega)
  have Y4 : FH h (h + 24) G34 G116 I31 I112 := FH_trans E4 Z5 (by omega)
  have Y5 : FH h (h + 47) G44 G116 I41 I112 := FH_trans E5 Z6 (by omega)
  have Y6 : FH h (h + 58) G54 G116 I51 I112 := FH_trans E6 Z7 (by omega)
  have o8 : OK8 G116 h := ⟨H16.1, H16.2.1, ok6_FH o6 Y1 (by omega) (by omega), ok4_FH o4 Y3 (by omega), ok5_FH o5 Y4 (by omega) (by omega), ok1_FH o1 Y5 (by omega) (by omega) (by omega), ok3_FH o3 Y6 (by omega) (by omega) (by omega)⟩
  obtain ⟨i1, i2, i3, i4, i5⟩ := ti
  have y1 := (Y1 (h + 1) (by omega)).2.2
  have y2 := (Y1 (h + 2) (by omega)).2.2
  have y3 := (Y1 (h + 3) (by omega)).2.2
  have w4 := (Y1 (h + 4) (by omega)).2.1 (by omega)
  have w5 := (Y1 (h + 5) (by omega)).2.1 (by omega)
  have w6 := (Y1 (h + 6) (by omega)).2.1 (by omega)
  have w7 := (Z3 (h + 7) (by omega)).2.1 (by omega)
  have w10 := (Y4 (h + 10) (by omega)).2.1 (by omega)
  exact K G116 I112 _ o8 H16.2.2.1 H16.2.2.2 ⟨by rw [y1]; exact i1, by rw [y1]; exact i2, by rw [y1]; exact i3, fun j => by rw [y2]; exact i4 j, fun j => by rw [y3]; exact i5 j⟩ (fun j => ⟨by rw [w4]; exact (tr j).1, by rw [w5]; exact (tr j).2.1, by rw [w6]; exact (tr j).2.2, by rw [w7]; exact n2 j⟩) (by rw [w10]; exact r3) (by rw [w10]; exact r4)
end
