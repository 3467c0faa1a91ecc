/-! java/util/Arrays.fill([II)V -/
set_option maxRecDepth 20000 in
theorem b18_fillI {X : XX} {G : GG} {I : Nat → Nat → Int32} {L : Nat → Nat → Int64} {a0 : Nat} {n0 : Nat} {x1 : Int32} {Q : (Nat → Nat → Int32) → (Nat → Nat → Int64) → Prop} (s0 : G.1 a0 = some (11, n0)) (H : ∀ u1, u1 = (Int32.ofNat n0) → wpV X B18_fillI 5 [(0, .ref a0), (1, .int x1), (2, .int 0), (3, .int u1)] [] G I L Q) : wpV X B18_fillI 0 [(0, .ref a0), (1, .int x1)] [] G I L Q := by
  refine wp_iconst (z := 0) (v := 0) (by decide +kernel) (by decide) ?_
  refine wp_istore_n (z := 2) (i := 2) (lv' := [(2, .int 0), (0, .ref a0), (1, .int x1)]) (by decide +kernel) rfl (by decide) rfl ?_
  refine wp_aload_n (z := 0) (i := 0) (r := (some a0)) 1 (by decide +kernel) rfl rfl ?_
  refine wp_alen (v := (Int32.ofNat n0)) (by decide +kernel) s0 (by decide) rfl ?_
  refine wp_topi (fun u1 eu1 => ?_)
  replace H := H u1 eu1
  refine wp_istore_n (z := 3) (i := 3) (lv' := [(3, .int u1), (2, .int 0), (0, .ref a0), (1, .int x1)]) (by decide +kernel) rfl (by decide) rfl ?_
  exact wp_sub [2, 3, 1, 0] rfl H
set_option maxRecDepth 20000 in
theorem b18_fillI_5 {X : XX} {G : GG} {I : Nat → Nat → Int32} {L : Nat → Nat → Int64} {a0 : Nat} {n0 : Nat} {x1 : Int32} {x2 : Int32} {x3 : Int32} {Q : (Nat → Nat → Int32) → (Nat → Nat → Int64) → Prop} (s0 : G.1 a0 = some (11, n0)) (H : if x3 ≤ x2 then (Q I L) else (vp_in x2 n0 ∧ (∀ I2, I2 = up2 I a0 (cl x2) x1 → wpV X B18_fillI 5 [(0, .ref a0), (1, .int x1), (2, .int (x2 + 1)), (3, .int x3)] [] G I2 L Q))) : wpV X B18_fillI 5 [(0, .ref a0), (1, .int x1), (2, .int x2), (3, .int x3)] [] G I L Q := by
  refine wp_iload_n (z := 2) (i := 2) (x := x2) 2 (by decide +kernel) rfl rfl ?_
  refine wp_iload_n (z := 3) (i := 3) (x := x3) 3 (by decide +kernel) rfl rfl ?_
  refine wp_icmp_ge (off := 13) (tgt := 20) (by decide +kernel) (by decide) (fun c1 => ?_) (fun c1 => ?_)
  · rw [if_pos c1] at H
    exact wp_vret (by decide +kernel) rfl (Nat.zero_le _) (Nat.zero_le _) ⟨_, _, rfl, rfl, H⟩
  · rw [if_neg c1] at H
    refine wp_aload_n (z := 0) (i := 0) (r := (some a0)) 0 (by decide +kernel) rfl rfl ?_
    refine wp_iload_n (z := 2) (i := 2) (x := x2) 2 (by decide +kernel) rfl rfl ?_
    refine wp_iload_n (z := 1) (i := 1) (x := x1) 1 (by decide +kernel) rfl rfl ?_
    obtain ⟨o3, H⟩ := H
    refine wp_iast (j := (cl x2)) (by decide +kernel) s0 o3 rfl ?_
    refine wp_memI (fun I2 eI2 => ?_)
    replace H := H I2 eI2
    refine wp_iinc (i := 2) (z := 1) (v := 1) (lv' := [(2, .int (x2 + 1)), (0, .ref a0), (1, .int x1), (3, .int x3)]) 2 (by decide +kernel) rfl (by decide) (by decide) rfl ?_
    refine wp_goto (off := -12) (tgt := 5) (by decide +kernel) (by decide) ?_
    exact wp_sub [1, 2, 0, 3] rfl H
/-! java/util/Arrays.fill([JJ)V -/
set_option maxRecDepth 20000 in
theorem b18_fillJ {X : XX} {G : GG} {I : Nat → Nat → Int32} {L : Nat → Nat → Int64} {a0 : Nat} {n0 : Nat} {x1 : Int64} {Q : (Nat → Nat → Int32) → (Nat → Nat → Int64) → Prop} (s0 : G.1 a0 = some (12, n0)) (H : ∀ u1, u1 = (Int32.ofNat n0) → wpV X B18_fillJ 6 [(0, .ref a0), (1, .long x1), (3, .int 0), (4, .int u1)] [] G I L Q) : wpV X B18_fillJ 0 [(0, .ref a0), (1, .long x1)] [] G I L Q := by
  refine wp_iconst (z := 0) (v := 0) (by decide +kernel) (by decide) ?_
  refine wp_istore_n (z := 3) (i := 3) (lv' := [(3, .int 0), (0, .ref a0), (1, .long x1)]) (by decide +kernel) rfl (by decide) rfl ?_
  refine wp_aload_n (z := 0) (i := 0) (r := (some a0)) 1 (by decide +kernel) rfl rfl ?_
  refine wp_alen (v := (Int32.ofNat n0)) (by decide +kernel) s0 (by decide) rfl ?_
  refine wp_topi (fun u1 eu1 => ?_)
  replace H := H u1 eu1
  refine wp_istore (i := 4) (lv' := [(4, .int u1), (3, .int 0), (0, .ref a0), (1, .long x1)]) (by decide +kernel) (by decide) rfl ?_
  exact wp_sub [2, 3, 1, 0] rfl H
set_option maxRecDepth 20000 in
theorem b18_fillJ_6 {X : XX} {G : GG} {I : Nat → Nat → Int32} {L : Nat → Nat → Int64} {a0 : Nat} {n0 : Nat} {x1 : Int64} {x3 : Int32} {x4 : Int32} {Q : (Nat → Nat → Int32) → (Nat → Nat → Int64) → Prop} (s0 : G.1 a0 = some (12, n0)) (H : if x4 ≤ x3 then (Q I L) else (vp_in x3 n0 ∧ (∀ L2, L2 = up2 L a0 (cl x3) x1 → wpV X B18_fillJ 6 [(0, .ref a0), (1, .long x1), (3, .int (x3 + 1)), (4, .int x4)] [] G I L2 Q))) : wpV X B18_fillJ 6 [(0, .ref a0), (1, .long x1), (3, .int x3), (4, .int x4)] [] G I L Q := by
  refine wp_iload_n (z := 3) (i := 3) (x := x3) 2 (by decide +kernel) rfl rfl ?_
  refine wp_iload (i := 4) (x := x4) 3 (by decide +kernel) rfl ?_
  refine wp_icmp_ge (off := 13) (tgt := 22) (by decide +kernel) (by decide) (fun c1 => ?_) (fun c1 => ?_)
  · rw [if_pos c1] at H
    exact wp_vret (by decide +kernel) rfl (Nat.zero_le _) (Nat.zero_le _) ⟨_, _, rfl, rfl, H⟩
  · rw [if_neg c1] at H
    refine wp_aload_n (z := 0) (i := 0) (r := (some a0)) 0 (by decide +kernel) rfl rfl ?_
    refine wp_iload_n (z := 3) (i := 3) (x := x3) 2 (by decide +kernel) rfl rfl ?_
    refine wp_lload_n (z := 1) (i := 1) (x := x1) 1 (by decide +kernel) rfl rfl ?_
    obtain ⟨o3, H⟩ := H
    refine wp_last (j := (cl x3)) (by decide +kernel) s0 o3 rfl ?_
    refine wp_memL (fun L2 eL2 => ?_)
    replace H := H L2 eL2
    refine wp_iinc (i := 3) (z := 1) (v := 1) (lv' := [(3, .int (x3 + 1)), (0, .ref a0), (1, .long x1), (4, .int x4)]) 2 (by decide +kernel) rfl (by decide) (by decide) rfl ?_
    refine wp_goto (off := -13) (tgt := 6) (by decide +kernel) (by decide) ?_
    exact wp_sub [1, 2, 0, 3] rfl H
/-! DeafWall$Told.<init>()V -/
set_option maxRecDepth 20000 in
theorem b6_init {X : XX} {G : GG} {I : Nat → Nat → Int32} {L : Nat → Nat → Int64} {h : Nat} {Q : GG → (Nat → Nat → Int32) → (Nat → Nat → Int64) → Prop} (ok : G.1 h = some (6, 0)) (H : ∀ G1 I2 L3, (G1, I2, L3) = mNew (G, I, L) (10, 600) → G1.1 h = some (6, 0) ∧ (∀ G6, G6 = (G1.1, up2 G1.2.1 h 0 (some G.2.2), G1.2.2) → G6.1 h = some (6, 0) ∧ (∀ I8, I8 = up2 I2 h 1 0 → ∀ I9, I9 = up2 I8 h 2 0 → ∀ I10, I10 = up2 I9 h 3 (-1) → ∀ G11 I12 L13, (G11, I12, L13) = mNew (G6, I10, L3) (11, 3) → G11.1 h = some (6, 0) ∧ (∀ G16, G16 = (G11.1, up2 G11.2.1 h 4 (some G6.2.2), G11.2.2) → ∀ G17 I18 L19, (G17, I18, L19) = mNew (G16, I12, L13) (16, 2) → G17.1 h = some (6, 0) ∧ (∀ G22, G22 = (G17.1, up2 G17.2.1 h 5 (some G16.2.2), G17.2.2) → ∀ G23 I24 L25, (G23, I24, L25) = mNew (G22, I18, L19) (14, 2) → G23.1 h = some (6, 0) ∧ (∀ G28, G28 = (G23.1, up2 G23.2.1 h 6 (some G22.2.2), G23.2.2) → ∀ G29 I30 L31, (G29, I30, L31) = mNew (G28, I24, L25) (14, 2) → G29.1 h = some (6, 0) ∧ (∀ G34, G34 = (G29.1, up2 G29.2.1 h 7 (some G28.2.2), G29.2.2) → Q G34 I30 L31))))))) : wgV X B6_init 0 [(0, .ref h)] [] G I L 0 0 Q := by
  refine wp_aload_n (z := 0) (i := 0) (r := (some h)) 0 (by decide +kernel) rfl rfl ?_
  refine wp_objInit (idx := 3) (by decide +kernel) (in_g (List.mem_of_getElem? (i := 149) (by decide +kernel)) rfl) (in_g (List.mem_of_getElem? (i := 142) (by decide +kernel)) rfl) (in_g (List.mem_of_getElem? (i := 143) (by decide +kernel)) (by decide +kernel)) (Nat.le_of_ble_eq_true rfl) (Nat.le_of_ble_eq_true rfl) ?_
  refine wp_aload_n (z := 0) (i := 0) (r := (some h)) 0 (by decide +kernel) rfl rfl ?_
  refine wp_sipush (z := 600) (v := 600) (by decide +kernel) (by decide) ?_
  refine wp_newB (N := 600) (by decide +kernel) (in_g (List.mem_of_getElem? (i := 187) (by decide +kernel)) rfl) (by decide) (by decide) (by decide) (Nat.le_of_ble_eq_true rfl) (Nat.le_of_ble_eq_true rfl) ?_
  refine wp_memM (fun G1 I2 L3 e4 => ?_)
  replace H := H G1 I2 L3 e4
  show wp X B6_init 10 [(0, .ref h)] [.ref G.2.2, .ref h] (G1, I2, L3) 1 600 _
  obtain ⟨f5, H⟩ := H
  refine wp_putFR (idx := 9) (r := (some G.2.2)) (by decide +kernel) fl6_9 rfl rfl rfl rfl f5 ?_
  refine wp_memG (fun G6 eG6 => ?_)
  replace H := H G6 eG6
  refine wp_aload_n (z := 0) (i := 0) (r := (some h)) 0 (by decide +kernel) rfl rfl ?_
  refine wp_iconst (z := 0) (v := 0) (by decide +kernel) (by decide) ?_
  obtain ⟨f7, H⟩ := H
  refine wp_putI (idx := 15) (by decide +kernel) fl6_15 rfl f7 ?_
  refine wp_memI (fun I8 eI8 => ?_)
  replace H := H I8 eI8
  refine wp_aload_n (z := 0) (i := 0) (r := (some h)) 0 (by decide +kernel) rfl rfl ?_
  refine wp_iconst (z := 0) (v := 0) (by decide +kernel) (by decide) ?_
  refine wp_putI (idx := 19) (by decide +kernel) fl6_19 rfl f7 ?_
  refine wp_memI (fun I9 eI9 => ?_)
  replace H := H I9 eI9
  refine wp_aload_n (z := 0) (i := 0) (r := (some h)) 0 (by decide +kernel) rfl rfl ?_
  refine wp_iconst (z := -1) (v := (-1)) (by decide +kernel) (by decide) ?_
  refine wp_putI (idx := 22) (by decide +kernel) fl6_22 rfl f7 ?_
  refine wp_memI (fun I10 eI10 => ?_)
  replace H := H I10 eI10
  refine wp_aload_n (z := 0) (i := 0) (r := (some h)) 0 (by decide +kernel) rfl rfl ?_
  refine wp_iconst (z := 3) (v := 3) (by decide +kernel) (by decide) ?_
  refine wp_newI (N := 3) (by decide +kernel) (in_g (List.mem_of_getElem? (i := 188) (by decide +kernel)) rfl) (by decide) (by decide) (by decide) (Nat.le_of_ble_eq_true rfl) (Nat.le_of_ble_eq_true rfl) ?_
  refine wp_memM (fun G11 I12 L13 e14 => ?_)
  replace H := H G11 I12 L13 e14
  show wp X B6_init 32 [(0, .ref h)] [.ref G6.2.2, .ref h] (G11, I12, L13) 2 603 _
  obtain ⟨f15, H⟩ := H
  refine wp_putFR (idx := 25) (r := (some G6.2.2)) (by decide +kernel) fl6_25 rfl rfl rfl rfl f15 ?_
  refine wp_memG (fun G16 eG16 => ?_)
  replace H := H G16 eG16
  refine wp_aload_n (z := 0) (i := 0) (r := (some h)) 0 (by decide +kernel) rfl rfl ?_
  refine wp_iconst (z := 2) (v := 2) (by decide +kernel) (by decide) ?_
  refine wp_anewa (idx := 29) (t := 16) (t0 := 6) (N := 2) (by decide +kernel) (in_g (List.mem_of_getElem? (i := 150) (by decide +kernel)) rfl) rfl (fun _ _ _ z9 => z9.2.2.2.2.2.1) (by decide) (by decide) (by decide) (by decide) (Nat.le_of_ble_eq_true rfl) (Nat.le_of_ble_eq_true rfl) ?_
  refine wp_memM (fun G17 I18 L19 e20 => ?_)
  replace H := H G17 I18 L19 e20
  show wp X B6_init 40 [(0, .ref h)] [.ref G16.2.2, .ref h] (G17, I18, L19) 3 605 _
  obtain ⟨f21, H⟩ := H
  refine wp_putFR (idx := 31) (r := (some G16.2.2)) (by decide +kernel) fl6_31 rfl rfl rfl rfl f21 ?_
  refine wp_memG (fun G22 eG22 => ?_)
  replace H := H G22 eG22
  refine wp_aload_n (z := 0) (i := 0) (r := (some h)) 0 (by decide +kernel) rfl rfl ?_
  refine wp_iconst (z := 2) (v := 2) (by decide +kernel) (by decide) ?_
  refine wp_anewa (idx := 35) (t := 14) (t0 := 4) (N := 2) (by decide +kernel) (in_g (List.mem_of_getElem? (i := 152) (by decide +kernel)) rfl) rfl (fun _ _ _ z9 => z9.2.2.2.2.2.2.1) (by decide) (by decide) (by decide) (by decide) (Nat.le_of_ble_eq_true rfl) (Nat.le_of_ble_eq_true rfl) ?_
  refine wp_memM (fun G23 I24 L25 e26 => ?_)
  replace H := H G23 I24 L25 e26
  show wp X B6_init 48 [(0, .ref h)] [.ref G22.2.2, .ref h] (G23, I24, L25) 4 607 _
  obtain ⟨f27, H⟩ := H
  refine wp_putFR (idx := 37) (r := (some G22.2.2)) (by decide +kernel) fl6_37 rfl rfl rfl rfl f27 ?_
  refine wp_memG (fun G28 eG28 => ?_)
  replace H := H G28 eG28
  refine wp_aload_n (z := 0) (i := 0) (r := (some h)) 0 (by decide +kernel) rfl rfl ?_
  refine wp_iconst (z := 2) (v := 2) (by decide +kernel) (by decide) ?_
  refine wp_anewa (idx := 35) (t := 14) (t0 := 4) (N := 2) (by decide +kernel) (in_g (List.mem_of_getElem? (i := 152) (by decide +kernel)) rfl) rfl (fun _ _ _ z9 => z9.2.2.2.2.2.2.1) (by decide) (by decide) (by decide) (by decide) (Nat.le_of_ble_eq_true rfl) (Nat.le_of_ble_eq_true rfl) ?_
  refine wp_memM (fun G29 I30 L31 e32 => ?_)
  replace H := H G29 I30 L31 e32
  show wp X B6_init 56 [(0, .ref h)] [.ref G28.2.2, .ref h] (G29, I30, L31) 5 609 _
  obtain ⟨f33, H⟩ := H
  refine wp_putFR (idx := 41) (r := (some G28.2.2)) (by decide +kernel) fl6_41 rfl rfl rfl rfl f33 ?_
  refine wp_memG (fun G34 eG34 => ?_)
  replace H := H G34 eG34
  exact wp_vret (by decide +kernel) rfl (Nat.le_of_ble_eq_true rfl) (Nat.le_of_ble_eq_true rfl) ⟨rfl, H⟩
/-! DeafWall$Reader.<init>()V -/
set_option maxRecDepth 20000 in
theorem b4_init {X : XX} {G : GG} {I : Nat → Nat → Int32} {L : Nat → Nat → Int64} {h : Nat} {Q : GG → (Nat → Nat → Int32) → (Nat → Nat → Int64) → Prop} (ok : G.1 h = some (4, 0)) (H : ∀ G1 I2 L3, (G1, I2, L3) = mNew (G, I, L) (10, 0) → G1.1 h = some (4, 0) ∧ (∀ G6, G6 = (G1.1, up2 G1.2.1 h 4 (some G.2.2), G1.2.2) → Q G6 I2 L3)) : wgV X B4_init 0 [(0, .ref h)] [] G I L 0 0 Q := by
  refine wp_aload_n (z := 0) (i := 0) (r := (some h)) 0 (by decide +kernel) rfl rfl ?_
  refine wp_objInit (idx := 3) (by decide +kernel) (in_g (List.mem_of_getElem? (i := 195) (by decide +kernel)) rfl) (in_g (List.mem_of_getElem? (i := 142) (by decide +kernel)) rfl) (in_g (List.mem_of_getElem? (i := 143) (by decide +kernel)) (by decide +kernel)) (Nat.le_of_ble_eq_true rfl) (Nat.le_of_ble_eq_true rfl) ?_
  refine wp_aload_n (z := 0) (i := 0) (r := (some h)) 0 (by decide +kernel) rfl rfl ?_
  refine wp_iconst (z := 0) (v := 0) (by decide +kernel) (by decide) ?_
  refine wp_newB (N := 0) (by decide +kernel) (in_g (List.mem_of_getElem? (i := 187) (by decide +kernel)) rfl) (by decide) (by decide) (by decide) (Nat.le_of_ble_eq_true rfl) (Nat.le_of_ble_eq_true rfl) ?_
  refine wp_memM (fun G1 I2 L3 e4 => ?_)
  replace H := H G1 I2 L3 e4
  show wp X B4_init 8 [(0, .ref h)] [.ref G.2.2, .ref h] (G1, I2, L3) 1 0 _
  obtain ⟨f5, H⟩ := H
  refine wp_putR (idx := 9) (r := (some G.2.2)) (by decide +kernel) fl4_9 rfl rfl f5 ?_
  refine wp_memG (fun G6 eG6 => ?_)
  replace H := H G6 eG6
  exact wp_vret (by decide +kernel) rfl (Nat.le_of_ble_eq_true rfl) (Nat.le_of_ble_eq_true rfl) ⟨rfl, H⟩
/-! DeafWall$Wall.<init>()V -/
set_option maxRecDepth 20000 in
theorem b7_init {X : XX} {G : GG} {I : Nat → Nat → Int32} {L : Nat → Nat → Int64} {h : Nat} {Q : GG → (Nat → Nat → Int32) → (Nat → Nat → Int64) → Prop} (ok : G.1 h = some (7, 0)) (H : ∀ I1, I1 = up2 I h 0 3 → ∀ I2, I2 = up2 I1 h 1 2 → ∀ I3, I3 = up2 I2 h 2 0 → ∀ G4 I5 L6, (G4, I5, L6) = mNew (G, I3, L) (11, 32) → G4.1 h = some (7, 0) ∧ (∀ G9, G9 = (G4.1, up2 G4.2.1 h 3 (some G.2.2), G4.2.2) → G9.1 h = some (7, 0) ∧ (∀ I11, I11 = up2 I5 h 4 0 → ∀ G12 I13 L14, (G12, I13, L14) = mNew (G9, I11, L6) (11, 6) → G12.1 h = some (7, 0) ∧ (∀ G17, G17 = (G12.1, up2 G12.2.1 h 5 (some G9.2.2), G12.2.2) → ∀ G18 I19 L20, (G18, I19, L20) = mNew (G17, I13, L14) (11, 6) → G18.1 h = some (7, 0) ∧ (∀ G23, G23 = (G18.1, up2 G18.2.1 h 6 (some G17.2.2), G18.2.2) → G23.1 h = some (7, 0) ∧ (∀ I25, I25 = up2 I19 h 7 0 → ∀ G26 I27 L28, (G26, I27, L28) = mNew (G23, I25, L20) (11, 6) → G26.1 h = some (7, 0) ∧ (∀ G31, G31 = (G26.1, up2 G26.2.1 h 8 (some G23.2.2), G26.2.2) → ∀ G32 I33 L34, (G32, I33, L34) = mNew (G31, I27, L28) (11, 6) → G32.1 h = some (7, 0) ∧ (∀ G37, G37 = (G32.1, up2 G32.2.1 h 9 (some G31.2.2), G32.2.2) → G37.1 h = some (7, 0) ∧ (∀ r39, r39 = G37.2.1 h 3 → ∃ q40, r39 = some q40 ∧ (wpV X B18_fillI 0 [(0, .ref q40), (1, .int 2)] [] G37 I33 L34 (fun I42 L43 => Q G37 I42 L43))))))))))) : wgV X B7_init 0 [(0, .ref h)] [] G I L 0 0 Q := by
  refine wp_aload_n (z := 0) (i := 0) (r := (some h)) 0 (by decide +kernel) rfl rfl ?_
  refine wp_objInit (idx := 3) (by decide +kernel) (in_g (List.mem_of_getElem? (i := 257) (by decide +kernel)) rfl) (in_g (List.mem_of_getElem? (i := 142) (by decide +kernel)) rfl) (in_g (List.mem_of_getElem? (i := 143) (by decide +kernel)) (by decide +kernel)) (Nat.le_of_ble_eq_true rfl) (Nat.le_of_ble_eq_true rfl) ?_
  refine wp_aload_n (z := 0) (i := 0) (r := (some h)) 0 (by decide +kernel) rfl rfl ?_
  refine wp_iconst (z := 3) (v := 3) (by decide +kernel) (by decide) ?_
  refine wp_putI (idx := 9) (by decide +kernel) fl7_9 rfl ok ?_
  refine wp_memI (fun I1 eI1 => ?_)
  replace H := H I1 eI1
  refine wp_aload_n (z := 0) (i := 0) (r := (some h)) 0 (by decide +kernel) rfl rfl ?_
  refine wp_iconst (z := 2) (v := 2) (by decide +kernel) (by decide) ?_
  refine wp_putI (idx := 15) (by decide +kernel) fl7_15 rfl ok ?_
  refine wp_memI (fun I2 eI2 => ?_)
  replace H := H I2 eI2
  refine wp_aload_n (z := 0) (i := 0) (r := (some h)) 0 (by decide +kernel) rfl rfl ?_
  refine wp_iconst (z := 0) (v := 0) (by decide +kernel) (by decide) ?_
  refine wp_putI (idx := 18) (by decide +kernel) fl7_18 rfl ok ?_
  refine wp_memI (fun I3 eI3 => ?_)
  replace H := H I3 eI3
  refine wp_aload_n (z := 0) (i := 0) (r := (some h)) 0 (by decide +kernel) rfl rfl ?_
  refine wp_bipush (z := 32) (v := 32) (by decide +kernel) (by decide) ?_
  refine wp_newI (N := 32) (by decide +kernel) (in_g (List.mem_of_getElem? (i := 188) (by decide +kernel)) rfl) (by decide) (by decide) (by decide) (Nat.le_of_ble_eq_true rfl) (Nat.le_of_ble_eq_true rfl) ?_
  refine wp_memM (fun G4 I5 L6 e7 => ?_)
  replace H := H G4 I5 L6 e7
  show wp X B7_init 24 [(0, .ref h)] [.ref G.2.2, .ref h] (G4, I5, L6) 1 32 _
  obtain ⟨f8, H⟩ := H
  refine wp_putFR (idx := 21) (r := (some G.2.2)) (by decide +kernel) fl7_21 rfl rfl rfl rfl f8 ?_
  refine wp_memG (fun G9 eG9 => ?_)
  replace H := H G9 eG9
  refine wp_aload_n (z := 0) (i := 0) (r := (some h)) 0 (by decide +kernel) rfl rfl ?_
  refine wp_iconst (z := 0) (v := 0) (by decide +kernel) (by decide) ?_
  obtain ⟨f10, H⟩ := H
  refine wp_putI (idx := 25) (by decide +kernel) fl7_25 rfl f10 ?_
  refine wp_memI (fun I11 eI11 => ?_)
  replace H := H I11 eI11
  refine wp_aload_n (z := 0) (i := 0) (r := (some h)) 0 (by decide +kernel) rfl rfl ?_
  refine wp_bipush (z := 6) (v := 6) (by decide +kernel) (by decide) ?_
  refine wp_newI (N := 6) (by decide +kernel) (in_g (List.mem_of_getElem? (i := 188) (by decide +kernel)) rfl) (by decide) (by decide) (by decide) (Nat.le_of_ble_eq_true rfl) (Nat.le_of_ble_eq_true rfl) ?_
  refine wp_memM (fun G12 I13 L14 e15 => ?_)
  replace H := H G12 I13 L14 e15
  show wp X B7_init 37 [(0, .ref h)] [.ref G9.2.2, .ref h] (G12, I13, L14) 2 38 _
  obtain ⟨f16, H⟩ := H
  refine wp_putFR (idx := 28) (r := (some G9.2.2)) (by decide +kernel) fl7_28 rfl rfl rfl rfl f16 ?_
  refine wp_memG (fun G17 eG17 => ?_)
  replace H := H G17 eG17
  refine wp_aload_n (z := 0) (i := 0) (r := (some h)) 0 (by decide +kernel) rfl rfl ?_
  refine wp_bipush (z := 6) (v := 6) (by decide +kernel) (by decide) ?_
  refine wp_newI (N := 6) (by decide +kernel) (in_g (List.mem_of_getElem? (i := 188) (by decide +kernel)) rfl) (by decide) (by decide) (by decide) (Nat.le_of_ble_eq_true rfl) (Nat.le_of_ble_eq_true rfl) ?_
  refine wp_memM (fun G18 I19 L20 e21 => ?_)
  replace H := H G18 I19 L20 e21
  show wp X B7_init 45 [(0, .ref h)] [.ref G17.2.2, .ref h] (G18, I19, L20) 3 44 _
  obtain ⟨f22, H⟩ := H
  refine wp_putFR (idx := 31) (r := (some G17.2.2)) (by decide +kernel) fl7_31 rfl rfl rfl rfl f22 ?_
  refine wp_memG (fun G23 eG23 => ?_)
  replace H := H G23 eG23
  refine wp_aload_n (z := 0) (i := 0) (r := (some h)) 0 (by decide +kernel) rfl rfl ?_
  refine wp_iconst (z := 0) (v := 0) (by decide +kernel) (by decide) ?_
  obtain ⟨f24, H⟩ := H
  refine wp_putI (idx := 34) (by decide +kernel) fl7_34 rfl f24 ?_
  refine wp_memI (fun I25 eI25 => ?_)
  replace H := H I25 eI25
  refine wp_aload_n (z := 0) (i := 0) (r := (some h)) 0 (by decide +kernel) rfl rfl ?_
  refine wp_bipush (z := 6) (v := 6) (by decide +kernel) (by decide) ?_
  refine wp_newI (N := 6) (by decide +kernel) (in_g (List.mem_of_getElem? (i := 188) (by decide +kernel)) rfl) (by decide) (by decide) (by decide) (Nat.le_of_ble_eq_true rfl) (Nat.le_of_ble_eq_true rfl) ?_
  refine wp_memM (fun G26 I27 L28 e29 => ?_)
  replace H := H G26 I27 L28 e29
  show wp X B7_init 58 [(0, .ref h)] [.ref G23.2.2, .ref h] (G26, I27, L28) 4 50 _
  obtain ⟨f30, H⟩ := H
  refine wp_putFR (idx := 37) (r := (some G23.2.2)) (by decide +kernel) fl7_37 rfl rfl rfl rfl f30 ?_
  refine wp_memG (fun G31 eG31 => ?_)
  replace H := H G31 eG31
  refine wp_aload_n (z := 0) (i := 0) (r := (some h)) 0 (by decide +kernel) rfl rfl ?_
  refine wp_bipush (z := 6) (v := 6) (by decide +kernel) (by decide) ?_
  refine wp_newI (N := 6) (by decide +kernel) (in_g (List.mem_of_getElem? (i := 188) (by decide +kernel)) rfl) (by decide) (by decide) (by decide) (Nat.le_of_ble_eq_true rfl) (Nat.le_of_ble_eq_true rfl) ?_
  refine wp_memM (fun G32 I33 L34 e35 => ?_)
  replace H := H G32 I33 L34 e35
  show wp X B7_init 66 [(0, .ref h)] [.ref G31.2.2, .ref h] (G32, I33, L34) 5 56 _
  obtain ⟨f36, H⟩ := H
  refine wp_putFR (idx := 40) (r := (some G31.2.2)) (by decide +kernel) fl7_40 rfl rfl rfl rfl f36 ?_
  refine wp_memG (fun G37 eG37 => ?_)
  replace H := H G37 eG37
  refine wp_aload_n (z := 0) (i := 0) (r := (some h)) 0 (by decide +kernel) rfl rfl ?_
  obtain ⟨f38, H⟩ := H
  refine wp_getR (idx := 21) (by decide +kernel) fl7_21 rfl f38 ?_
  refine wp_topr (fun r39 er39 => ?_)
  replace H := H r39 er39
  refine wp_iconst (z := 2) (v := 2) (by decide +kernel) (by decide) ?_
  obtain ⟨q40, e41, H⟩ := H
  subst e41
  show wp X B7_init 74 [(0, .ref h)] [.int 2, .ref q40] (G37, I33, L34) 5 56 _
  refine wp_callS (idx := 43) (B2 := B18_fillI) (As := [.ref q40, .int 2]) (st := []) (by decide +kernel) m18_fillI ml7_43 k18_fillI (⟨Nat.le_of_ble_eq_true rfl, Nat.le_of_ble_eq_true rfl⟩ : rOK B7_init B18_fillI) rfl (Nat.le_of_ble_eq_true rfl) (Nat.le_of_ble_eq_true rfl) ⟨Nat.le_of_ble_eq_true rfl, Nat.le_of_ble_eq_true rfl⟩ rfl (wp_mono H (fun v9 M9 hq9 => ?_))
  clear H
  obtain ⟨I42, L43, rfl, rfl, H⟩ := hq9
  show wp X B7_init 77 [(0, .ref h)] [] (G37, I42, L43) 5 56 _
  exact wp_vret (by decide +kernel) rfl (Nat.le_of_ble_eq_true rfl) (Nat.le_of_ble_eq_true rfl) ⟨rfl, H⟩
/-! DeafWall$Stand.<init>()V -/
set_option maxRecDepth 20000 in
theorem b5_init {X : XX} {G : GG} {I : Nat → Nat → Int32} {L : Nat → Nat → Int64} {h : Nat} {Q : GG → (Nat → Nat → Int32) → (Nat → Nat → Int64) → Prop} (ok : G.1 h = some (5, 0)) (H : ∀ G1 I2 L3, (G1, I2, L3) = mNew (G, I, L) (7, 0) → wgV X B7_init 0 [(0, .ref G.2.2)] [] G1 I2 L3 0 0 (fun G8 I5 L6 => G8.1 h = some (5, 0) ∧ (∀ G10, G10 = (G8.1, up2 G8.2.1 h 0 (some G.2.2), G8.2.2) → ∀ G11 I12 L13, (G11, I12, L13) = mNew (G10, I5, L6) (11, 32) → G11.1 h = some (5, 0) ∧ (∀ G16, G16 = (G11.1, up2 G11.2.1 h 3 (some G10.2.2), G11.2.2) → ∀ G17 I18 L19, (G17, I18, L19) = mNew (G16, I12, L13) (11, 32) → G17.1 h = some (5, 0) ∧ (∀ G22, G22 = (G17.1, up2 G17.2.1 h 4 (some G16.2.2), G17.2.2) → ∀ G23 I24 L25, (G23, I24, L25) = mNew (G22, I18, L19) (11, 32) → G23.1 h = some (5, 0) ∧ (∀ G28, G28 = (G23.1, up2 G23.2.1 h 5 (some G22.2.2), G23.2.2) → ∀ G29 I30 L31, (G29, I30, L31) = mNew (G28, I24, L25) (11, 6) → G29.1 h = some (5, 0) ∧ (∀ G34, G34 = (G29.1, up2 G29.2.1 h 6 (some G28.2.2), G29.2.2) → ∀ G35 I36 L37, (G35, I36, L37) = mNew (G34, I30, L31) (11, 6) → G35.1 h = some (5, 0) ∧ (∀ G40, G40 = (G35.1, up2 G35.2.1 h 7 (some G34.2.2), G35.2.2) → ∀ G41 I42 L43, (G41, I42, L43) = mNew (G40, I36, L37) (11, 6) → G41.1 h = some (5, 0) ∧ (∀ G46, G46 = (G41.1, up2 G41.2.1 h 8 (some G40.2.2), G41.2.2) → ∀ G47 I48 L49, (G47, I48, L49) = mNew (G46, I42, L43) (11, 6) → G47.1 h = some (5, 0) ∧ (∀ G52, G52 = (G47.1, up2 G47.2.1 h 9 (some G46.2.2), G47.2.2) → Q G52 I48 L49)))))))))) : wgV X B5_init 0 [(0, .ref h)] [] G I L 0 0 Q := by
  refine wp_aload_n (z := 0) (i := 0) (r := (some h)) 0 (by decide +kernel) rfl rfl ?_
  refine wp_objInit (idx := 3) (by decide +kernel) (in_g (List.mem_of_getElem? (i := 251) (by decide +kernel)) rfl) (in_g (List.mem_of_getElem? (i := 142) (by decide +kernel)) rfl) (in_g (List.mem_of_getElem? (i := 143) (by decide +kernel)) (by decide +kernel)) (Nat.le_of_ble_eq_true rfl) (Nat.le_of_ble_eq_true rfl) ?_
  refine wp_aload_n (z := 0) (i := 0) (r := (some h)) 0 (by decide +kernel) rfl rfl ?_
  refine wp_new (idx := 9) (ci := 7) (by decide +kernel) ck7 dv7 (in_g (List.mem_of_getElem? (i := 252) (by decide +kernel)) rfl) (in_g (List.mem_of_getElem? (i := 253) (by decide +kernel)) rfl) (in_g (List.mem_of_getElem? (i := 122) (by decide +kernel)) rfl) (Nat.le_of_ble_eq_true rfl) (Nat.le_of_ble_eq_true rfl) ?_
  refine wp_memM (fun G1 I2 L3 e4 => ?_)
  replace H := H G1 I2 L3 e4
  show wp X B5_init 8 [(0, .ref h)] [.ref G.2.2, .ref h] (G1, I2, L3) 1 10 _
  refine wp_dup (by decide +kernel) rfl ?_
  refine wp_callI (idx := 11) (B2 := B7_init) (As := []) (a := G.2.2) (st := [.ref G.2.2, .ref h]) (by decide +kernel) m7_init ml5_11 k7_init rfl rfl (⟨Nat.le_of_ble_eq_true rfl, Nat.le_of_ble_eq_true rfl⟩ : rOK B5_init B7_init) rfl (Nat.le_of_ble_eq_true rfl) (Nat.le_of_ble_eq_true rfl) ⟨Nat.le_of_ble_eq_true rfl, Nat.le_of_ble_eq_true rfl⟩ rfl (wp_mono H (fun v9 M9 hq9 => ?_))
  clear H
  obtain ⟨G8, I5, L6⟩ := M9
  obtain ⟨rfl, H⟩ := hq9
  try dsimp only at H
  show wp X B5_init 12 [(0, .ref h)] [.ref G.2.2, .ref h] (G8, I5, L6) 6 66 _
  obtain ⟨f9, H⟩ := H
  refine wp_putR (idx := 12) (r := (some G.2.2)) (by decide +kernel) fl5_12 rfl rfl f9 ?_
  refine wp_memG (fun G10 eG10 => ?_)
  replace H := H G10 eG10
  refine wp_aload_n (z := 0) (i := 0) (r := (some h)) 0 (by decide +kernel) rfl rfl ?_
  refine wp_bipush (z := 32) (v := 32) (by decide +kernel) (by decide) ?_
  refine wp_newI (N := 32) (by decide +kernel) (in_g (List.mem_of_getElem? (i := 188) (by decide +kernel)) rfl) (by decide) (by decide) (by decide) (Nat.le_of_ble_eq_true rfl) (Nat.le_of_ble_eq_true rfl) ?_
  refine wp_memM (fun G11 I12 L13 e14 => ?_)
  replace H := H G11 I12 L13 e14
  show wp X B5_init 20 [(0, .ref h)] [.ref G10.2.2, .ref h] (G11, I12, L13) 7 98 _
  obtain ⟨f15, H⟩ := H
  refine wp_putR (idx := 18) (r := (some G10.2.2)) (by decide +kernel) fl5_18 rfl rfl f15 ?_
  refine wp_memG (fun G16 eG16 => ?_)
  replace H := H G16 eG16
  refine wp_aload_n (z := 0) (i := 0) (r := (some h)) 0 (by decide +kernel) rfl rfl ?_
  refine wp_bipush (z := 32) (v := 32) (by decide +kernel) (by decide) ?_
  refine wp_newI (N := 32) (by decide +kernel) (in_g (List.mem_of_getElem? (i := 188) (by decide +kernel)) rfl) (by decide) (by decide) (by decide) (Nat.le_of_ble_eq_true rfl) (Nat.le_of_ble_eq_true rfl) ?_
  refine wp_memM (fun G17 I18 L19 e20 => ?_)
  replace H := H G17 I18 L19 e20
  show wp X B5_init 28 [(0, .ref h)] [.ref G16.2.2, .ref h] (G17, I18, L19) 8 130 _
  obtain ⟨f21, H⟩ := H
  refine wp_putR (idx := 22) (r := (some G16.2.2)) (by decide +kernel) fl5_22 rfl rfl f21 ?_
  refine wp_memG (fun G22 eG22 => ?_)
  replace H := H G22 eG22
  refine wp_aload_n (z := 0) (i := 0) (r := (some h)) 0 (by decide +kernel) rfl rfl ?_
  refine wp_bipush (z := 32) (v := 32) (by decide +kernel) (by decide) ?_
  refine wp_newI (N := 32) (by decide +kernel) (in_g (List.mem_of_getElem? (i := 188) (by decide +kernel)) rfl) (by decide) (by decide) (by decide) (Nat.le_of_ble_eq_true rfl) (Nat.le_of_ble_eq_true rfl) ?_
  refine wp_memM (fun G23 I24 L25 e26 => ?_)
  replace H := H G23 I24 L25 e26
  show wp X B5_init 36 [(0, .ref h)] [.ref G22.2.2, .ref h] (G23, I24, L25) 9 162 _
  obtain ⟨f27, H⟩ := H
  refine wp_putFR (idx := 25) (r := (some G22.2.2)) (by decide +kernel) fl5_25 rfl rfl rfl rfl f27 ?_
  refine wp_memG (fun G28 eG28 => ?_)
  replace H := H G28 eG28
  refine wp_aload_n (z := 0) (i := 0) (r := (some h)) 0 (by decide +kernel) rfl rfl ?_
  refine wp_bipush (z := 6) (v := 6) (by decide +kernel) (by decide) ?_
  refine wp_newI (N := 6) (by decide +kernel) (in_g (List.mem_of_getElem? (i := 188) (by decide +kernel)) rfl) (by decide) (by decide) (by decide) (Nat.le_of_ble_eq_true rfl) (Nat.le_of_ble_eq_true rfl) ?_
  refine wp_memM (fun G29 I30 L31 e32 => ?_)
  replace H := H G29 I30 L31 e32
  show wp X B5_init 44 [(0, .ref h)] [.ref G28.2.2, .ref h] (G29, I30, L31) 10 168 _
  obtain ⟨f33, H⟩ := H
  refine wp_putFR (idx := 28) (r := (some G28.2.2)) (by decide +kernel) fl5_28 rfl rfl rfl rfl f33 ?_
  refine wp_memG (fun G34 eG34 => ?_)
  replace H := H G34 eG34
  refine wp_aload_n (z := 0) (i := 0) (r := (some h)) 0 (by decide +kernel) rfl rfl ?_
  refine wp_bipush (z := 6) (v := 6) (by decide +kernel) (by decide) ?_
  refine wp_newI (N := 6) (by decide +kernel) (in_g (List.mem_of_getElem? (i := 188) (by decide +kernel)) rfl) (by decide) (by decide) (by decide) (Nat.le_of_ble_eq_true rfl) (Nat.le_of_ble_eq_true rfl) ?_
  refine wp_memM (fun G35 I36 L37 e38 => ?_)
  replace H := H G35 I36 L37 e38
  show wp X B5_init 52 [(0, .ref h)] [.ref G34.2.2, .ref h] (G35, I36, L37) 11 174 _
  obtain ⟨f39, H⟩ := H
  refine wp_putFR (idx := 31) (r := (some G34.2.2)) (by decide +kernel) fl5_31 rfl rfl rfl rfl f39 ?_
  refine wp_memG (fun G40 eG40 => ?_)
  replace H := H G40 eG40
  refine wp_aload_n (z := 0) (i := 0) (r := (some h)) 0 (by decide +kernel) rfl rfl ?_
  refine wp_bipush (z := 6) (v := 6) (by decide +kernel) (by decide) ?_
  refine wp_newI (N := 6) (by decide +kernel) (in_g (List.mem_of_getElem? (i := 188) (by decide +kernel)) rfl) (by decide) (by decide) (by decide) (Nat.le_of_ble_eq_true rfl) (Nat.le_of_ble_eq_true rfl) ?_
  refine wp_memM (fun G41 I42 L43 e44 => ?_)
  replace H := H G41 I42 L43 e44
  show wp X B5_init 60 [(0, .ref h)] [.ref G40.2.2, .ref h] (G41, I42, L43) 12 180 _
  obtain ⟨f45, H⟩ := H
  refine wp_putFR (idx := 34) (r := (some G40.2.2)) (by decide +kernel) fl5_34 rfl rfl rfl rfl f45 ?_
  refine wp_memG (fun G46 eG46 => ?_)
  replace H := H G46 eG46
  refine wp_aload_n (z := 0) (i := 0) (r := (some h)) 0 (by decide +kernel) rfl rfl ?_
  refine wp_bipush (z := 6) (v := 6) (by decide +kernel) (by decide) ?_
  refine wp_newI (N := 6) (by decide +kernel) (in_g (List.mem_of_getElem? (i := 188) (by decide +kernel)) rfl) (by decide) (by decide) (by decide) (Nat.le_of_ble_eq_true rfl) (Nat.le_of_ble_eq_true rfl) ?_
  refine wp_memM (fun G47 I48 L49 e50 => ?_)
  replace H := H G47 I48 L49 e50
  show wp X B5_init 68 [(0, .ref h)] [.ref G46.2.2, .ref h] (G47, I48, L49) 13 186 _
  obtain ⟨f51, H⟩ := H
  refine wp_putFR (idx := 37) (r := (some G46.2.2)) (by decide +kernel) fl5_37 rfl rfl rfl rfl f51 ?_
  refine wp_memG (fun G52 eG52 => ?_)
  replace H := H G52 eG52
  exact wp_vret (by decide +kernel) rfl (Nat.le_of_ble_eq_true rfl) (Nat.le_of_ble_eq_true rfl) ⟨rfl, H⟩
/-! DeafWall$Echo.<init>()V -/
set_option maxRecDepth 20000 in
theorem b1_init {X : XX} {G : GG} {I : Nat → Nat → Int32} {L : Nat → Nat → Int64} {h : Nat} {Q : GG → (Nat → Nat → Int32) → (Nat → Nat → Int64) → Prop} (ok : G.1 h = some (1, 0)) (H : ∀ G1 I2 L3, (G1, I2, L3) = mNew2 (G, I, L) 20 32 → G1.1 h = some (1, 0) ∧ (∀ G6, G6 = (G1.1, up2 G1.2.1 h 0 (some G.2.2), G1.2.2) → ∀ G7 I8 L9, (G7, I8, L9) = mNew (G6, I2, L3) (11, 32) → G7.1 h = some (1, 0) ∧ (∀ G12, G12 = (G7.1, up2 G7.2.1 h 1 (some G6.2.2), G7.2.2) → Q G12 I8 L9))) : wgV X B1_init 0 [(0, .ref h)] [] G I L 0 0 Q := by
  refine wp_aload_n (z := 0) (i := 0) (r := (some h)) 0 (by decide +kernel) rfl rfl ?_
  refine wp_objInit (idx := 3) (by decide +kernel) (in_g (List.mem_of_getElem? (i := 373) (by decide +kernel)) rfl) (in_g (List.mem_of_getElem? (i := 142) (by decide +kernel)) rfl) (in_g (List.mem_of_getElem? (i := 143) (by decide +kernel)) (by decide +kernel)) (Nat.le_of_ble_eq_true rfl) (Nat.le_of_ble_eq_true rfl) ?_
  refine wp_aload_n (z := 0) (i := 0) (r := (some h)) 0 (by decide +kernel) rfl rfl ?_
  refine wp_bipush (z := 20) (v := 20) (by decide +kernel) (by decide) ?_
  refine wp_bipush (z := 32) (v := 32) (by decide +kernel) (by decide) ?_
  refine wp_mna (idx := 9) (a := 20) (b := 32) (by decide +kernel) (in_g (List.mem_of_getElem? (i := 374) (by decide +kernel)) rfl) (in_g (List.mem_of_getElem? (i := 188) (by decide +kernel)) rfl) (by decide) (by decide) (by decide) (by decide) (by decide) (by decide) (by decide) (Nat.le_of_ble_eq_true rfl) (Nat.le_of_ble_eq_true rfl) ?_
  refine wp_memM (fun G1 I2 L3 e4 => ?_)
  replace H := H G1 I2 L3 e4
  show wp X B1_init 13 [(0, .ref h)] [.ref G.2.2, .ref h] (G1, I2, L3) 21 660 _
  obtain ⟨f5, H⟩ := H
  refine wp_putFR (idx := 11) (r := (some G.2.2)) (by decide +kernel) fl1_11 rfl rfl rfl rfl f5 ?_
  refine wp_memG (fun G6 eG6 => ?_)
  replace H := H G6 eG6
  refine wp_aload_n (z := 0) (i := 0) (r := (some h)) 0 (by decide +kernel) rfl rfl ?_
  refine wp_bipush (z := 32) (v := 32) (by decide +kernel) (by decide) ?_
  refine wp_newI (N := 32) (by decide +kernel) (in_g (List.mem_of_getElem? (i := 188) (by decide +kernel)) rfl) (by decide) (by decide) (by decide) (Nat.le_of_ble_eq_true rfl) (Nat.le_of_ble_eq_true rfl) ?_
  refine wp_memM (fun G7 I8 L9 e10 => ?_)
  replace H := H G7 I8 L9 e10
  show wp X B1_init 21 [(0, .ref h)] [.ref G6.2.2, .ref h] (G7, I8, L9) 22 692 _
  obtain ⟨f11, H⟩ := H
  refine wp_putFR (idx := 16) (r := (some G6.2.2)) (by decide +kernel) fl1_16 rfl rfl rfl rfl f11 ?_
  refine wp_memG (fun G12 eG12 => ?_)
  replace H := H G12 eG12
  exact wp_vret (by decide +kernel) rfl (Nat.le_of_ble_eq_true rfl) (Nat.le_of_ble_eq_true rfl) ⟨rfl, H⟩
/-! DeafWall$Paths.<init>()V -/
set_option maxRecDepth 20000 in
theorem b3_init {X : XX} {G : GG} {I : Nat → Nat → Int32} {L : Nat → Nat → Int64} {h : Nat} {Q : GG → (Nat → Nat → Int32) → (Nat → Nat → Int64) → Prop} (ok : G.1 h = some (3, 0)) (H : ∀ G1 I2 L3, (G1, I2, L3) = mNew2 (G, I, L) 9 32 → G1.1 h = some (3, 0) ∧ (∀ G6, G6 = (G1.1, up2 G1.2.1 h 0 (some G.2.2), G1.2.2) → Q G6 I2 L3)) : wgV X B3_init 0 [(0, .ref h)] [] G I L 0 0 Q := by
  refine wp_aload_n (z := 0) (i := 0) (r := (some h)) 0 (by decide +kernel) rfl rfl ?_
  refine wp_objInit (idx := 3) (by decide +kernel) (in_g (List.mem_of_getElem? (i := 388) (by decide +kernel)) rfl) (in_g (List.mem_of_getElem? (i := 142) (by decide +kernel)) rfl) (in_g (List.mem_of_getElem? (i := 143) (by decide +kernel)) (by decide +kernel)) (Nat.le_of_ble_eq_true rfl) (Nat.le_of_ble_eq_true rfl) ?_
  refine wp_aload_n (z := 0) (i := 0) (r := (some h)) 0 (by decide +kernel) rfl rfl ?_
  refine wp_bipush (z := 9) (v := 9) (by decide +kernel) (by decide) ?_
  refine wp_bipush (z := 32) (v := 32) (by decide +kernel) (by decide) ?_
  refine wp_mna (idx := 9) (a := 9) (b := 32) (by decide +kernel) (in_g (List.mem_of_getElem? (i := 389) (by decide +kernel)) rfl) (in_g (List.mem_of_getElem? (i := 188) (by decide +kernel)) rfl) (by decide) (by decide) (by decide) (by decide) (by decide) (by decide) (by decide) (Nat.le_of_ble_eq_true rfl) (Nat.le_of_ble_eq_true rfl) ?_
  refine wp_memM (fun G1 I2 L3 e4 => ?_)
  replace H := H G1 I2 L3 e4
  show wp X B3_init 13 [(0, .ref h)] [.ref G.2.2, .ref h] (G1, I2, L3) 10 297 _
  obtain ⟨f5, H⟩ := H
  refine wp_putFR (idx := 11) (r := (some G.2.2)) (by decide +kernel) fl3_11 rfl rfl rfl rfl f5 ?_
  refine wp_memG (fun G6 eG6 => ?_)
  replace H := H G6 eG6
  exact wp_vret (by decide +kernel) rfl (Nat.le_of_ble_eq_true rfl) (Nat.le_of_ble_eq_true rfl) ⟨rfl, H⟩
/-! DeafWall.<init>()V -/
set_option maxRecDepth 20000 in
theorem b8_init {X : XX} {G : GG} {I : Nat → Nat → Int32} {L : Nat → Nat → Int64} {h : Nat} {Q : GG → (Nat → Nat → Int32) → (Nat → Nat → Int64) → Prop} (ok : G.1 h = some (8, 0)) (H : ∀ G1 I2 L3, (G1, I2, L3) = mNew (G, I, L) (6, 0) → wgV X B6_init 0 [(0, .ref G.2.2)] [] G1 I2 L3 0 0 (fun G8 I5 L6 => G8.1 h = some (8, 0) ∧ (∀ G10, G10 = (G8.1, up2 G8.2.1 h 0 (some G.2.2), G8.2.2) → ∀ G11 I12 L13, (G11, I12, L13) = mNew (G10, I5, L6) (15, 3) → G11.1 h = some (8, 0) ∧ (∀ G16, G16 = (G11.1, up2 G11.2.1 h 1 (some G10.2.2), G11.2.2) → ∀ G17 I18 L19, (G17, I18, L19) = mNew (G16, I12, L13) (4, 0) → wgV X B4_init 0 [(0, .ref G16.2.2)] [] G17 I18 L19 0 0 (fun G24 I21 L22 => G24.1 h = some (8, 0) ∧ (∀ G26, G26 = (G24.1, up2 G24.2.1 h 2 (some G16.2.2), G24.2.2) → ∀ G27 I28 L29, (G27, I28, L29) = mNew (G26, I21, L22) (5, 0) → wgV X B5_init 0 [(0, .ref G26.2.2)] [] G27 I28 L29 0 0 (fun G34 I31 L32 => G34.1 h = some (8, 0) ∧ (∀ G36, G36 = (G34.1, up2 G34.2.1 h 3 (some G26.2.2), G34.2.2) → ∀ G37 I38 L39, (G37, I38, L39) = mNew (G36, I31, L32) (1, 0) → wgV X B1_init 0 [(0, .ref G36.2.2)] [] G37 I38 L39 0 0 (fun G44 I41 L42 => G44.1 h = some (8, 0) ∧ (∀ G46, G46 = (G44.1, up2 G44.2.1 h 4 (some G36.2.2), G44.2.2) → ∀ G47 I48 L49, (G47, I48, L49) = mNew (G46, I41, L42) (3, 0) → wgV X B3_init 0 [(0, .ref G46.2.2)] [] G47 I48 L49 0 0 (fun G54 I51 L52 => G54.1 h = some (8, 0) ∧ (∀ G56, G56 = (G54.1, up2 G54.2.1 h 5 (some G46.2.2), G54.2.2) → ∀ G57 I58 L59, (G57, I58, L59) = mNew (G56, I51, L52) (11, 6) → G57.1 h = some (8, 0) ∧ (∀ G62, G62 = (G57.1, up2 G57.2.1 h 6 (some G56.2.2), G57.2.2) → ∀ G63 I64 L65, (G63, I64, L65) = mNew (G62, I58, L59) (11, 256) → G63.1 h = some (8, 0) ∧ (∀ G68, G68 = (G63.1, up2 G63.2.1 h 7 (some G62.2.2), G63.2.2) → ∀ G69 I70 L71, (G69, I70, L71) = mNew (G68, I64, L65) (11, 20) → G69.1 h = some (8, 0) ∧ (∀ G74, G74 = (G69.1, up2 G69.2.1 h 8 (some G68.2.2), G69.2.2) → ∀ G75 I76 L77, (G75, I76, L77) = mNew (G74, I70, L71) (11, 120) → G75.1 h = some (8, 0) ∧ (∀ G80, G80 = (G75.1, up2 G75.2.1 h 9 (some G74.2.2), G75.2.2) → ∀ G81 I82 L83, (G81, I82, L83) = mNew (G80, I76, L77) (11, 256) → G81.1 h = some (8, 0) ∧ (∀ G86, G86 = (G81.1, up2 G81.2.1 h 10 (some G80.2.2), G81.2.2) → ∀ G87 I88 L89, (G87, I88, L89) = mNew (G86, I82, L83) (11, 4) → G87.1 h = some (8, 0) ∧ (∀ G92, G92 = (G87.1, up2 G87.2.1 h 11 (some G86.2.2), G87.2.2) → ∀ G93 I94 L95, (G93, I94, L95) = mNew (G92, I88, L89) (11, 4) → G93.1 h = some (8, 0) ∧ (∀ G98, G98 = (G93.1, up2 G93.2.1 h 12 (some G92.2.2), G93.2.2) → ∀ G99 I100 L101, (G99, I100, L101) = mNew (G98, I94, L95) (12, 10) → G99.1 h = some (8, 0) ∧ (∀ G104, G104 = (G99.1, up2 G99.2.1 h 13 (some G98.2.2), G99.2.2) → ∀ G105 I106 L107, (G105, I106, L107) = mNew (G104, I100, L101) (12, 21) → G105.1 h = some (8, 0) ∧ (∀ G110, G110 = (G105.1, up2 G105.2.1 h 14 (some G104.2.2), G105.2.2) → ∀ G111 I112 L113, (G111, I112, L113) = mNew (G110, I106, L107) (11, 128) → G111.1 h = some (8, 0) ∧ (∀ G116, G116 = (G111.1, up2 G111.2.1 h 15 (some G110.2.2), G111.2.2) → Q G116 I112 L113)))))))))))))))))))))) : wgV X B8_init 0 [(0, .ref h)] [] G I L 0 0 Q := by
  refine wp_aload_n (z := 0) (i := 0) (r := (some h)) 0 (by decide +kernel) rfl rfl ?_
  refine wp_objInit (idx := 3) (by decide +kernel) (in_g (List.mem_of_getElem? (i := 141) (by decide +kernel)) rfl) (in_g (List.mem_of_getElem? (i := 142) (by decide +kernel)) rfl) (in_g (List.mem_of_getElem? (i := 143) (by decide +kernel)) (by decide +kernel)) (Nat.le_of_ble_eq_true rfl) (Nat.le_of_ble_eq_true rfl) ?_
  refine wp_aload_n (z := 0) (i := 0) (r := (some h)) 0 (by decide +kernel) rfl rfl ?_
  refine wp_new (idx := 9) (ci := 6) (by decide +kernel) ck6 dv6 (in_g (List.mem_of_getElem? (i := 144) (by decide +kernel)) rfl) (in_g (List.mem_of_getElem? (i := 145) (by decide +kernel)) rfl) (in_g (List.mem_of_getElem? (i := 119) (by decide +kernel)) rfl) (Nat.le_of_ble_eq_true rfl) (Nat.le_of_ble_eq_true rfl) ?_
  refine wp_memM (fun G1 I2 L3 e4 => ?_)
  replace H := H G1 I2 L3 e4
  show wp X B8_init 8 [(0, .ref h)] [.ref G.2.2, .ref h] (G1, I2, L3) 1 8 _
  refine wp_dup (by decide +kernel) rfl ?_
  refine wp_callIN (idx := 11) (B2 := B6_init) (As := []) (a := G.2.2) (st := [.ref G.2.2, .ref h]) (by decide +kernel) m6_init ml8_11 k6_init rfl rfl (⟨Nat.le_of_ble_eq_true rfl, Nat.le_of_ble_eq_true rfl⟩ : rOK B8_init B6_init) rfl (Nat.le_of_ble_eq_true rfl) (Nat.le_of_ble_eq_true rfl) ⟨Nat.le_of_ble_eq_true rfl, Nat.le_of_ble_eq_true rfl⟩ rfl (wp_mono H (fun v9 M9 hq9 => ?_))
  clear H
  obtain ⟨G8, I5, L6⟩ := M9
  obtain ⟨rfl, H⟩ := hq9
  try dsimp only at H
  show wp X B8_init 12 [(0, .ref h)] [.ref G.2.2, .ref h] (G8, I5, L6) 6 617 _
  obtain ⟨f9, H⟩ := H
  refine wp_putFR (idx := 12) (r := (some G.2.2)) (by decide +kernel) fl8_12 rfl rfl rfl rfl f9 ?_
  refine wp_memG (fun G10 eG10 => ?_)
  replace H := H G10 eG10
  refine wp_aload_n (z := 0) (i := 0) (r := (some h)) 0 (by decide +kernel) rfl rfl ?_
  refine wp_iconst (z := 3) (v := 3) (by decide +kernel) (by decide) ?_
  refine wp_anewa (idx := 9) (t := 15) (t0 := 5) (N := 3) (by decide +kernel) (in_g (List.mem_of_getElem? (i := 144) (by decide +kernel)) rfl) rfl (fun _ _ _ z9 => z9.2.2.2.2.2.2.2.1) (by decide) (by decide) (by decide) (by decide) (Nat.le_of_ble_eq_true rfl) (Nat.le_of_ble_eq_true rfl) ?_
  refine wp_memM (fun G11 I12 L13 e14 => ?_)
  replace H := H G11 I12 L13 e14
  show wp X B8_init 20 [(0, .ref h)] [.ref G10.2.2, .ref h] (G11, I12, L13) 7 620 _
  obtain ⟨f15, H⟩ := H
  refine wp_putFR (idx := 16) (r := (some G10.2.2)) (by decide +kernel) fl8_16 rfl rfl rfl rfl f15 ?_
  refine wp_memG (fun G16 eG16 => ?_)
  replace H := H G16 eG16
  refine wp_aload_n (z := 0) (i := 0) (r := (some h)) 0 (by decide +kernel) rfl rfl ?_
  refine wp_new (idx := 20) (ci := 4) (by decide +kernel) ck4 dv4 (in_g (List.mem_of_getElem? (i := 190) (by decide +kernel)) rfl) (in_g (List.mem_of_getElem? (i := 191) (by decide +kernel)) rfl) (in_g (List.mem_of_getElem? (i := 120) (by decide +kernel)) rfl) (Nat.le_of_ble_eq_true rfl) (Nat.le_of_ble_eq_true rfl) ?_
  refine wp_memM (fun G17 I18 L19 e20 => ?_)
  replace H := H G17 I18 L19 e20
  show wp X B8_init 27 [(0, .ref h)] [.ref G16.2.2, .ref h] (G17, I18, L19) 8 635 _
  refine wp_dup (by decide +kernel) rfl ?_
  refine wp_callIN (idx := 22) (B2 := B4_init) (As := []) (a := G16.2.2) (st := [.ref G16.2.2, .ref h]) (by decide +kernel) m4_init ml8_22 k4_init rfl rfl (⟨Nat.le_of_ble_eq_true rfl, Nat.le_of_ble_eq_true rfl⟩ : rOK B8_init B4_init) rfl (Nat.le_of_ble_eq_true rfl) (Nat.le_of_ble_eq_true rfl) ⟨Nat.le_of_ble_eq_true rfl, Nat.le_of_ble_eq_true rfl⟩ rfl (wp_mono H (fun v9 M9 hq9 => ?_))
  clear H
  obtain ⟨G24, I21, L22⟩ := M9
  obtain ⟨rfl, H⟩ := hq9
  try dsimp only at H
  show wp X B8_init 31 [(0, .ref h)] [.ref G16.2.2, .ref h] (G24, I21, L22) 9 635 _
  obtain ⟨f25, H⟩ := H
  refine wp_putFR (idx := 23) (r := (some G16.2.2)) (by decide +kernel) fl8_23 rfl rfl rfl rfl f25 ?_
  refine wp_memG (fun G26 eG26 => ?_)
  replace H := H G26 eG26
  refine wp_aload_n (z := 0) (i := 0) (r := (some h)) 0 (by decide +kernel) rfl rfl ?_
  refine wp_new (idx := 27) (ci := 5) (by decide +kernel) ck5 dv5 (in_g (List.mem_of_getElem? (i := 246) (by decide +kernel)) rfl) (in_g (List.mem_of_getElem? (i := 247) (by decide +kernel)) rfl) (in_g (List.mem_of_getElem? (i := 121) (by decide +kernel)) rfl) (Nat.le_of_ble_eq_true rfl) (Nat.le_of_ble_eq_true rfl) ?_
  refine wp_memM (fun G27 I28 L29 e30 => ?_)
  replace H := H G27 I28 L29 e30
  show wp X B8_init 38 [(0, .ref h)] [.ref G26.2.2, .ref h] (G27, I28, L29) 10 651 _
  refine wp_dup (by decide +kernel) rfl ?_
  refine wp_callIN (idx := 29) (B2 := B5_init) (As := []) (a := G26.2.2) (st := [.ref G26.2.2, .ref h]) (by decide +kernel) m5_init ml8_29 k5_init rfl rfl (⟨Nat.le_of_ble_eq_true rfl, Nat.le_of_ble_eq_true rfl⟩ : rOK B8_init B5_init) rfl (Nat.le_of_ble_eq_true rfl) (Nat.le_of_ble_eq_true rfl) ⟨Nat.le_of_ble_eq_true rfl, Nat.le_of_ble_eq_true rfl⟩ rfl (wp_mono H (fun v9 M9 hq9 => ?_))
  clear H
  obtain ⟨G34, I31, L32⟩ := M9
  obtain ⟨rfl, H⟩ := hq9
  try dsimp only at H
  show wp X B8_init 42 [(0, .ref h)] [.ref G26.2.2, .ref h] (G34, I31, L32) 23 837 _
  obtain ⟨f35, H⟩ := H
  refine wp_putFR (idx := 30) (r := (some G26.2.2)) (by decide +kernel) fl8_30 rfl rfl rfl rfl f35 ?_
  refine wp_memG (fun G36 eG36 => ?_)
  replace H := H G36 eG36
  refine wp_aload_n (z := 0) (i := 0) (r := (some h)) 0 (by decide +kernel) rfl rfl ?_
  refine wp_new (idx := 34) (ci := 1) (by decide +kernel) ck1 dv1 (in_g (List.mem_of_getElem? (i := 368) (by decide +kernel)) rfl) (in_g (List.mem_of_getElem? (i := 369) (by decide +kernel)) rfl) (in_g (List.mem_of_getElem? (i := 124) (by decide +kernel)) rfl) (Nat.le_of_ble_eq_true rfl) (Nat.le_of_ble_eq_true rfl) ?_
  refine wp_memM (fun G37 I38 L39 e40 => ?_)
  replace H := H G37 I38 L39 e40
  show wp X B8_init 49 [(0, .ref h)] [.ref G36.2.2, .ref h] (G37, I38, L39) 24 839 _
  refine wp_dup (by decide +kernel) rfl ?_
  refine wp_callIN (idx := 36) (B2 := B1_init) (As := []) (a := G36.2.2) (st := [.ref G36.2.2, .ref h]) (by decide +kernel) m1_init ml8_36 k1_init rfl rfl (⟨Nat.le_of_ble_eq_true rfl, Nat.le_of_ble_eq_true rfl⟩ : rOK B8_init B1_init) rfl (Nat.le_of_ble_eq_true rfl) (Nat.le_of_ble_eq_true rfl) ⟨Nat.le_of_ble_eq_true rfl, Nat.le_of_ble_eq_true rfl⟩ rfl (wp_mono H (fun v9 M9 hq9 => ?_))
  clear H
  obtain ⟨G44, I41, L42⟩ := M9
  obtain ⟨rfl, H⟩ := hq9
  try dsimp only at H
  show wp X B8_init 53 [(0, .ref h)] [.ref G36.2.2, .ref h] (G44, I41, L42) 46 1531 _
  obtain ⟨f45, H⟩ := H
  refine wp_putFR (idx := 37) (r := (some G36.2.2)) (by decide +kernel) fl8_37 rfl rfl rfl rfl f45 ?_
  refine wp_memG (fun G46 eG46 => ?_)
  replace H := H G46 eG46
  refine wp_aload_n (z := 0) (i := 0) (r := (some h)) 0 (by decide +kernel) rfl rfl ?_
  refine wp_new (idx := 41) (ci := 3) (by decide +kernel) ck3 dv3 (in_g (List.mem_of_getElem? (i := 383) (by decide +kernel)) rfl) (in_g (List.mem_of_getElem? (i := 384) (by decide +kernel)) rfl) (in_g (List.mem_of_getElem? (i := 125) (by decide +kernel)) rfl) (Nat.le_of_ble_eq_true rfl) (Nat.le_of_ble_eq_true rfl) ?_
  refine wp_memM (fun G47 I48 L49 e50 => ?_)
  replace H := H G47 I48 L49 e50
  show wp X B8_init 60 [(0, .ref h)] [.ref G46.2.2, .ref h] (G47, I48, L49) 47 1532 _
  refine wp_dup (by decide +kernel) rfl ?_
  refine wp_callIN (idx := 43) (B2 := B3_init) (As := []) (a := G46.2.2) (st := [.ref G46.2.2, .ref h]) (by decide +kernel) m3_init ml8_43 k3_init rfl rfl (⟨Nat.le_of_ble_eq_true rfl, Nat.le_of_ble_eq_true rfl⟩ : rOK B8_init B3_init) rfl (Nat.le_of_ble_eq_true rfl) (Nat.le_of_ble_eq_true rfl) ⟨Nat.le_of_ble_eq_true rfl, Nat.le_of_ble_eq_true rfl⟩ rfl (wp_mono H (fun v9 M9 hq9 => ?_))
  clear H
  obtain ⟨G54, I51, L52⟩ := M9
  obtain ⟨rfl, H⟩ := hq9
  try dsimp only at H
  show wp X B8_init 64 [(0, .ref h)] [.ref G46.2.2, .ref h] (G54, I51, L52) 57 1829 _
  obtain ⟨f55, H⟩ := H
  refine wp_putFR (idx := 44) (r := (some G46.2.2)) (by decide +kernel) fl8_44 rfl rfl rfl rfl f55 ?_
  refine wp_memG (fun G56 eG56 => ?_)
  replace H := H G56 eG56
  refine wp_aload_n (z := 0) (i := 0) (r := (some h)) 0 (by decide +kernel) rfl rfl ?_
  refine wp_bipush (z := 6) (v := 6) (by decide +kernel) (by decide) ?_
  refine wp_newI (N := 6) (by decide +kernel) (in_g (List.mem_of_getElem? (i := 188) (by decide +kernel)) rfl) (by decide) (by decide) (by decide) (Nat.le_of_ble_eq_true rfl) (Nat.le_of_ble_eq_true rfl) ?_
  refine wp_memM (fun G57 I58 L59 e60 => ?_)
  replace H := H G57 I58 L59 e60
  show wp X B8_init 72 [(0, .ref h)] [.ref G56.2.2, .ref h] (G57, I58, L59) 58 1835 _
  obtain ⟨f61, H⟩ := H
  refine wp_putFR (idx := 48) (r := (some G56.2.2)) (by decide +kernel) fl8_48 rfl rfl rfl rfl f61 ?_
  refine wp_memG (fun G62 eG62 => ?_)
  replace H := H G62 eG62
  refine wp_aload_n (z := 0) (i := 0) (r := (some h)) 0 (by decide +kernel) rfl rfl ?_
  refine wp_sipush (z := 256) (v := 256) (by decide +kernel) (by decide) ?_
  refine wp_newI (N := 256) (by decide +kernel) (in_g (List.mem_of_getElem? (i := 188) (by decide +kernel)) rfl) (by decide) (by decide) (by decide) (Nat.le_of_ble_eq_true rfl) (Nat.le_of_ble_eq_true rfl) ?_
  refine wp_memM (fun G63 I64 L65 e66 => ?_)
  replace H := H G63 I64 L65 e66
  show wp X B8_init 81 [(0, .ref h)] [.ref G62.2.2, .ref h] (G63, I64, L65) 59 2091 _
  obtain ⟨f67, H⟩ := H
  refine wp_putFR (idx := 52) (r := (some G62.2.2)) (by decide +kernel) fl8_52 rfl rfl rfl rfl f67 ?_
  refine wp_memG (fun G68 eG68 => ?_)
  replace H := H G68 eG68
  refine wp_aload_n (z := 0) (i := 0) (r := (some h)) 0 (by decide +kernel) rfl rfl ?_
  refine wp_bipush (z := 20) (v := 20) (by decide +kernel) (by decide) ?_
  refine wp_newI (N := 20) (by decide +kernel) (in_g (List.mem_of_getElem? (i := 188) (by decide +kernel)) rfl) (by decide) (by decide) (by decide) (Nat.le_of_ble_eq_true rfl) (Nat.le_of_ble_eq_true rfl) ?_
  refine wp_memM (fun G69 I70 L71 e72 => ?_)
  replace H := H G69 I70 L71 e72
  show wp X B8_init 89 [(0, .ref h)] [.ref G68.2.2, .ref h] (G69, I70, L71) 60 2111 _
  obtain ⟨f73, H⟩ := H
  refine wp_putFR (idx := 55) (r := (some G68.2.2)) (by decide +kernel) fl8_55 rfl rfl rfl rfl f73 ?_
  refine wp_memG (fun G74 eG74 => ?_)
  replace H := H G74 eG74
  refine wp_aload_n (z := 0) (i := 0) (r := (some h)) 0 (by decide +kernel) rfl rfl ?_
  refine wp_bipush (z := 120) (v := 120) (by decide +kernel) (by decide) ?_
  refine wp_newI (N := 120) (by decide +kernel) (in_g (List.mem_of_getElem? (i := 188) (by decide +kernel)) rfl) (by decide) (by decide) (by decide) (Nat.le_of_ble_eq_true rfl) (Nat.le_of_ble_eq_true rfl) ?_
  refine wp_memM (fun G75 I76 L77 e78 => ?_)
  replace H := H G75 I76 L77 e78
  show wp X B8_init 97 [(0, .ref h)] [.ref G74.2.2, .ref h] (G75, I76, L77) 61 2231 _
  obtain ⟨f79, H⟩ := H
  refine wp_putFR (idx := 58) (r := (some G74.2.2)) (by decide +kernel) fl8_58 rfl rfl rfl rfl f79 ?_
  refine wp_memG (fun G80 eG80 => ?_)
  replace H := H G80 eG80
  refine wp_aload_n (z := 0) (i := 0) (r := (some h)) 0 (by decide +kernel) rfl rfl ?_
  refine wp_sipush (z := 256) (v := 256) (by decide +kernel) (by decide) ?_
  refine wp_newI (N := 256) (by decide +kernel) (in_g (List.mem_of_getElem? (i := 188) (by decide +kernel)) rfl) (by decide) (by decide) (by decide) (Nat.le_of_ble_eq_true rfl) (Nat.le_of_ble_eq_true rfl) ?_
  refine wp_memM (fun G81 I82 L83 e84 => ?_)
  replace H := H G81 I82 L83 e84
  show wp X B8_init 106 [(0, .ref h)] [.ref G80.2.2, .ref h] (G81, I82, L83) 62 2487 _
  obtain ⟨f85, H⟩ := H
  refine wp_putFR (idx := 61) (r := (some G80.2.2)) (by decide +kernel) fl8_61 rfl rfl rfl rfl f85 ?_
  refine wp_memG (fun G86 eG86 => ?_)
  replace H := H G86 eG86
  refine wp_aload_n (z := 0) (i := 0) (r := (some h)) 0 (by decide +kernel) rfl rfl ?_
  refine wp_iconst (z := 4) (v := 4) (by decide +kernel) (by decide) ?_
  refine wp_newI (N := 4) (by decide +kernel) (in_g (List.mem_of_getElem? (i := 188) (by decide +kernel)) rfl) (by decide) (by decide) (by decide) (Nat.le_of_ble_eq_true rfl) (Nat.le_of_ble_eq_true rfl) ?_
  refine wp_memM (fun G87 I88 L89 e90 => ?_)
  replace H := H G87 I88 L89 e90
  show wp X B8_init 113 [(0, .ref h)] [.ref G86.2.2, .ref h] (G87, I88, L89) 63 2491 _
  obtain ⟨f91, H⟩ := H
  refine wp_putFR (idx := 64) (r := (some G86.2.2)) (by decide +kernel) fl8_64 rfl rfl rfl rfl f91 ?_
  refine wp_memG (fun G92 eG92 => ?_)
  replace H := H G92 eG92
  refine wp_aload_n (z := 0) (i := 0) (r := (some h)) 0 (by decide +kernel) rfl rfl ?_
  refine wp_iconst (z := 4) (v := 4) (by decide +kernel) (by decide) ?_
  refine wp_newI (N := 4) (by decide +kernel) (in_g (List.mem_of_getElem? (i := 188) (by decide +kernel)) rfl) (by decide) (by decide) (by decide) (Nat.le_of_ble_eq_true rfl) (Nat.le_of_ble_eq_true rfl) ?_
  refine wp_memM (fun G93 I94 L95 e96 => ?_)
  replace H := H G93 I94 L95 e96
  show wp X B8_init 120 [(0, .ref h)] [.ref G92.2.2, .ref h] (G93, I94, L95) 64 2495 _
  obtain ⟨f97, H⟩ := H
  refine wp_putFR (idx := 67) (r := (some G92.2.2)) (by decide +kernel) fl8_67 rfl rfl rfl rfl f97 ?_
  refine wp_memG (fun G98 eG98 => ?_)
  replace H := H G98 eG98
  refine wp_aload_n (z := 0) (i := 0) (r := (some h)) 0 (by decide +kernel) rfl rfl ?_
  refine wp_bipush (z := 10) (v := 10) (by decide +kernel) (by decide) ?_
  refine wp_newJ (N := 10) (by decide +kernel) (in_g (List.mem_of_getElem? (i := 443) (by decide +kernel)) rfl) (by decide) (by decide) (by decide) (Nat.le_of_ble_eq_true rfl) (Nat.le_of_ble_eq_true rfl) ?_
  refine wp_memM (fun G99 I100 L101 e102 => ?_)
  replace H := H G99 I100 L101 e102
  show wp X B8_init 128 [(0, .ref h)] [.ref G98.2.2, .ref h] (G99, I100, L101) 65 2505 _
  obtain ⟨f103, H⟩ := H
  refine wp_putFR (idx := 70) (r := (some G98.2.2)) (by decide +kernel) fl8_70 rfl rfl rfl rfl f103 ?_
  refine wp_memG (fun G104 eG104 => ?_)
  replace H := H G104 eG104
  refine wp_aload_n (z := 0) (i := 0) (r := (some h)) 0 (by decide +kernel) rfl rfl ?_
  refine wp_bipush (z := 21) (v := 21) (by decide +kernel) (by decide) ?_
  refine wp_newJ (N := 21) (by decide +kernel) (in_g (List.mem_of_getElem? (i := 443) (by decide +kernel)) rfl) (by decide) (by decide) (by decide) (Nat.le_of_ble_eq_true rfl) (Nat.le_of_ble_eq_true rfl) ?_
  refine wp_memM (fun G105 I106 L107 e108 => ?_)
  replace H := H G105 I106 L107 e108
  show wp X B8_init 136 [(0, .ref h)] [.ref G104.2.2, .ref h] (G105, I106, L107) 66 2526 _
  obtain ⟨f109, H⟩ := H
  refine wp_putFR (idx := 74) (r := (some G104.2.2)) (by decide +kernel) fl8_74 rfl rfl rfl rfl f109 ?_
  refine wp_memG (fun G110 eG110 => ?_)
  replace H := H G110 eG110
  refine wp_aload_n (z := 0) (i := 0) (r := (some h)) 0 (by decide +kernel) rfl rfl ?_
  refine wp_sipush (z := 128) (v := 128) (by decide +kernel) (by decide) ?_
  refine wp_newI (N := 128) (by decide +kernel) (in_g (List.mem_of_getElem? (i := 188) (by decide +kernel)) rfl) (by decide) (by decide) (by decide) (Nat.le_of_ble_eq_true rfl) (Nat.le_of_ble_eq_true rfl) ?_
  refine wp_memM (fun G111 I112 L113 e114 => ?_)
  replace H := H G111 I112 L113 e114
  show wp X B8_init 145 [(0, .ref h)] [.ref G110.2.2, .ref h] (G111, I112, L113) 67 2654 _
  obtain ⟨f115, H⟩ := H
  refine wp_putFR (idx := 77) (r := (some G110.2.2)) (by decide +kernel) fl8_77 rfl rfl rfl rfl f115 ?_
  refine wp_memG (fun G116 eG116 => ?_)
  replace H := H G116 eG116
  exact wp_vret (by decide +kernel) rfl (Nat.le_of_ble_eq_true rfl) (Nat.le_of_ble_eq_true rfl) ⟨rfl, H⟩
/-! DeafWall$Told.put(I)V -/
set_option maxRecDepth 20000 in
theorem b6_put {X : XX} {G : GG} {I : Nat → Nat → Int32} {L : Nat → Nat → Int64} {h : Nat} {x1 : Int32} {Q : (Nat → Nat → Int32) → (Nat → Nat → Int64) → Prop} (ok : OK6 G h) (H : wpV X B6_put 3 [(0, .ref h), (1, .int x1), (2, .int 24)] [] G I L Q) : wpV X B6_put 0 [(0, .ref h), (1, .int x1)] [] G I L Q := by
  refine wp_bipush (z := 24) (v := 24) (by decide +kernel) (by decide) ?_
  refine wp_istore_n (z := 2) (i := 2) (lv' := [(2, .int 24), (0, .ref h), (1, .int x1)]) (by decide +kernel) rfl (by decide) rfl ?_
  exact wp_sub [1, 2, 0] rfl H
set_option maxRecDepth 20000 in
theorem b6_put_3 {X : XX} {G : GG} {I : Nat → Nat → Int32} {L : Nat → Nat → Int64} {h : Nat} {x1 : Int32} {x2 : Int32} {Q : (Nat → Nat → Int32) → (Nat → Nat → Int64) → Prop} (ok : OK6 G h) (H : if x2 < (0 : Int32) then (Q I L) else (if 600 ≤ (I h 1) then (Q I L) else (vp_in (I h 1) 600 ∧ (∀ I3, I3 = up2 I (h + 1) (cl (I h 1)) ((Int32.toInt8 ((Int32.toInt8 (x1 >>> (x2 &&& 31))).toInt32)).toInt32) → ∀ I4, I4 = up2 I3 h 1 ((I3 h 1) + 1) → wpV X B6_put 3 [(0, .ref h), (1, .int x1), (2, .int (x2 + (-8)))] [] G I4 L Q)))) : wpV X B6_put 3 [(0, .ref h), (1, .int x1), (2, .int x2)] [] G I L Q := by
  refine wp_iload_n (z := 2) (i := 2) (x := x2) 2 (by decide +kernel) rfl rfl ?_
  refine wp_if_lt (off := 42) (tgt := 46) (by decide +kernel) (by decide) (fun c1 => ?_) (fun c1 => ?_)
  · rw [if_pos c1] at H
    exact wp_vret (by decide +kernel) rfl (Nat.zero_le _) (Nat.zero_le _) ⟨_, _, rfl, rfl, H⟩
  · rw [if_neg c1] at H
    refine wp_aload_n (z := 0) (i := 0) (r := (some h)) 0 (by decide +kernel) rfl rfl ?_
    refine wp_getI (idx := 15) (by decide +kernel) fl6_15 rfl ok.1 ?_
    refine wp_sipush (z := 600) (v := 600) (by decide +kernel) (by decide) ?_
    refine wp_icmp_ge (off := 32) (tgt := 46) (by decide +kernel) (by decide) (fun c2 => ?_) (fun c2 => ?_)
    · rw [if_pos c2] at H
      exact wp_vret (by decide +kernel) rfl (Nat.zero_le _) (Nat.zero_le _) ⟨_, _, rfl, rfl, H⟩
    · rw [if_neg c2] at H
      refine wp_aload_n (z := 0) (i := 0) (r := (some h)) 0 (by decide +kernel) rfl rfl ?_
      refine wp_getS (idx := 9) (q := (h + 1)) (by decide +kernel) fl6_9 rfl ok.1 (okr6_0 ok) ?_
      refine wp_aload_n (z := 0) (i := 0) (r := (some h)) 0 (by decide +kernel) rfl rfl ?_
      refine wp_getI (idx := 15) (by decide +kernel) fl6_15 rfl ok.1 ?_
      refine wp_iload_n (z := 1) (i := 1) (x := x1) 1 (by decide +kernel) rfl rfl ?_
      refine wp_iload_n (z := 2) (i := 2) (x := x2) 2 (by decide +kernel) rfl rfl ?_
      refine wp_ishr (by decide +kernel) ?_
      refine wp_i2b (by decide +kernel) ?_
      obtain ⟨o5, H⟩ := H
      refine wp_bast (j := (cl (I h 1))) (by decide +kernel) (oks6_0 ok) o5 rfl ?_
      refine wp_memI (fun I3 eI3 => ?_)
      replace H := H I3 eI3
      refine wp_aload_n (z := 0) (i := 0) (r := (some h)) 0 (by decide +kernel) rfl rfl ?_
      refine wp_dup (by decide +kernel) rfl ?_
      refine wp_getI (idx := 15) (by decide +kernel) fl6_15 rfl ok.1 ?_
      refine wp_iconst (z := 1) (v := 1) (by decide +kernel) (by decide) ?_
      refine wp_iadd (by decide +kernel) ?_
      refine wp_putI (idx := 15) (by decide +kernel) fl6_15 rfl ok.1 ?_
      refine wp_memI (fun I4 eI4 => ?_)
      replace H := H I4 eI4
      refine wp_iinc (i := 2) (z := -8) (v := (-8)) (lv' := [(2, .int (x2 + (-8))), (0, .ref h), (1, .int x1)]) 2 (by decide +kernel) rfl (by decide) (by decide) rfl ?_
      refine wp_goto (off := -40) (tgt := 3) (by decide +kernel) (by decide) ?_
      exact wp_sub [1, 2, 0] rfl H
/-! DeafWall.feed(IIIII)I -/
set_option maxRecDepth 20000 in
theorem b8_feed {X : XX} {G : GG} {I : Nat → Nat → Int32} {L : Nat → Nat → Int64} {h : Nat} {x1 : Int32} {x2 : Int32} {x3 : Int32} {x4 : Int32} {x5 : Int32} {Q : Int32 → (Nat → Nat → Int32) → (Nat → Nat → Int64) → Prop} (ok : OK8 G h) (H : if ((I (h + 1) 1) + 20) ≤ 600 then (wpV X B6_put 0 [(0, .ref (h + 1)), (1, .int x1)] [] G I L (fun I2 L3 => wpV X B6_put 0 [(0, .ref (h + 1)), (1, .int x2)] [] G I2 L3 (fun I5 L6 => wpV X B6_put 0 [(0, .ref (h + 1)), (1, .int x3)] [] G I5 L6 (fun I8 L9 => wpV X B6_put 0 [(0, .ref (h + 1)), (1, .int x4)] [] G I8 L9 (fun I11 L12 => wpV X B6_put 0 [(0, .ref (h + 1)), (1, .int x5)] [] G I11 L12 (fun I14 L15 => Q (I14 (h + 1) 1) I14 L15)))))) else (Q (-1) I L)) : wpI X B8_feed 0 [(0, .ref h), (1, .int x1), (2, .int x2), (3, .int x3), (4, .int x4), (5, .int x5)] [] G I L Q := by
  refine wp_aload_n (z := 0) (i := 0) (r := (some h)) 0 (by decide +kernel) rfl rfl ?_
  refine wp_getS (idx := 12) (q := (h + 1)) (by decide +kernel) fl8_12 rfl ok.1 (okr8_0 ok) ?_
  refine wp_getI (idx := 80) (by decide +kernel) fl8_80 rfl (oko8_0 ok).1 ?_
  refine wp_bipush (z := 20) (v := 20) (by decide +kernel) (by decide) ?_
  refine wp_iadd (by decide +kernel) ?_
  refine wp_sipush (z := 600) (v := 600) (by decide +kernel) (by decide) ?_
  refine wp_icmp_le (off := 5) (tgt := 18) (by decide +kernel) (by decide) (fun c1 => ?_) (fun c1 => ?_)
  · rw [if_pos c1] at H
    refine wp_aload_n (z := 0) (i := 0) (r := (some h)) 0 (by decide +kernel) rfl rfl ?_
    refine wp_getS (idx := 12) (q := (h + 1)) (by decide +kernel) fl8_12 rfl ok.1 (okr8_0 ok) ?_
    refine wp_iload_n (z := 1) (i := 1) (x := x1) 1 (by decide +kernel) rfl rfl ?_
    refine wp_callV (idx := 84) (B2 := B6_put) (As := [.int x1]) (a := (h + 1)) (st := []) (by decide +kernel) m6_put ml8_84 k6_put e6_put ck6 (oko8_0 ok).1 (⟨Nat.le_of_ble_eq_true rfl, Nat.le_of_ble_eq_true rfl⟩ : rOK B8_feed B6_put) rfl (Nat.le_of_ble_eq_true rfl) (Nat.le_of_ble_eq_true rfl) ⟨Nat.le_of_ble_eq_true rfl, Nat.le_of_ble_eq_true rfl⟩ rfl (wp_mono H (fun v9 M9 hq9 => ?_))
    clear H
    obtain ⟨I2, L3, rfl, rfl, H⟩ := hq9
    show wp X B8_feed 26 [(0, .ref h), (1, .int x1), (2, .int x2), (3, .int x3), (4, .int x4), (5, .int x5)] [] (G, I2, L3) 0 0 _
    refine wp_aload_n (z := 0) (i := 0) (r := (some h)) 0 (by decide +kernel) rfl rfl ?_
    refine wp_getS (idx := 12) (q := (h + 1)) (by decide +kernel) fl8_12 rfl ok.1 (okr8_0 ok) ?_
    refine wp_iload_n (z := 2) (i := 2) (x := x2) 2 (by decide +kernel) rfl rfl ?_
    refine wp_callV (idx := 84) (B2 := B6_put) (As := [.int x2]) (a := (h + 1)) (st := []) (by decide +kernel) m6_put ml8_84 k6_put e6_put ck6 (oko8_0 ok).1 (⟨Nat.le_of_ble_eq_true rfl, Nat.le_of_ble_eq_true rfl⟩ : rOK B8_feed B6_put) rfl (Nat.le_of_ble_eq_true rfl) (Nat.le_of_ble_eq_true rfl) ⟨Nat.le_of_ble_eq_true rfl, Nat.le_of_ble_eq_true rfl⟩ rfl (wp_mono H (fun v9 M9 hq9 => ?_))
    clear H
    obtain ⟨I5, L6, rfl, rfl, H⟩ := hq9
    show wp X B8_feed 34 [(0, .ref h), (1, .int x1), (2, .int x2), (3, .int x3), (4, .int x4), (5, .int x5)] [] (G, I5, L6) 0 0 _
    refine wp_aload_n (z := 0) (i := 0) (r := (some h)) 0 (by decide +kernel) rfl rfl ?_
    refine wp_getS (idx := 12) (q := (h + 1)) (by decide +kernel) fl8_12 rfl ok.1 (okr8_0 ok) ?_
    refine wp_iload_n (z := 3) (i := 3) (x := x3) 3 (by decide +kernel) rfl rfl ?_
    refine wp_callV (idx := 84) (B2 := B6_put) (As := [.int x3]) (a := (h + 1)) (st := []) (by decide +kernel) m6_put ml8_84 k6_put e6_put ck6 (oko8_0 ok).1 (⟨Nat.le_of_ble_eq_true rfl, Nat.le_of_ble_eq_true rfl⟩ : rOK B8_feed B6_put) rfl (Nat.le_of_ble_eq_true rfl) (Nat.le_of_ble_eq_true rfl) ⟨Nat.le_of_ble_eq_true rfl, Nat.le_of_ble_eq_true rfl⟩ rfl (wp_mono H (fun v9 M9 hq9 => ?_))
    clear H
    obtain ⟨I8, L9, rfl, rfl, H⟩ := hq9
    show wp X B8_feed 42 [(0, .ref h), (1, .int x1), (2, .int x2), (3, .int x3), (4, .int x4), (5, .int x5)] [] (G, I8, L9) 0 0 _
    refine wp_aload_n (z := 0) (i := 0) (r := (some h)) 0 (by decide +kernel) rfl rfl ?_
    refine wp_getS (idx := 12) (q := (h + 1)) (by decide +kernel) fl8_12 rfl ok.1 (okr8_0 ok) ?_
    refine wp_iload (i := 4) (x := x4) 4 (by decide +kernel) rfl ?_
    refine wp_callV (idx := 84) (B2 := B6_put) (As := [.int x4]) (a := (h + 1)) (st := []) (by decide +kernel) m6_put ml8_84 k6_put e6_put ck6 (oko8_0 ok).1 (⟨Nat.le_of_ble_eq_true rfl, Nat.le_of_ble_eq_true rfl⟩ : rOK B8_feed B6_put) rfl (Nat.le_of_ble_eq_true rfl) (Nat.le_of_ble_eq_true rfl) ⟨Nat.le_of_ble_eq_true rfl, Nat.le_of_ble_eq_true rfl⟩ rfl (wp_mono H (fun v9 M9 hq9 => ?_))
    clear H
    obtain ⟨I11, L12, rfl, rfl, H⟩ := hq9
    show wp X B8_feed 51 [(0, .ref h), (1, .int x1), (2, .int x2), (3, .int x3), (4, .int x4), (5, .int x5)] [] (G, I11, L12) 0 0 _
    refine wp_aload_n (z := 0) (i := 0) (r := (some h)) 0 (by decide +kernel) rfl rfl ?_
    refine wp_getS (idx := 12) (q := (h + 1)) (by decide +kernel) fl8_12 rfl ok.1 (okr8_0 ok) ?_
    refine wp_iload (i := 5) (x := x5) 5 (by decide +kernel) rfl ?_
    refine wp_callV (idx := 84) (B2 := B6_put) (As := [.int x5]) (a := (h + 1)) (st := []) (by decide +kernel) m6_put ml8_84 k6_put e6_put ck6 (oko8_0 ok).1 (⟨Nat.le_of_ble_eq_true rfl, Nat.le_of_ble_eq_true rfl⟩ : rOK B8_feed B6_put) rfl (Nat.le_of_ble_eq_true rfl) (Nat.le_of_ble_eq_true rfl) ⟨Nat.le_of_ble_eq_true rfl, Nat.le_of_ble_eq_true rfl⟩ rfl (wp_mono H (fun v9 M9 hq9 => ?_))
    clear H
    obtain ⟨I14, L15, rfl, rfl, H⟩ := hq9
    show wp X B8_feed 60 [(0, .ref h), (1, .int x1), (2, .int x2), (3, .int x3), (4, .int x4), (5, .int x5)] [] (G, I14, L15) 0 0 _
    refine wp_aload_n (z := 0) (i := 0) (r := (some h)) 0 (by decide +kernel) rfl rfl ?_
    refine wp_getS (idx := 12) (q := (h + 1)) (by decide +kernel) fl8_12 rfl ok.1 (okr8_0 ok) ?_
    refine wp_getI (idx := 80) (by decide +kernel) fl8_80 rfl (oko8_0 ok).1 ?_
    exact wp_iret (by decide +kernel) rfl (Nat.zero_le _) (Nat.zero_le _) ⟨_, _, _, rfl, rfl, H⟩
  · rw [if_neg c1] at H
    refine wp_iconst (z := -1) (v := (-1)) (by decide +kernel) (by decide) ?_
    exact wp_iret (by decide +kernel) rfl (Nat.zero_le _) (Nat.zero_le _) ⟨_, _, _, rfl, rfl, H⟩
/-! DeafWall.end(I)I -/
set_option maxRecDepth 20000 in
theorem b8_end {X : XX} {G : GG} {I : Nat → Nat → Int32} {L : Nat → Nat → Int64} {h : Nat} {x1 : Int32} {Q : Int32 → (Nat → Nat → Int32) → (Nat → Nat → Int64) → Prop} (ok : OK8 G h) (H : if x1 < (0 : Int32) then (Q (-1) I L) else (if x1 ≤ (I (h + 1) 1) then (∀ I3, I3 = up2 I (h + 1) 1 x1 → Q x1 I3 L) else (Q (-1) I L))) : wpI X B8_end 0 [(0, .ref h), (1, .int x1)] [] G I L Q := by
  refine wp_iload_n (z := 1) (i := 1) (x := x1) 1 (by decide +kernel) rfl rfl ?_
  refine wp_if_lt (off := 14) (tgt := 15) (by decide +kernel) (by decide) (fun c1 => ?_) (fun c1 => ?_)
  · rw [if_pos c1] at H
    refine wp_iconst (z := -1) (v := (-1)) (by decide +kernel) (by decide) ?_
    exact wp_iret (by decide +kernel) rfl (Nat.zero_le _) (Nat.zero_le _) ⟨_, _, _, rfl, rfl, H⟩
  · rw [if_neg c1] at H
    refine wp_iload_n (z := 1) (i := 1) (x := x1) 1 (by decide +kernel) rfl rfl ?_
    refine wp_aload_n (z := 0) (i := 0) (r := (some h)) 0 (by decide +kernel) rfl rfl ?_
    refine wp_getS (idx := 12) (q := (h + 1)) (by decide +kernel) fl8_12 rfl ok.1 (okr8_0 ok) ?_
    refine wp_getI (idx := 80) (by decide +kernel) fl8_80 rfl (oko8_0 ok).1 ?_
    refine wp_icmp_le (off := 5) (tgt := 17) (by decide +kernel) (by decide) (fun c2 => ?_) (fun c2 => ?_)
    · rw [if_pos c2] at H
      refine wp_aload_n (z := 0) (i := 0) (r := (some h)) 0 (by decide +kernel) rfl rfl ?_
      refine wp_getS (idx := 12) (q := (h + 1)) (by decide +kernel) fl8_12 rfl ok.1 (okr8_0 ok) ?_
      refine wp_iload_n (z := 1) (i := 1) (x := x1) 1 (by decide +kernel) rfl rfl ?_
      refine wp_putI (idx := 80) (by decide +kernel) fl8_80 rfl (oko8_0 ok).1 ?_
      refine wp_memI (fun I3 eI3 => ?_)
      replace H := H I3 eI3
      refine wp_iload_n (z := 1) (i := 1) (x := x1) 1 (by decide +kernel) rfl rfl ?_
      exact wp_iret (by decide +kernel) rfl (Nat.zero_le _) (Nat.zero_le _) ⟨_, _, _, rfl, rfl, H⟩
    · rw [if_neg c2] at H
      refine wp_iconst (z := -1) (v := (-1)) (by decide +kernel) (by decide) ?_
      exact wp_iret (by decide +kernel) rfl (Nat.zero_le _) (Nat.zero_le _) ⟨_, _, _, rfl, rfl, H⟩
/-! DeafWall$Lines.<init>(Z)V -/
set_option maxRecDepth 20000 in
theorem b2_init {X : XX} {G : GG} {I : Nat → Nat → Int32} {L : Nat → Nat → Int64} {h : Nat} {x1 : Int32} {Q : GG → (Nat → Nat → Int32) → (Nat → Nat → Int64) → Prop} (ok : G.1 h = some (2, 0)) (H : ∀ I1, I1 = up2 I h 0 0 → if x1 = (0 : Int32) then (∀ G3 I4 L5, (G3, I4, L5) = mNew (G, I1, L) (11, 8) → G3.1 h = some (2, 0) ∧ (∀ G8, G8 = (G3.1, up2 G3.2.1 h 1 (some G.2.2), G3.2.2) → ∀ G9 I10 L11, (G9, I10, L11) = mNew (G8, I4, L5) (11, 8) → G9.1 h = some (2, 0) ∧ (∀ G14, G14 = (G9.1, up2 G9.2.1 h 2 (some G8.2.2), G9.2.2) → ∀ G15 I16 L17, (G15, I16, L17) = mNew (G14, I10, L11) (11, 8) → G15.1 h = some (2, 0) ∧ (∀ G20, G20 = (G15.1, up2 G15.2.1 h 3 (some G14.2.2), G15.2.2) → Q G20 I16 L17)))) else (∀ G21 I22 L23, (G21, I22, L23) = mNew (G, I1, L) (11, 40) → G21.1 h = some (2, 0) ∧ (∀ G26, G26 = (G21.1, up2 G21.2.1 h 1 (some G.2.2), G21.2.2) → ∀ G27 I28 L29, (G27, I28, L29) = mNew (G26, I22, L23) (11, 40) → G27.1 h = some (2, 0) ∧ (∀ G32, G32 = (G27.1, up2 G27.2.1 h 2 (some G26.2.2), G27.2.2) → ∀ G33 I34 L35, (G33, I34, L35) = mNew (G32, I28, L29) (11, 40) → G33.1 h = some (2, 0) ∧ (∀ G38, G38 = (G33.1, up2 G33.2.1 h 3 (some G32.2.2), G33.2.2) → Q G38 I34 L35))))) : wgV X B2_init 0 [(0, .ref h), (1, .int x1)] [] G I L 0 0 Q := by
  refine wp_aload_n (z := 0) (i := 0) (r := (some h)) 0 (by decide +kernel) rfl rfl ?_
  refine wp_objInit (idx := 3) (by decide +kernel) (in_g (List.mem_of_getElem? (i := 478) (by decide +kernel)) rfl) (in_g (List.mem_of_getElem? (i := 142) (by decide +kernel)) rfl) (in_g (List.mem_of_getElem? (i := 143) (by decide +kernel)) (by decide +kernel)) (Nat.le_of_ble_eq_true rfl) (Nat.le_of_ble_eq_true rfl) ?_
  refine wp_aload_n (z := 0) (i := 0) (r := (some h)) 0 (by decide +kernel) rfl rfl ?_
  refine wp_iconst (z := 0) (v := 0) (by decide +kernel) (by decide) ?_
  refine wp_putI (idx := 9) (by decide +kernel) fl2_9 rfl ok ?_
  refine wp_memI (fun I1 eI1 => ?_)
  replace H := H I1 eI1
  refine wp_iload_n (z := 1) (i := 1) (x := x1) 1 (by decide +kernel) rfl rfl ?_
  refine wp_if_eq (off := 8) (tgt := 18) (by decide +kernel) (by decide) (fun c2 => ?_) (fun c2 => ?_)
  · rw [if_pos c2] at H
    refine wp_bipush (z := 8) (v := 8) (by decide +kernel) (by decide) ?_
    refine wp_istore_n (z := 2) (i := 2) (lv' := [(2, .int 8), (0, .ref h), (1, .int x1)]) (by decide +kernel) rfl (by decide) rfl ?_
    refine wp_aload_n (z := 0) (i := 0) (r := (some h)) 1 (by decide +kernel) rfl rfl ?_
    refine wp_iload_n (z := 2) (i := 2) (x := 8) 0 (by decide +kernel) rfl rfl ?_
    refine wp_newI (N := 8) (by decide +kernel) (in_g (List.mem_of_getElem? (i := 188) (by decide +kernel)) rfl) (by decide) (by decide) (by decide) (Nat.le_of_ble_eq_true rfl) (Nat.le_of_ble_eq_true rfl) ?_
    refine wp_memM (fun G3 I4 L5 e6 => ?_)
    replace H := H G3 I4 L5 e6
    show wp X B2_init 25 [(2, .int 8), (0, .ref h), (1, .int x1)] [.ref G.2.2, .ref h] (G3, I4, L5) 1 8 _
    obtain ⟨f7, H⟩ := H
    refine wp_putFR (idx := 15) (r := (some G.2.2)) (by decide +kernel) fl2_15 rfl rfl rfl rfl f7 ?_
    refine wp_memG (fun G8 eG8 => ?_)
    replace H := H G8 eG8
    refine wp_aload_n (z := 0) (i := 0) (r := (some h)) 1 (by decide +kernel) rfl rfl ?_
    refine wp_iload_n (z := 2) (i := 2) (x := 8) 0 (by decide +kernel) rfl rfl ?_
    refine wp_newI (N := 8) (by decide +kernel) (in_g (List.mem_of_getElem? (i := 188) (by decide +kernel)) rfl) (by decide) (by decide) (by decide) (Nat.le_of_ble_eq_true rfl) (Nat.le_of_ble_eq_true rfl) ?_
    refine wp_memM (fun G9 I10 L11 e12 => ?_)
    replace H := H G9 I10 L11 e12
    show wp X B2_init 32 [(2, .int 8), (0, .ref h), (1, .int x1)] [.ref G8.2.2, .ref h] (G9, I10, L11) 2 16 _
    obtain ⟨f13, H⟩ := H
    refine wp_putFR (idx := 19) (r := (some G8.2.2)) (by decide +kernel) fl2_19 rfl rfl rfl rfl f13 ?_
    refine wp_memG (fun G14 eG14 => ?_)
    replace H := H G14 eG14
    refine wp_aload_n (z := 0) (i := 0) (r := (some h)) 1 (by decide +kernel) rfl rfl ?_
    refine wp_iload_n (z := 2) (i := 2) (x := 8) 0 (by decide +kernel) rfl rfl ?_
    refine wp_newI (N := 8) (by decide +kernel) (in_g (List.mem_of_getElem? (i := 188) (by decide +kernel)) rfl) (by decide) (by decide) (by decide) (Nat.le_of_ble_eq_true rfl) (Nat.le_of_ble_eq_true rfl) ?_
    refine wp_memM (fun G15 I16 L17 e18 => ?_)
    replace H := H G15 I16 L17 e18
    show wp X B2_init 39 [(2, .int 8), (0, .ref h), (1, .int x1)] [.ref G14.2.2, .ref h] (G15, I16, L17) 3 24 _
    obtain ⟨f19, H⟩ := H
    refine wp_putFR (idx := 22) (r := (some G14.2.2)) (by decide +kernel) fl2_22 rfl rfl rfl rfl f19 ?_
    refine wp_memG (fun G20 eG20 => ?_)
    replace H := H G20 eG20
    exact wp_vret (by decide +kernel) rfl (Nat.le_of_ble_eq_true rfl) (Nat.le_of_ble_eq_true rfl) ⟨rfl, H⟩
  · rw [if_neg c2] at H
    refine wp_bipush (z := 40) (v := 40) (by decide +kernel) (by decide) ?_
    refine wp_goto (off := 5) (tgt := 20) (by decide +kernel) (by decide) ?_
    refine wp_istore_n (z := 2) (i := 2) (lv' := [(2, .int 40), (0, .ref h), (1, .int x1)]) (by decide +kernel) rfl (by decide) rfl ?_
    refine wp_aload_n (z := 0) (i := 0) (r := (some h)) 1 (by decide +kernel) rfl rfl ?_
    refine wp_iload_n (z := 2) (i := 2) (x := 40) 0 (by decide +kernel) rfl rfl ?_
    refine wp_newI (N := 40) (by decide +kernel) (in_g (List.mem_of_getElem? (i := 188) (by decide +kernel)) rfl) (by decide) (by decide) (by decide) (Nat.le_of_ble_eq_true rfl) (Nat.le_of_ble_eq_true rfl) ?_
    refine wp_memM (fun G21 I22 L23 e24 => ?_)
    replace H := H G21 I22 L23 e24
    show wp X B2_init 25 [(2, .int 40), (0, .ref h), (1, .int x1)] [.ref G.2.2, .ref h] (G21, I22, L23) 1 40 _
    obtain ⟨f25, H⟩ := H
    refine wp_putFR (idx := 15) (r := (some G.2.2)) (by decide +kernel) fl2_15 rfl rfl rfl rfl f25 ?_
    refine wp_memG (fun G26 eG26 => ?_)
    replace H := H G26 eG26
    refine wp_aload_n (z := 0) (i := 0) (r := (some h)) 1 (by decide +kernel) rfl rfl ?_
    refine wp_iload_n (z := 2) (i := 2) (x := 40) 0 (by decide +kernel) rfl rfl ?_
    refine wp_newI (N := 40) (by decide +kernel) (in_g (List.mem_of_getElem? (i := 188) (by decide +kernel)) rfl) (by decide) (by decide) (by decide) (Nat.le_of_ble_eq_true rfl) (Nat.le_of_ble_eq_true rfl) ?_
    refine wp_memM (fun G27 I28 L29 e30 => ?_)
    replace H := H G27 I28 L29 e30
    show wp X B2_init 32 [(2, .int 40), (0, .ref h), (1, .int x1)] [.ref G26.2.2, .ref h] (G27, I28, L29) 2 80 _
    obtain ⟨f31, H⟩ := H
    refine wp_putFR (idx := 19) (r := (some G26.2.2)) (by decide +kernel) fl2_19 rfl rfl rfl rfl f31 ?_
    refine wp_memG (fun G32 eG32 => ?_)
    replace H := H G32 eG32
    refine wp_aload_n (z := 0) (i := 0) (r := (some h)) 1 (by decide +kernel) rfl rfl ?_
    refine wp_iload_n (z := 2) (i := 2) (x := 40) 0 (by decide +kernel) rfl rfl ?_
    refine wp_newI (N := 40) (by decide +kernel) (in_g (List.mem_of_getElem? (i := 188) (by decide +kernel)) rfl) (by decide) (by decide) (by decide) (Nat.le_of_ble_eq_true rfl) (Nat.le_of_ble_eq_true rfl) ?_
    refine wp_memM (fun G33 I34 L35 e36 => ?_)
    replace H := H G33 I34 L35 e36
    show wp X B2_init 39 [(2, .int 40), (0, .ref h), (1, .int x1)] [.ref G32.2.2, .ref h] (G33, I34, L35) 3 120 _
    obtain ⟨f37, H⟩ := H
    refine wp_putFR (idx := 22) (r := (some G32.2.2)) (by decide +kernel) fl2_22 rfl rfl rfl rfl f37 ?_
    refine wp_memG (fun G38 eG38 => ?_)
    replace H := H G38 eG38
    exact wp_vret (by decide +kernel) rfl (Nat.le_of_ble_eq_true rfl) (Nat.le_of_ble_eq_true rfl) ⟨rfl, H⟩
/-! DeafWall$Reader.isLetter(I)Z -/
set_option maxRecDepth 20000 in
theorem b4_isLetter {X : XX} {G : GG} {I : Nat → Nat → Int32} {L : Nat → Nat → Int64} {h : Nat} {x1 : Int32} {Q : Int32 → (Nat → Nat → Int32) → (Nat → Nat → Int64) → Prop} (ok : OK4 G h) (H : if x1 < (0 : Int32) then (Q 0 I L) else (if (I h 5) ≤ x1 then (Q 0 I L) else (∀ r3, r3 = G.2.1 h 4 → ∃ q4, r3 = some q4 ∧ (∃ n7, G.1 q4 = some (10, n7) ∧ (vp_in x1 n7 ∧ (if (I q4 (cl x1)) < 97 then (Q 0 I L) else (∀ r9, r9 = G.2.1 h 4 → ∃ q10, r9 = some q10 ∧ (∃ n13, G.1 q10 = some (10, n13) ∧ (vp_in x1 n13 ∧ (if 122 < (I q10 (cl x1)) then (Q 0 I L) else (Q 1 I L))))))))))) : wpI X B4_isLetter 0 [(0, .ref h), (1, .int x1)] [] G I L Q := by
  refine wp_iload_n (z := 1) (i := 1) (x := x1) 1 (by decide +kernel) rfl rfl ?_
  refine wp_if_lt (off := 37) (tgt := 38) (by decide +kernel) (by decide) (fun c1 => ?_) (fun c1 => ?_)
  · rw [if_pos c1] at H
    refine wp_iconst (z := 0) (v := 0) (by decide +kernel) (by decide) ?_
    exact wp_zret (by decide +kernel) rfl (by decide) (Nat.zero_le _) (Nat.zero_le _) ⟨_, _, _, rfl, rfl, H⟩
  · rw [if_neg c1] at H
    refine wp_iload_n (z := 1) (i := 1) (x := x1) 1 (by decide +kernel) rfl rfl ?_
    refine wp_aload_n (z := 0) (i := 0) (r := (some h)) 0 (by decide +kernel) rfl rfl ?_
    refine wp_getI (idx := 21) (by decide +kernel) fl4_21 rfl ok.1 ?_
    refine wp_icmp_ge (off := 29) (tgt := 38) (by decide +kernel) (by decide) (fun c2 => ?_) (fun c2 => ?_)
    · rw [if_pos c2] at H
      refine wp_iconst (z := 0) (v := 0) (by decide +kernel) (by decide) ?_
      exact wp_zret (by decide +kernel) rfl (by decide) (Nat.zero_le _) (Nat.zero_le _) ⟨_, _, _, rfl, rfl, H⟩
    · rw [if_neg c2] at H
      refine wp_aload_n (z := 0) (i := 0) (r := (some h)) 0 (by decide +kernel) rfl rfl ?_
      refine wp_getR (idx := 9) (by decide +kernel) fl4_9 rfl ok.1 ?_
      refine wp_topr (fun r3 er3 => ?_)
      replace H := H r3 er3
      refine wp_iload_n (z := 1) (i := 1) (x := x1) 1 (by decide +kernel) rfl rfl ?_
      obtain ⟨q4, e5, H⟩ := H
      subst e5
      show wp X B4_isLetter 17 [(0, .ref h), (1, .int x1)] [.int x1, .ref q4] (G, I, L) 0 0 _
      obtain ⟨n7, f6, H⟩ := H
      obtain ⟨o16, H⟩ := H
      refine wp_bald (j := (cl x1)) (by decide +kernel) f6 o16 rfl ?_
      refine wp_bipush (z := 97) (v := 97) (by decide +kernel) (by decide) ?_
      refine wp_icmp_lt (off := 18) (tgt := 38) (by decide +kernel) (by decide) (fun c8 => ?_) (fun c8 => ?_)
      · rw [if_pos c8] at H
        refine wp_iconst (z := 0) (v := 0) (by decide +kernel) (by decide) ?_
        exact wp_zret (by decide +kernel) rfl (by decide) (Nat.zero_le _) (Nat.zero_le _) ⟨_, _, _, rfl, rfl, H⟩
      · rw [if_neg c8] at H
        refine wp_aload_n (z := 0) (i := 0) (r := (some h)) 0 (by decide +kernel) rfl rfl ?_
        refine wp_getR (idx := 9) (by decide +kernel) fl4_9 rfl ok.1 ?_
        refine wp_topr (fun r9 er9 => ?_)
        replace H := H r9 er9
        refine wp_iload_n (z := 1) (i := 1) (x := x1) 1 (by decide +kernel) rfl rfl ?_
        obtain ⟨q10, e11, H⟩ := H
        subst e11
        show wp X B4_isLetter 28 [(0, .ref h), (1, .int x1)] [.int x1, .ref q10] (G, I, L) 0 0 _
        obtain ⟨n13, f12, H⟩ := H
        obtain ⟨o15, H⟩ := H
        refine wp_bald (j := (cl x1)) (by decide +kernel) f12 o15 rfl ?_
        refine wp_bipush (z := 122) (v := 122) (by decide +kernel) (by decide) ?_
        refine wp_icmp_gt (off := 7) (tgt := 38) (by decide +kernel) (by decide) (fun c14 => ?_) (fun c14 => ?_)
        · rw [if_pos c14] at H
          refine wp_iconst (z := 0) (v := 0) (by decide +kernel) (by decide) ?_
          exact wp_zret (by decide +kernel) rfl (by decide) (Nat.zero_le _) (Nat.zero_le _) ⟨_, _, _, rfl, rfl, H⟩
        · rw [if_neg c14] at H
          refine wp_iconst (z := 1) (v := 1) (by decide +kernel) (by decide) ?_
          refine wp_goto (off := 4) (tgt := 39) (by decide +kernel) (by decide) ?_
          exact wp_zret (by decide +kernel) rfl (by decide) (Nat.zero_le _) (Nat.zero_le _) ⟨_, _, _, rfl, rfl, H⟩
/-! DeafWall$Reader.isDigit(I)Z -/
set_option maxRecDepth 20000 in
theorem b4_isDigit {X : XX} {G : GG} {I : Nat → Nat → Int32} {L : Nat → Nat → Int64} {h : Nat} {x1 : Int32} {Q : Int32 → (Nat → Nat → Int32) → (Nat → Nat → Int64) → Prop} (ok : OK4 G h) (H : if x1 < (0 : Int32) then (Q 0 I L) else (if (I h 5) ≤ x1 then (Q 0 I L) else (∀ r3, r3 = G.2.1 h 4 → ∃ q4, r3 = some q4 ∧ (∃ n7, G.1 q4 = some (10, n7) ∧ (vp_in x1 n7 ∧ (if (I q4 (cl x1)) < 48 then (Q 0 I L) else (∀ r9, r9 = G.2.1 h 4 → ∃ q10, r9 = some q10 ∧ (∃ n13, G.1 q10 = some (10, n13) ∧ (vp_in x1 n13 ∧ (if 57 < (I q10 (cl x1)) then (Q 0 I L) else (Q 1 I L))))))))))) : wpI X B4_isDigit 0 [(0, .ref h), (1, .int x1)] [] G I L Q := by
  refine wp_iload_n (z := 1) (i := 1) (x := x1) 1 (by decide +kernel) rfl rfl ?_
  refine wp_if_lt (off := 37) (tgt := 38) (by decide +kernel) (by decide) (fun c1 => ?_) (fun c1 => ?_)
  · rw [if_pos c1] at H
    refine wp_iconst (z := 0) (v := 0) (by decide +kernel) (by decide) ?_
    exact wp_zret (by decide +kernel) rfl (by decide) (Nat.zero_le _) (Nat.zero_le _) ⟨_, _, _, rfl, rfl, H⟩
  · rw [if_neg c1] at H
    refine wp_iload_n (z := 1) (i := 1) (x := x1) 1 (by decide +kernel) rfl rfl ?_
    refine wp_aload_n (z := 0) (i := 0) (r := (some h)) 0 (by decide +kernel) rfl rfl ?_
    refine wp_getI (idx := 21) (by decide +kernel) fl4_21 rfl ok.1 ?_
    refine wp_icmp_ge (off := 29) (tgt := 38) (by decide +kernel) (by decide) (fun c2 => ?_) (fun c2 => ?_)
    · rw [if_pos c2] at H
      refine wp_iconst (z := 0) (v := 0) (by decide +kernel) (by decide) ?_
      exact wp_zret (by decide +kernel) rfl (by decide) (Nat.zero_le _) (Nat.zero_le _) ⟨_, _, _, rfl, rfl, H⟩
    · rw [if_neg c2] at H
      refine wp_aload_n (z := 0) (i := 0) (r := (some h)) 0 (by decide +kernel) rfl rfl ?_
      refine wp_getR (idx := 9) (by decide +kernel) fl4_9 rfl ok.1 ?_
      refine wp_topr (fun r3 er3 => ?_)
      replace H := H r3 er3
      refine wp_iload_n (z := 1) (i := 1) (x := x1) 1 (by decide +kernel) rfl rfl ?_
      obtain ⟨q4, e5, H⟩ := H
      subst e5
      show wp X B4_isDigit 17 [(0, .ref h), (1, .int x1)] [.int x1, .ref q4] (G, I, L) 0 0 _
      obtain ⟨n7, f6, H⟩ := H
      obtain ⟨o16, H⟩ := H
      refine wp_bald (j := (cl x1)) (by decide +kernel) f6 o16 rfl ?_
      refine wp_bipush (z := 48) (v := 48) (by decide +kernel) (by decide) ?_
      refine wp_icmp_lt (off := 18) (tgt := 38) (by decide +kernel) (by decide) (fun c8 => ?_) (fun c8 => ?_)
      · rw [if_pos c8] at H
        refine wp_iconst (z := 0) (v := 0) (by decide +kernel) (by decide) ?_
        exact wp_zret (by decide +kernel) rfl (by decide) (Nat.zero_le _) (Nat.zero_le _) ⟨_, _, _, rfl, rfl, H⟩
      · rw [if_neg c8] at H
        refine wp_aload_n (z := 0) (i := 0) (r := (some h)) 0 (by decide +kernel) rfl rfl ?_
        refine wp_getR (idx := 9) (by decide +kernel) fl4_9 rfl ok.1 ?_
        refine wp_topr (fun r9 er9 => ?_)
        replace H := H r9 er9
        refine wp_iload_n (z := 1) (i := 1) (x := x1) 1 (by decide +kernel) rfl rfl ?_
        obtain ⟨q10, e11, H⟩ := H
        subst e11
        show wp X B4_isDigit 28 [(0, .ref h), (1, .int x1)] [.int x1, .ref q10] (G, I, L) 0 0 _
        obtain ⟨n13, f12, H⟩ := H
        obtain ⟨o15, H⟩ := H
        refine wp_bald (j := (cl x1)) (by decide +kernel) f12 o15 rfl ?_
        refine wp_bipush (z := 57) (v := 57) (by decide +kernel) (by decide) ?_
        refine wp_icmp_gt (off := 7) (tgt := 38) (by decide +kernel) (by decide) (fun c14 => ?_) (fun c14 => ?_)
        · rw [if_pos c14] at H
          refine wp_iconst (z := 0) (v := 0) (by decide +kernel) (by decide) ?_
          exact wp_zret (by decide +kernel) rfl (by decide) (Nat.zero_le _) (Nat.zero_le _) ⟨_, _, _, rfl, rfl, H⟩
        · rw [if_neg c14] at H
          refine wp_iconst (z := 1) (v := 1) (by decide +kernel) (by decide) ?_
          refine wp_goto (off := 4) (tgt := 39) (by decide +kernel) (by decide) ?_
          exact wp_zret (by decide +kernel) rfl (by decide) (Nat.zero_le _) (Nat.zero_le _) ⟨_, _, _, rfl, rfl, H⟩
/-! DeafWall$Reader.readNumber()V -/
set_option maxRecDepth 20000 in
theorem b4_readNumber {X : XX} {G : GG} {I : Nat → Nat → Int32} {L : Nat → Nat → Int64} {h : Nat} {Q : (Nat → Nat → Int32) → (Nat → Nat → Int64) → Prop} (ok : OK4 G h) (H : ∀ I1, I1 = up2 I h 10 0 → wpV X B4_readNumber 5 [(0, .ref h)] [] G I1 L Q) : wpV X B4_readNumber 0 [(0, .ref h)] [] G I L Q := by
  refine wp_aload_n (z := 0) (i := 0) (r := (some h)) 0 (by decide +kernel) rfl rfl ?_
  refine wp_iconst (z := 0) (v := 0) (by decide +kernel) (by decide) ?_
  refine wp_putI (idx := 95) (by decide +kernel) fl4_95 rfl ok.1 ?_
  refine wp_memI (fun I1 eI1 => ?_)
  replace H := H I1 eI1
  exact wp_sub [0] rfl H
set_option maxRecDepth 20000 in
theorem b4_readNumber_5 {X : XX} {G : GG} {I : Nat → Nat → Int32} {L : Nat → Nat → Int64} {h : Nat} {Q : (Nat → Nat → Int32) → (Nat → Nat → Int64) → Prop} (ok : OK4 G h) (H : if (I h 5) ≤ (I h 9) then (if 2 < ((I h 9) - (I h 8)) then (∀ I3, I3 = up2 I h 7 4 → Q I3 L) else (∀ I4, I4 = up2 I h 7 1 → Q I4 L)) else (wpI X B4_isDigit 0 [(0, .ref h), (1, .int (I h 9))] [] G I L (fun r7 I5 L6 => if r7 = (0 : Int32) then (if 2 < ((I5 h 9) - (I5 h 8)) then (∀ I10, I10 = up2 I5 h 7 4 → Q I10 L6) else (∀ I11, I11 = up2 I5 h 7 1 → Q I11 L6)) else (∀ r12, r12 = G.2.1 h 4 → ∃ q13, r12 = some q13 ∧ (∃ n16, G.1 q13 = some (10, n16) ∧ (vp_in (I5 h 9) n16 ∧ (∀ I17, I17 = up2 I5 h 10 (((((I5 h 10) * 10) + (I5 q13 (cl (I5 h 9)))) - 48) - ((((I5 h 10) * 10) + (I5 q13 (cl (I5 h 9)))) - 48) / 100 * 100) → ∀ I18, I18 = up2 I17 h 9 ((I17 h 9) + 1) → wpV X B4_readNumber 5 [(0, .ref h)] [] G I18 L6 Q))))))) : wpV X B4_readNumber 5 [(0, .ref h)] [] G I L Q := by
  refine wp_aload_n (z := 0) (i := 0) (r := (some h)) 0 (by decide +kernel) rfl rfl ?_
  refine wp_getI (idx := 62) (by decide +kernel) fl4_62 rfl ok.1 ?_
  refine wp_aload_n (z := 0) (i := 0) (r := (some h)) 0 (by decide +kernel) rfl rfl ?_
  refine wp_getI (idx := 21) (by decide +kernel) fl4_21 rfl ok.1 ?_
  refine wp_icmp_ge (off := 54) (tgt := 67) (by decide +kernel) (by decide) (fun c1 => ?_) (fun c1 => ?_)
  · rw [if_pos c1] at H
    refine wp_aload_n (z := 0) (i := 0) (r := (some h)) 0 (by decide +kernel) rfl rfl ?_
    refine wp_aload_n (z := 0) (i := 0) (r := (some h)) 0 (by decide +kernel) rfl rfl ?_
    refine wp_getI (idx := 62) (by decide +kernel) fl4_62 rfl ok.1 ?_
    refine wp_aload_n (z := 0) (i := 0) (r := (some h)) 0 (by decide +kernel) rfl rfl ?_
    refine wp_getI (idx := 83) (by decide +kernel) fl4_83 rfl ok.1 ?_
    refine wp_isub (by decide +kernel) ?_
    refine wp_iconst (z := 2) (v := 2) (by decide +kernel) (by decide) ?_
    refine wp_icmp_gt (off := 7) (tgt := 85) (by decide +kernel) (by decide) (fun c2 => ?_) (fun c2 => ?_)
    · rw [if_pos c2] at H
      refine wp_iconst (z := 4) (v := 4) (by decide +kernel) (by decide) ?_
      refine wp_putI (idx := 68) (by decide +kernel) fl4_68 rfl ok.1 ?_
      refine wp_memI (fun I3 eI3 => ?_)
      replace H := H I3 eI3
      exact wp_vret (by decide +kernel) rfl (Nat.zero_le _) (Nat.zero_le _) ⟨_, _, rfl, rfl, H⟩
    · rw [if_neg c2] at H
      refine wp_iconst (z := 1) (v := 1) (by decide +kernel) (by decide) ?_
      refine wp_goto (off := 4) (tgt := 86) (by decide +kernel) (by decide) ?_
      refine wp_putI (idx := 68) (by decide +kernel) fl4_68 rfl ok.1 ?_
      refine wp_memI (fun I4 eI4 => ?_)
      replace H := H I4 eI4
      exact wp_vret (by decide +kernel) rfl (Nat.zero_le _) (Nat.zero_le _) ⟨_, _, rfl, rfl, H⟩
  · rw [if_neg c1] at H
    refine wp_aload_n (z := 0) (i := 0) (r := (some h)) 0 (by decide +kernel) rfl rfl ?_
    refine wp_aload_n (z := 0) (i := 0) (r := (some h)) 0 (by decide +kernel) rfl rfl ?_
    refine wp_getI (idx := 62) (by decide +kernel) fl4_62 rfl ok.1 ?_
    refine wp_callV (idx := 89) (B2 := B4_isDigit) (As := [.int (I h 9)]) (a := h) (st := []) (by decide +kernel) m4_isDigit ml4_89 k4_isDigit e4_isDigit ck4 ok.1 (⟨Nat.le_of_ble_eq_true rfl, Nat.le_of_ble_eq_true rfl⟩ : rOK B4_readNumber B4_isDigit) rfl (Nat.le_of_ble_eq_true rfl) (Nat.le_of_ble_eq_true rfl) ⟨Nat.le_of_ble_eq_true rfl, Nat.le_of_ble_eq_true rfl⟩ rfl (wp_mono H (fun v9 M9 hq9 => ?_))
    clear H
    obtain ⟨r7, I5, L6, rfl, rfl, H⟩ := hq9
    show wp X B4_readNumber 24 [(0, .ref h)] [.int r7] (G, I5, L6) 0 0 _
    refine wp_if_eq (off := 43) (tgt := 67) (by decide +kernel) (by decide) (fun c8 => ?_) (fun c8 => ?_)
    · rw [if_pos c8] at H
      refine wp_aload_n (z := 0) (i := 0) (r := (some h)) 0 (by decide +kernel) rfl rfl ?_
      refine wp_aload_n (z := 0) (i := 0) (r := (some h)) 0 (by decide +kernel) rfl rfl ?_
      refine wp_getI (idx := 62) (by decide +kernel) fl4_62 rfl ok.1 ?_
      refine wp_aload_n (z := 0) (i := 0) (r := (some h)) 0 (by decide +kernel) rfl rfl ?_
      refine wp_getI (idx := 83) (by decide +kernel) fl4_83 rfl ok.1 ?_
      refine wp_isub (by decide +kernel) ?_
      refine wp_iconst (z := 2) (v := 2) (by decide +kernel) (by decide) ?_
      refine wp_icmp_gt (off := 7) (tgt := 85) (by decide +kernel) (by decide) (fun c9 => ?_) (fun c9 => ?_)
      · rw [if_pos c9] at H
        refine wp_iconst (z := 4) (v := 4) (by decide +kernel) (by decide) ?_
        refine wp_putI (idx := 68) (by decide +kernel) fl4_68 rfl ok.1 ?_
        refine wp_memI (fun I10 eI10 => ?_)
        replace H := H I10 eI10
        exact wp_vret (by decide +kernel) rfl (Nat.zero_le _) (Nat.zero_le _) ⟨_, _, rfl, rfl, H⟩
      · rw [if_neg c9] at H
        refine wp_iconst (z := 1) (v := 1) (by decide +kernel) (by decide) ?_
        refine wp_goto (off := 4) (tgt := 86) (by decide +kernel) (by decide) ?_
        refine wp_putI (idx := 68) (by decide +kernel) fl4_68 rfl ok.1 ?_
        refine wp_memI (fun I11 eI11 => ?_)
        replace H := H I11 eI11
        exact wp_vret (by decide +kernel) rfl (Nat.zero_le _) (Nat.zero_le _) ⟨_, _, rfl, rfl, H⟩
    · rw [if_neg c8] at H
      refine wp_aload_n (z := 0) (i := 0) (r := (some h)) 0 (by decide +kernel) rfl rfl ?_
      refine wp_aload_n (z := 0) (i := 0) (r := (some h)) 0 (by decide +kernel) rfl rfl ?_
      refine wp_getI (idx := 95) (by decide +kernel) fl4_95 rfl ok.1 ?_
      refine wp_bipush (z := 10) (v := 10) (by decide +kernel) (by decide) ?_
      refine wp_imul (by decide +kernel) ?_
      refine wp_aload_n (z := 0) (i := 0) (r := (some h)) 0 (by decide +kernel) rfl rfl ?_
      refine wp_getR (idx := 9) (by decide +kernel) fl4_9 rfl ok.1 ?_
      refine wp_topr (fun r12 er12 => ?_)
      replace H := H r12 er12
      refine wp_aload_n (z := 0) (i := 0) (r := (some h)) 0 (by decide +kernel) rfl rfl ?_
      refine wp_getI (idx := 62) (by decide +kernel) fl4_62 rfl ok.1 ?_
      obtain ⟨q13, e14, H⟩ := H
      subst e14
      show wp X B4_readNumber 43 [(0, .ref h)] [.int (I5 h 9), .ref q13, .int ((I5 h 10) * 10), .ref h] (G, I5, L6) 0 0 _
      obtain ⟨n16, f15, H⟩ := H
      obtain ⟨o19, H⟩ := H
      refine wp_bald (j := (cl (I5 h 9))) (by decide +kernel) f15 o19 rfl ?_
      refine wp_iadd (by decide +kernel) ?_
      refine wp_bipush (z := 48) (v := 48) (by decide +kernel) (by decide) ?_
      refine wp_isub (by decide +kernel) ?_
      refine wp_bipush (z := 100) (v := 100) (by decide +kernel) (by decide) ?_
      refine wp_irem (by decide +kernel) (by decide) ?_
      refine wp_putI (idx := 95) (by decide +kernel) fl4_95 rfl ok.1 ?_
      refine wp_memI (fun I17 eI17 => ?_)
      replace H := H I17 eI17
      refine wp_aload_n (z := 0) (i := 0) (r := (some h)) 0 (by decide +kernel) rfl rfl ?_
      refine wp_dup (by decide +kernel) rfl ?_
      refine wp_getI (idx := 62) (by decide +kernel) fl4_62 rfl ok.1 ?_
      refine wp_iconst (z := 1) (v := 1) (by decide +kernel) (by decide) ?_
      refine wp_iadd (by decide +kernel) ?_
      refine wp_putI (idx := 62) (by decide +kernel) fl4_62 rfl ok.1 ?_
      refine wp_memI (fun I18 eI18 => ?_)
      replace H := H I18 eI18
      refine wp_goto (off := -59) (tgt := 5) (by decide +kernel) (by decide) ?_
      exact wp_sub [0] rfl H
/-! DeafWall$Reader.nextToken()V -/
set_option maxRecDepth 20000 in
theorem b4_nextToken {X : XX} {G : GG} {I : Nat → Nat → Int32} {L : Nat → Nat → Int64} {h : Nat} {Q : (Nat → Nat → Int32) → (Nat → Nat → Int64) → Prop} (ok : OK4 G h) (H : ∀ I1, I1 = up2 I h 8 (I h 9) → wpV X B4_nextToken 8 [(0, .ref h)] [] G I1 L Q) : wpV X B4_nextToken 0 [(0, .ref h)] [] G I L Q := by
  refine wp_aload_n (z := 0) (i := 0) (r := (some h)) 0 (by decide +kernel) rfl rfl ?_
  refine wp_aload_n (z := 0) (i := 0) (r := (some h)) 0 (by decide +kernel) rfl rfl ?_
  refine wp_getI (idx := 62) (by decide +kernel) fl4_62 rfl ok.1 ?_
  refine wp_putI (idx := 83) (by decide +kernel) fl4_83 rfl ok.1 ?_
  refine wp_memI (fun I1 eI1 => ?_)
  replace H := H I1 eI1
  exact wp_sub [0] rfl H
set_option maxRecDepth 20000 in
theorem b4_nextToken_8 {X : XX} {G : GG} {I : Nat → Nat → Int32} {L : Nat → Nat → Int64} {h : Nat} {Q : (Nat → Nat → Int32) → (Nat → Nat → Int64) → Prop} (ok : OK4 G h) (H : if (I h 5) ≤ (I h 8) then (wpV X B4_nextToken 60 [(0, .ref h)] [] G I L Q) else (∀ r2, r2 = G.2.1 h 4 → ∃ q3, r2 = some q3 ∧ (∃ n6, G.1 q3 = some (10, n6) ∧ (vp_in (I h 8) n6 ∧ (if (I q3 (cl (I h 8))) = 10 then (∀ I8, I8 = up2 I h 8 ((I h 8) + 1) → wpV X B4_nextToken 8 [(0, .ref h)] [] G I8 L Q) else (∀ r9, r9 = G.2.1 h 4 → ∃ q10, r9 = some q10 ∧ (∃ n13, G.1 q10 = some (10, n13) ∧ (vp_in (I h 8) n13 ∧ (if (I q10 (cl (I h 8))) = 32 then (∀ I15, I15 = up2 I h 8 ((I h 8) + 1) → wpV X B4_nextToken 8 [(0, .ref h)] [] G I15 L Q) else (wpV X B4_nextToken 60 [(0, .ref h)] [] G I L Q)))))))))) : wpV X B4_nextToken 8 [(0, .ref h)] [] G I L Q := by
  refine wp_aload_n (z := 0) (i := 0) (r := (some h)) 0 (by decide +kernel) rfl rfl ?_
  refine wp_getI (idx := 83) (by decide +kernel) fl4_83 rfl ok.1 ?_
  refine wp_aload_n (z := 0) (i := 0) (r := (some h)) 0 (by decide +kernel) rfl rfl ?_
  refine wp_getI (idx := 21) (by decide +kernel) fl4_21 rfl ok.1 ?_
  refine wp_icmp_ge (off := 44) (tgt := 60) (by decide +kernel) (by decide) (fun c1 => ?_) (fun c1 => ?_)
  · rw [if_pos c1] at H
    exact wp_sub [0] rfl H
  · rw [if_neg c1] at H
    refine wp_aload_n (z := 0) (i := 0) (r := (some h)) 0 (by decide +kernel) rfl rfl ?_
    refine wp_getR (idx := 9) (by decide +kernel) fl4_9 rfl ok.1 ?_
    refine wp_topr (fun r2 er2 => ?_)
    replace H := H r2 er2
    refine wp_aload_n (z := 0) (i := 0) (r := (some h)) 0 (by decide +kernel) rfl rfl ?_
    refine wp_getI (idx := 83) (by decide +kernel) fl4_83 rfl ok.1 ?_
    obtain ⟨q3, e4, H⟩ := H
    subst e4
    show wp X B4_nextToken 27 [(0, .ref h)] [.int (I h 8), .ref q3] (G, I, L) 0 0 _
    obtain ⟨n6, f5, H⟩ := H
    obtain ⟨o17, H⟩ := H
    refine wp_bald (j := (cl (I h 8))) (by decide +kernel) f5 o17 rfl ?_
    refine wp_bipush (z := 10) (v := 10) (by decide +kernel) (by decide) ?_
    refine wp_icmp_eq (off := 17) (tgt := 47) (by decide +kernel) (by decide) (fun c7 => ?_) (fun c7 => ?_)
    · rw [if_pos c7] at H
      refine wp_aload_n (z := 0) (i := 0) (r := (some h)) 0 (by decide +kernel) rfl rfl ?_
      refine wp_dup (by decide +kernel) rfl ?_
      refine wp_getI (idx := 83) (by decide +kernel) fl4_83 rfl ok.1 ?_
      refine wp_iconst (z := 1) (v := 1) (by decide +kernel) (by decide) ?_
      refine wp_iadd (by decide +kernel) ?_
      refine wp_putI (idx := 83) (by decide +kernel) fl4_83 rfl ok.1 ?_
      refine wp_memI (fun I8 eI8 => ?_)
      replace H := H I8 eI8
      refine wp_goto (off := -49) (tgt := 8) (by decide +kernel) (by decide) ?_
      exact wp_sub [0] rfl H
    · rw [if_neg c7] at H
      refine wp_aload_n (z := 0) (i := 0) (r := (some h)) 0 (by decide +kernel) rfl rfl ?_
      refine wp_getR (idx := 9) (by decide +kernel) fl4_9 rfl ok.1 ?_
      refine wp_topr (fun r9 er9 => ?_)
      replace H := H r9 er9
      refine wp_aload_n (z := 0) (i := 0) (r := (some h)) 0 (by decide +kernel) rfl rfl ?_
      refine wp_getI (idx := 83) (by decide +kernel) fl4_83 rfl ok.1 ?_
      obtain ⟨q10, e11, H⟩ := H
      subst e11
      show wp X B4_nextToken 41 [(0, .ref h)] [.int (I h 8), .ref q10] (G, I, L) 0 0 _
      obtain ⟨n13, f12, H⟩ := H
      obtain ⟨o16, H⟩ := H
      refine wp_bald (j := (cl (I h 8))) (by decide +kernel) f12 o16 rfl ?_
      refine wp_bipush (z := 32) (v := 32) (by decide +kernel) (by decide) ?_
      refine wp_icmp_ne (off := 16) (tgt := 60) (by decide +kernel) (by decide) (fun c14 => ?_) (fun c14 => ?_)
      · rw [if_neg c14] at H
        exact wp_sub [0] rfl H
      · rw [if_pos c14] at H
        refine wp_aload_n (z := 0) (i := 0) (r := (some h)) 0 (by decide +kernel) rfl rfl ?_
        refine wp_dup (by decide +kernel) rfl ?_
        refine wp_getI (idx := 83) (by decide +kernel) fl4_83 rfl ok.1 ?_
        refine wp_iconst (z := 1) (v := 1) (by decide +kernel) (by decide) ?_
        refine wp_iadd (by decide +kernel) ?_
        refine wp_putI (idx := 83) (by decide +kernel) fl4_83 rfl ok.1 ?_
        refine wp_memI (fun I15 eI15 => ?_)
        replace H := H I15 eI15
        refine wp_goto (off := -49) (tgt := 8) (by decide +kernel) (by decide) ?_
        exact wp_sub [0] rfl H
set_option maxRecDepth 20000 in
theorem b4_nextToken_60 {X : XX} {G : GG} {I : Nat → Nat → Int32} {L : Nat → Nat → Int64} {h : Nat} {Q : (Nat → Nat → Int32) → (Nat → Nat → Int64) → Prop} (ok : OK4 G h) (H : ∀ I1, I1 = up2 I h 9 (I h 8) → if (I1 h 8) < (I1 h 5) then (wpI X B4_isLetter 0 [(0, .ref h), (1, .int (I1 h 8))] [] G I1 L (fun r5 I3 L4 => if r5 = (0 : Int32) then (wpI X B4_isDigit 0 [(0, .ref h), (1, .int (I3 h 8))] [] G I3 L4 (fun r9 I7 L8 => if r9 = (0 : Int32) then (∀ r11, r11 = G.2.1 h 4 → ∃ q12, r11 = some q12 ∧ (∃ n15, G.1 q12 = some (10, n15) ∧ (vp_in (I7 h 8) n15 ∧ (if (I7 q12 (cl (I7 h 8))) = 59 then (∀ I19, I19 = up2 I7 h 7 2 → ∀ I20, I20 = up2 I19 h 9 ((I19 h 9) + 1) → Q I20 L8) else (∀ I17, I17 = up2 I7 h 7 4 → ∀ I18, I18 = up2 I17 h 9 ((I17 h 9) + 1) → Q I18 L8))))) else (wpV X B4_readNumber 0 [(0, .ref h)] [] G I7 L8 (fun I22 L23 => Q I22 L23)))) else (∀ I25, I25 = up2 I3 h 7 0 → wpV X B4_nextToken 103 [(0, .ref h)] [] G I25 L4 Q))) else (∀ I26, I26 = up2 I1 h 7 3 → Q I26 L)) : wpV X B4_nextToken 60 [(0, .ref h)] [] G I L Q := by
  refine wp_aload_n (z := 0) (i := 0) (r := (some h)) 0 (by decide +kernel) rfl rfl ?_
  refine wp_aload_n (z := 0) (i := 0) (r := (some h)) 0 (by decide +kernel) rfl rfl ?_
  refine wp_getI (idx := 83) (by decide +kernel) fl4_83 rfl ok.1 ?_
  refine wp_putI (idx := 62) (by decide +kernel) fl4_62 rfl ok.1 ?_
  refine wp_memI (fun I1 eI1 => ?_)
  replace H := H I1 eI1
  refine wp_aload_n (z := 0) (i := 0) (r := (some h)) 0 (by decide +kernel) rfl rfl ?_
  refine wp_getI (idx := 83) (by decide +kernel) fl4_83 rfl ok.1 ?_
  refine wp_aload_n (z := 0) (i := 0) (r := (some h)) 0 (by decide +kernel) rfl rfl ?_
  refine wp_getI (idx := 21) (by decide +kernel) fl4_21 rfl ok.1 ?_
  refine wp_icmp_lt (off := 11) (tgt := 87) (by decide +kernel) (by decide) (fun c2 => ?_) (fun c2 => ?_)
  · rw [if_pos c2] at H
    refine wp_aload_n (z := 0) (i := 0) (r := (some h)) 0 (by decide +kernel) rfl rfl ?_
    refine wp_aload_n (z := 0) (i := 0) (r := (some h)) 0 (by decide +kernel) rfl rfl ?_
    refine wp_getI (idx := 83) (by decide +kernel) fl4_83 rfl ok.1 ?_
    refine wp_callV (idx := 86) (B2 := B4_isLetter) (As := [.int (I1 h 8)]) (a := h) (st := []) (by decide +kernel) m4_isLetter ml4_86 k4_isLetter e4_isLetter ck4 ok.1 (⟨Nat.le_of_ble_eq_true rfl, Nat.le_of_ble_eq_true rfl⟩ : rOK B4_nextToken B4_isLetter) rfl (Nat.le_of_ble_eq_true rfl) (Nat.le_of_ble_eq_true rfl) ⟨Nat.le_of_ble_eq_true rfl, Nat.le_of_ble_eq_true rfl⟩ rfl (wp_mono H (fun v9 M9 hq9 => ?_))
    clear H
    obtain ⟨r5, I3, L4, rfl, rfl, H⟩ := hq9
    show wp X B4_nextToken 95 [(0, .ref h)] [.int r5] (G, I3, L4) 0 0 _
    refine wp_if_eq (off := 43) (tgt := 138) (by decide +kernel) (by decide) (fun c6 => ?_) (fun c6 => ?_)
    · rw [if_pos c6] at H
      refine wp_aload_n (z := 0) (i := 0) (r := (some h)) 0 (by decide +kernel) rfl rfl ?_
      refine wp_aload_n (z := 0) (i := 0) (r := (some h)) 0 (by decide +kernel) rfl rfl ?_
      refine wp_getI (idx := 83) (by decide +kernel) fl4_83 rfl ok.1 ?_
      refine wp_callV (idx := 89) (B2 := B4_isDigit) (As := [.int (I3 h 8)]) (a := h) (st := []) (by decide +kernel) m4_isDigit ml4_89 k4_isDigit e4_isDigit ck4 ok.1 (⟨Nat.le_of_ble_eq_true rfl, Nat.le_of_ble_eq_true rfl⟩ : rOK B4_nextToken B4_isDigit) rfl (Nat.le_of_ble_eq_true rfl) (Nat.le_of_ble_eq_true rfl) ⟨Nat.le_of_ble_eq_true rfl, Nat.le_of_ble_eq_true rfl⟩ rfl (wp_mono H (fun v9 M9 hq9 => ?_))
      clear H
      obtain ⟨r9, I7, L8, rfl, rfl, H⟩ := hq9
      show wp X B4_nextToken 146 [(0, .ref h)] [.int r9] (G, I7, L8) 0 0 _
      refine wp_if_eq (off := 10) (tgt := 156) (by decide +kernel) (by decide) (fun c10 => ?_) (fun c10 => ?_)
      · rw [if_pos c10] at H
        refine wp_aload_n (z := 0) (i := 0) (r := (some h)) 0 (by decide +kernel) rfl rfl ?_
        refine wp_aload_n (z := 0) (i := 0) (r := (some h)) 0 (by decide +kernel) rfl rfl ?_
        refine wp_getR (idx := 9) (by decide +kernel) fl4_9 rfl ok.1 ?_
        refine wp_topr (fun r11 er11 => ?_)
        replace H := H r11 er11
        refine wp_aload_n (z := 0) (i := 0) (r := (some h)) 0 (by decide +kernel) rfl rfl ?_
        refine wp_getI (idx := 83) (by decide +kernel) fl4_83 rfl ok.1 ?_
        obtain ⟨q12, e13, H⟩ := H
        subst e13
        show wp X B4_nextToken 165 [(0, .ref h)] [.int (I7 h 8), .ref q12, .ref h] (G, I7, L8) 0 0 _
        obtain ⟨n15, f14, H⟩ := H
        obtain ⟨o21, H⟩ := H
        refine wp_bald (j := (cl (I7 h 8))) (by decide +kernel) f14 o21 rfl ?_
        refine wp_bipush (z := 59) (v := 59) (by decide +kernel) (by decide) ?_
        refine wp_icmp_ne (off := 7) (tgt := 175) (by decide +kernel) (by decide) (fun c16 => ?_) (fun c16 => ?_)
        · rw [if_neg c16] at H
          refine wp_iconst (z := 4) (v := 4) (by decide +kernel) (by decide) ?_
          refine wp_putI (idx := 68) (by decide +kernel) fl4_68 rfl ok.1 ?_
          refine wp_memI (fun I17 eI17 => ?_)
          replace H := H I17 eI17
          refine wp_aload_n (z := 0) (i := 0) (r := (some h)) 0 (by decide +kernel) rfl rfl ?_
          refine wp_dup (by decide +kernel) rfl ?_
          refine wp_getI (idx := 62) (by decide +kernel) fl4_62 rfl ok.1 ?_
          refine wp_iconst (z := 1) (v := 1) (by decide +kernel) (by decide) ?_
          refine wp_iadd (by decide +kernel) ?_
          refine wp_putI (idx := 62) (by decide +kernel) fl4_62 rfl ok.1 ?_
          refine wp_memI (fun I18 eI18 => ?_)
          replace H := H I18 eI18
          exact wp_vret (by decide +kernel) rfl (Nat.zero_le _) (Nat.zero_le _) ⟨_, _, rfl, rfl, H⟩
        · rw [if_pos c16] at H
          refine wp_iconst (z := 2) (v := 2) (by decide +kernel) (by decide) ?_
          refine wp_goto (off := 4) (tgt := 176) (by decide +kernel) (by decide) ?_
          refine wp_putI (idx := 68) (by decide +kernel) fl4_68 rfl ok.1 ?_
          refine wp_memI (fun I19 eI19 => ?_)
          replace H := H I19 eI19
          refine wp_aload_n (z := 0) (i := 0) (r := (some h)) 0 (by decide +kernel) rfl rfl ?_
          refine wp_dup (by decide +kernel) rfl ?_
          refine wp_getI (idx := 62) (by decide +kernel) fl4_62 rfl ok.1 ?_
          refine wp_iconst (z := 1) (v := 1) (by decide +kernel) (by decide) ?_
          refine wp_iadd (by decide +kernel) ?_
          refine wp_putI (idx := 62) (by decide +kernel) fl4_62 rfl ok.1 ?_
          refine wp_memI (fun I20 eI20 => ?_)
          replace H := H I20 eI20
          exact wp_vret (by decide +kernel) rfl (Nat.zero_le _) (Nat.zero_le _) ⟨_, _, rfl, rfl, H⟩
      · rw [if_neg c10] at H
        refine wp_aload_n (z := 0) (i := 0) (r := (some h)) 0 (by decide +kernel) rfl rfl ?_
        refine wp_callV (idx := 92) (B2 := B4_readNumber) (As := []) (a := h) (st := []) (by decide +kernel) m4_readNumber ml4_92 k4_readNumber e4_readNumber ck4 ok.1 (⟨Nat.le_of_ble_eq_true rfl, Nat.le_of_ble_eq_true rfl⟩ : rOK B4_nextToken B4_readNumber) rfl (Nat.le_of_ble_eq_true rfl) (Nat.le_of_ble_eq_true rfl) ⟨Nat.le_of_ble_eq_true rfl, Nat.le_of_ble_eq_true rfl⟩ rfl (wp_mono H (fun v9 M9 hq9 => ?_))
        clear H
        obtain ⟨I22, L23, rfl, rfl, H⟩ := hq9
        show wp X B4_nextToken 153 [(0, .ref h)] [] (G, I22, L23) 0 0 _
        refine wp_goto (off := 36) (tgt := 189) (by decide +kernel) (by decide) ?_
        exact wp_vret (by decide +kernel) rfl (Nat.zero_le _) (Nat.zero_le _) ⟨_, _, rfl, rfl, H⟩
    · rw [if_neg c6] at H
      refine wp_aload_n (z := 0) (i := 0) (r := (some h)) 0 (by decide +kernel) rfl rfl ?_
      refine wp_iconst (z := 0) (v := 0) (by decide +kernel) (by decide) ?_
      refine wp_putI (idx := 68) (by decide +kernel) fl4_68 rfl ok.1 ?_
      refine wp_memI (fun I25 eI25 => ?_)
      replace H := H I25 eI25
      exact wp_sub [0] rfl H
  · rw [if_neg c2] at H
    refine wp_aload_n (z := 0) (i := 0) (r := (some h)) 0 (by decide +kernel) rfl rfl ?_
    refine wp_iconst (z := 3) (v := 3) (by decide +kernel) (by decide) ?_
    refine wp_putI (idx := 68) (by decide +kernel) fl4_68 rfl ok.1 ?_
    refine wp_memI (fun I26 eI26 => ?_)
    replace H := H I26 eI26
    refine wp_goto (off := 105) (tgt := 189) (by decide +kernel) (by decide) ?_
    exact wp_vret (by decide +kernel) rfl (Nat.zero_le _) (Nat.zero_le _) ⟨_, _, rfl, rfl, H⟩
set_option maxRecDepth 20000 in
theorem b4_nextToken_103 {X : XX} {G : GG} {I : Nat → Nat → Int32} {L : Nat → Nat → Int64} {h : Nat} {Q : (Nat → Nat → Int32) → (Nat → Nat → Int64) → Prop} (ok : OK4 G h) (H : if (I h 5) ≤ (I h 9) then (Q I L) else (wpI X B4_isLetter 0 [(0, .ref h), (1, .int (I h 9))] [] G I L (fun r4 I2 L3 => if r4 = (0 : Int32) then (Q I2 L3) else (∀ I6, I6 = up2 I2 h 9 ((I2 h 9) + 1) → wpV X B4_nextToken 103 [(0, .ref h)] [] G I6 L3 Q)))) : wpV X B4_nextToken 103 [(0, .ref h)] [] G I L Q := by
  refine wp_aload_n (z := 0) (i := 0) (r := (some h)) 0 (by decide +kernel) rfl rfl ?_
  refine wp_getI (idx := 62) (by decide +kernel) fl4_62 rfl ok.1 ?_
  refine wp_aload_n (z := 0) (i := 0) (r := (some h)) 0 (by decide +kernel) rfl rfl ?_
  refine wp_getI (idx := 21) (by decide +kernel) fl4_21 rfl ok.1 ?_
  refine wp_icmp_ge (off := 78) (tgt := 189) (by decide +kernel) (by decide) (fun c1 => ?_) (fun c1 => ?_)
  · rw [if_pos c1] at H
    exact wp_vret (by decide +kernel) rfl (Nat.zero_le _) (Nat.zero_le _) ⟨_, _, rfl, rfl, H⟩
  · rw [if_neg c1] at H
    refine wp_aload_n (z := 0) (i := 0) (r := (some h)) 0 (by decide +kernel) rfl rfl ?_
    refine wp_aload_n (z := 0) (i := 0) (r := (some h)) 0 (by decide +kernel) rfl rfl ?_
    refine wp_getI (idx := 62) (by decide +kernel) fl4_62 rfl ok.1 ?_
    refine wp_callV (idx := 86) (B2 := B4_isLetter) (As := [.int (I h 9)]) (a := h) (st := []) (by decide +kernel) m4_isLetter ml4_86 k4_isLetter e4_isLetter ck4 ok.1 (⟨Nat.le_of_ble_eq_true rfl, Nat.le_of_ble_eq_true rfl⟩ : rOK B4_nextToken B4_isLetter) rfl (Nat.le_of_ble_eq_true rfl) (Nat.le_of_ble_eq_true rfl) ⟨Nat.le_of_ble_eq_true rfl, Nat.le_of_ble_eq_true rfl⟩ rfl (wp_mono H (fun v9 M9 hq9 => ?_))
    clear H
    obtain ⟨r4, I2, L3, rfl, rfl, H⟩ := hq9
    show wp X B4_nextToken 122 [(0, .ref h)] [.int r4] (G, I2, L3) 0 0 _
    refine wp_if_eq (off := 67) (tgt := 189) (by decide +kernel) (by decide) (fun c5 => ?_) (fun c5 => ?_)
    · rw [if_pos c5] at H
      exact wp_vret (by decide +kernel) rfl (Nat.zero_le _) (Nat.zero_le _) ⟨_, _, rfl, rfl, H⟩
    · rw [if_neg c5] at H
      refine wp_aload_n (z := 0) (i := 0) (r := (some h)) 0 (by decide +kernel) rfl rfl ?_
      refine wp_dup (by decide +kernel) rfl ?_
      refine wp_getI (idx := 62) (by decide +kernel) fl4_62 rfl ok.1 ?_
      refine wp_iconst (z := 1) (v := 1) (by decide +kernel) (by decide) ?_
      refine wp_iadd (by decide +kernel) ?_
      refine wp_putI (idx := 62) (by decide +kernel) fl4_62 rfl ok.1 ?_
      refine wp_memI (fun I6 eI6 => ?_)
      replace H := H I6 eI6
      refine wp_goto (off := -32) (tgt := 103) (by decide +kernel) (by decide) ?_
      exact wp_sub [0] rfl H
/-! DeafWall$Reader.wordOf(I)Ljava/lang/String; -/
set_option maxRecDepth 20000 in
theorem b4_wordOf {X : XX} {G : GG} {I : Nat → Nat → Int32} {L : Nat → Nat → Int64} {x0 : Int32} {Q : Nat → (Nat → Nat → Int32) → (Nat → Nat → Int64) → Prop}  (H : if x0 = 0 then (Q 0 I L) else (if x0 = 1 then (Q 1 I L) else (if x0 = 2 then (Q 2 I L) else (if x0 = 3 then (Q 3 I L) else (if x0 = 4 then (Q 4 I L) else (if x0 = 5 then (Q 5 I L) else (if x0 = 6 then (Q 6 I L) else (if x0 = 7 then (Q 7 I L) else (if x0 = 8 then (Q 8 I L) else (if x0 = 9 then (Q 9 I L) else (if x0 = 10 then (Q 10 I L) else (if x0 = 11 then (Q 11 I L) else (if x0 = 12 then (Q 12 I L) else (Q 13 I L)))))))))))))) : wpW X B4_wordOf 0 [(0, .int x0)] [] G I L Q := by
  refine wp_iload_n (z := 0) (i := 0) (x := x0) 0 (by decide +kernel) rfl rfl ?_
  by_cases c1 : x0 = 0
  · rw [if_pos c1] at H
    refine wp_tableIn (dflt := 106) (lo := 0) (hi := 12) (offs := #[67, 70, 73, 76, 79, 82, 85, 88, 91, 94, 97, 100, 103]) (len := 67) (off := 67) (tgt := 68) (by decide +kernel) (by rw [c1]; decide) (by rw [c1]; decide) (by rw [c1]; rfl) (by decide) ?_
    refine wp_ldcS (idx := 142) (j := 0) (tx := "wall") (by decide +kernel) rfl rfl ?_
    exact wp_aret (r := some (X.2.2.2 (10 + 0))) (by decide +kernel) rfl (Nat.zero_le _) (Nat.zero_le _) ⟨0, _, _, rfl, by decide, rfl, H⟩
  rw [if_neg c1] at H
  by_cases c2 : x0 = 1
  · rw [if_pos c2] at H
    refine wp_tableIn (dflt := 106) (lo := 0) (hi := 12) (offs := #[67, 70, 73, 76, 79, 82, 85, 88, 91, 94, 97, 100, 103]) (len := 67) (off := 70) (tgt := 71) (by decide +kernel) (by rw [c2]; decide) (by rw [c2]; decide) (by rw [c2]; rfl) (by decide) ?_
    refine wp_ldcS (idx := 143) (j := 1) (tx := "dead") (by decide +kernel) rfl rfl ?_
    exact wp_aret (r := some (X.2.2.2 (10 + 1))) (by decide +kernel) rfl (Nat.zero_le _) (Nat.zero_le _) ⟨1, _, _, rfl, by decide, rfl, H⟩
  rw [if_neg c2] at H
  by_cases c3 : x0 = 2
  · rw [if_pos c3] at H
    refine wp_tableIn (dflt := 106) (lo := 0) (hi := 12) (offs := #[67, 70, 73, 76, 79, 82, 85, 88, 91, 94, 97, 100, 103]) (len := 67) (off := 73) (tgt := 74) (by decide +kernel) (by rw [c3]; decide) (by rw [c3]; decide) (by rw [c3]; rfl) (by decide) ?_
    refine wp_ldcS (idx := 145) (j := 2) (tx := "source") (by decide +kernel) rfl rfl ?_
    exact wp_aret (r := some (X.2.2.2 (10 + 2))) (by decide +kernel) rfl (Nat.zero_le _) (Nat.zero_le _) ⟨2, _, _, rfl, by decide, rfl, H⟩
  rw [if_neg c3] at H
  by_cases c4 : x0 = 3
  · rw [if_pos c4] at H
    refine wp_tableIn (dflt := 106) (lo := 0) (hi := 12) (offs := #[67, 70, 73, 76, 79, 82, 85, 88, 91, 94, 97, 100, 103]) (len := 67) (off := 76) (tgt := 77) (by decide +kernel) (by rw [c4]; decide) (by rw [c4]; decide) (by rw [c4]; rfl) (by decide) ?_
    refine wp_ldcS (idx := 147) (j := 3) (tx := "feeler") (by decide +kernel) rfl rfl ?_
    exact wp_aret (r := some (X.2.2.2 (10 + 3))) (by decide +kernel) rfl (Nat.zero_le _) (Nat.zero_le _) ⟨3, _, _, rfl, by decide, rfl, H⟩
  rw [if_neg c4] at H
  by_cases c5 : x0 = 4
  · rw [if_pos c5] at H
    refine wp_tableIn (dflt := 106) (lo := 0) (hi := 12) (offs := #[67, 70, 73, 76, 79, 82, 85, 88, 91, 94, 97, 100, 103]) (len := 67) (off := 79) (tgt := 80) (by decide +kernel) (by rw [c5]; decide) (by rw [c5]; decide) (by rw [c5]; rfl) (by decide) ?_
    refine wp_ldcS (idx := 149) (j := 4) (tx := "tale") (by decide +kernel) rfl rfl ?_
    exact wp_aret (r := some (X.2.2.2 (10 + 4))) (by decide +kernel) rfl (Nat.zero_le _) (Nat.zero_le _) ⟨4, _, _, rfl, by decide, rfl, H⟩
  rw [if_neg c5] at H
  by_cases c6 : x0 = 5
  · rw [if_pos c6] at H
    refine wp_tableIn (dflt := 106) (lo := 0) (hi := 12) (offs := #[67, 70, 73, 76, 79, 82, 85, 88, 91, 94, 97, 100, 103]) (len := 67) (off := 82) (tgt := 83) (by decide +kernel) (by rw [c6]; decide) (by rw [c6]; decide) (by rw [c6]; rfl) (by decide) ?_
    refine wp_ldcS (idx := 151) (j := 5) (tx := "play") (by decide +kernel) rfl rfl ?_
    exact wp_aret (r := some (X.2.2.2 (10 + 5))) (by decide +kernel) rfl (Nat.zero_le _) (Nat.zero_le _) ⟨5, _, _, rfl, by decide, rfl, H⟩
  rw [if_neg c6] at H
  by_cases c7 : x0 = 6
  · rw [if_pos c7] at H
    refine wp_tableIn (dflt := 106) (lo := 0) (hi := 12) (offs := #[67, 70, 73, 76, 79, 82, 85, 88, 91, 94, 97, 100, 103]) (len := 67) (off := 85) (tgt := 86) (by decide +kernel) (by rw [c7]; decide) (by rw [c7]; decide) (by rw [c7]; rfl) (by decide) ?_
    refine wp_ldcS (idx := 153) (j := 6) (tx := "wet") (by decide +kernel) rfl rfl ?_
    exact wp_aret (r := some (X.2.2.2 (10 + 6))) (by decide +kernel) rfl (Nat.zero_le _) (Nat.zero_le _) ⟨6, _, _, rfl, by decide, rfl, H⟩
  rw [if_neg c7] at H
  by_cases c8 : x0 = 7
  · rw [if_pos c8] at H
    refine wp_tableIn (dflt := 106) (lo := 0) (hi := 12) (offs := #[67, 70, 73, 76, 79, 82, 85, 88, 91, 94, 97, 100, 103]) (len := 67) (off := 88) (tgt := 89) (by decide +kernel) (by rw [c8]; decide) (by rw [c8]; decide) (by rw [c8]; rfl) (by decide) ?_
    refine wp_ldcS (idx := 155) (j := 7) (tx := "dry") (by decide +kernel) rfl rfl ?_
    exact wp_aret (r := some (X.2.2.2 (10 + 7))) (by decide +kernel) rfl (Nat.zero_le _) (Nat.zero_le _) ⟨7, _, _, rfl, by decide, rfl, H⟩
  rw [if_neg c8] at H
  by_cases c9 : x0 = 8
  · rw [if_pos c9] at H
    refine wp_tableIn (dflt := 106) (lo := 0) (hi := 12) (offs := #[67, 70, 73, 76, 79, 82, 85, 88, 91, 94, 97, 100, 103]) (len := 67) (off := 91) (tgt := 92) (by decide +kernel) (by rw [c9]; decide) (by rw [c9]; decide) (by rw [c9]; rfl) (by decide) ?_
    refine wp_ldcS (idx := 157) (j := 8) (tx := "hush") (by decide +kernel) rfl rfl ?_
    exact wp_aret (r := some (X.2.2.2 (10 + 8))) (by decide +kernel) rfl (Nat.zero_le _) (Nat.zero_le _) ⟨8, _, _, rfl, by decide, rfl, H⟩
  rw [if_neg c9] at H
  by_cases c10 : x0 = 9
  · rw [if_pos c10] at H
    refine wp_tableIn (dflt := 106) (lo := 0) (hi := 12) (offs := #[67, 70, 73, 76, 79, 82, 85, 88, 91, 94, 97, 100, 103]) (len := 67) (off := 94) (tgt := 95) (by decide +kernel) (by rw [c10]; decide) (by rw [c10]; decide) (by rw [c10]; rfl) (by decide) ?_
    refine wp_ldcS (idx := 159) (j := 9) (tx := "touch") (by decide +kernel) rfl rfl ?_
    exact wp_aret (r := some (X.2.2.2 (10 + 9))) (by decide +kernel) rfl (Nat.zero_le _) (Nat.zero_le _) ⟨9, _, _, rfl, by decide, rfl, H⟩
  rw [if_neg c10] at H
  by_cases c11 : x0 = 10
  · rw [if_pos c11] at H
    refine wp_tableIn (dflt := 106) (lo := 0) (hi := 12) (offs := #[67, 70, 73, 76, 79, 82, 85, 88, 91, 94, 97, 100, 103]) (len := 67) (off := 97) (tgt := 98) (by decide +kernel) (by rw [c11]; decide) (by rw [c11]; decide) (by rw [c11]; rfl) (by decide) ?_
    refine wp_ldcS (idx := 161) (j := 10) (tx := "move") (by decide +kernel) rfl rfl ?_
    exact wp_aret (r := some (X.2.2.2 (10 + 10))) (by decide +kernel) rfl (Nat.zero_le _) (Nat.zero_le _) ⟨10, _, _, rfl, by decide, rfl, H⟩
  rw [if_neg c11] at H
  by_cases c12 : x0 = 11
  · rw [if_pos c12] at H
    refine wp_tableIn (dflt := 106) (lo := 0) (hi := 12) (offs := #[67, 70, 73, 76, 79, 82, 85, 88, 91, 94, 97, 100, 103]) (len := 67) (off := 100) (tgt := 101) (by decide +kernel) (by rw [c12]; decide) (by rw [c12]; decide) (by rw [c12]; rfl) (by decide) ?_
    refine wp_ldcS (idx := 163) (j := 11) (tx := "felt") (by decide +kernel) rfl rfl ?_
    exact wp_aret (r := some (X.2.2.2 (10 + 11))) (by decide +kernel) rfl (Nat.zero_le _) (Nat.zero_le _) ⟨11, _, _, rfl, by decide, rfl, H⟩
  rw [if_neg c12] at H
  by_cases c13 : x0 = 12
  · rw [if_pos c13] at H
    refine wp_tableIn (dflt := 106) (lo := 0) (hi := 12) (offs := #[67, 70, 73, 76, 79, 82, 85, 88, 91, 94, 97, 100, 103]) (len := 67) (off := 103) (tgt := 104) (by decide +kernel) (by rw [c13]; decide) (by rw [c13]; decide) (by rw [c13]; rfl) (by decide) ?_
    refine wp_ldcS (idx := 165) (j := 12) (tx := "not") (by decide +kernel) rfl rfl ?_
    exact wp_aret (r := some (X.2.2.2 (10 + 12))) (by decide +kernel) rfl (Nat.zero_le _) (Nat.zero_le _) ⟨12, _, _, rfl, by decide, rfl, H⟩
  rw [if_neg c13] at H
  have qc1 := sw_ne c1 (z := 0) (by decide)
  have qc2 := sw_ne c2 (z := 1) (by decide)
  have qc3 := sw_ne c3 (z := 2) (by decide)
  have qc4 := sw_ne c4 (z := 3) (by decide)
  have qc5 := sw_ne c5 (z := 4) (by decide)
  have qc6 := sw_ne c6 (z := 5) (by decide)
  have qc7 := sw_ne c7 (z := 6) (by decide)
  have qc8 := sw_ne c8 (z := 7) (by decide)
  have qc9 := sw_ne c9 (z := 8) (by decide)
  have qc10 := sw_ne c10 (z := 9) (by decide)
  have qc11 := sw_ne c11 (z := 10) (by decide)
  have qc12 := sw_ne c12 (z := 11) (by decide)
  have qc13 := sw_ne c13 (z := 12) (by decide)
  refine wp_tableOut (dflt := 106) (lo := 0) (hi := 12) (offs := #[67, 70, 73, 76, 79, 82, 85, 88, 91, 94, 97, 100, 103]) (len := 67) (tgt := 107) (by decide +kernel) (by omega) (by decide) ?_
  refine wp_ldcS (idx := 167) (j := 13) (tx := "") (by decide +kernel) rfl rfl ?_
  exact wp_aret (r := some (X.2.2.2 (10 + 13))) (by decide +kernel) rfl (Nat.zero_le _) (Nat.zero_le _) ⟨13, _, _, rfl, by decide, rfl, H⟩
/-! DeafWall$Reader.isWord(Ljava/lang/String;)Z -/
set_option maxRecDepth 20000 in
theorem b4_isWord {X : XX} {G : GG} {I : Nat → Nat → Int32} {L : Nat → Nat → Int64} {h : Nat} {i1 : Nat} {Q : Int32 → (Nat → Nat → Int32) → (Nat → Nat → Int64) → Prop} (ok : OK4 G h) (hw1 : i1 < 14) (H : if ((I h 9) - (I h 8)) = (Int32.ofNat (zLen.getD i1 0)) then (wpI X B4_isWord 20 [(0, .ref h), (1, .ref (X.2.2.2 (10 + i1))), (2, .int 0)] [] G I L Q) else (Q 0 I L)) : wpI X B4_isWord 0 [(0, .ref h), (1, .ref (X.2.2.2 (10 + i1)))] [] G I L Q := by
  refine wp_aload_n (z := 0) (i := 0) (r := (some h)) 0 (by decide +kernel) rfl rfl ?_
  refine wp_getI (idx := 62) (by decide +kernel) fl4_62 rfl ok.1 ?_
  refine wp_aload_n (z := 0) (i := 0) (r := (some h)) 0 (by decide +kernel) rfl rfl ?_
  refine wp_getI (idx := 83) (by decide +kernel) fl4_83 rfl ok.1 ?_
  refine wp_isub (by decide +kernel) ?_
  refine wp_aload_n (z := 1) (i := 1) (r := (some (X.2.2.2 (10 + i1)))) 1 (by decide +kernel) rfl rfl ?_
  refine wp_callVs (idx := 134) (B2 := B14_length) (As := []) (i := i1) (st := [.int ((I h 9) - (I h 8))]) (by decide +kernel) m14_length (in_g (List.mem_of_getElem? (i := 547) (by decide +kernel)) rfl) k14_length e14_length hw1 ⟨(Nat.le_of_ble_eq_true rfl), (Nat.le_of_ble_eq_true rfl)⟩ rfl (Nat.le_of_ble_eq_true rfl) (Nat.le_of_ble_eq_true rfl) ⟨(Nat.le_of_ble_eq_true rfl), (Nat.le_of_ble_eq_true rfl)⟩ rfl (wp_mono (s14_length hw1) (fun v9 M9 hq9 => ?_))
  obtain ⟨rfl, rfl⟩ := hq9
  show wp X B4_isWord 13 [(0, .ref h), (1, .ref (X.2.2.2 (10 + i1)))] [.int (Int32.ofNat (zLen.getD i1 0)), .int ((I h 9) - (I h 8))] (G, I, L) 0 0 _
  refine wp_icmp_eq (off := 5) (tgt := 18) (by decide +kernel) (by decide) (fun c1 => ?_) (fun c1 => ?_)
  · rw [if_pos c1] at H
    refine wp_iconst (z := 0) (v := 0) (by decide +kernel) (by decide) ?_
    refine wp_istore_n (z := 2) (i := 2) (lv' := [(2, .int 0), (0, .ref h), (1, .ref (X.2.2.2 (10 + i1)))]) (by decide +kernel) rfl (by decide) rfl ?_
    exact wp_sub [1, 2, 0] rfl H
  · rw [if_neg c1] at H
    refine wp_iconst (z := 0) (v := 0) (by decide +kernel) (by decide) ?_
    exact wp_zret (by decide +kernel) rfl (by decide) (Nat.zero_le _) (Nat.zero_le _) ⟨_, _, _, rfl, rfl, H⟩
set_option maxRecDepth 20000 in
theorem b4_isWord_20 {X : XX} {G : GG} {I : Nat → Nat → Int32} {L : Nat → Nat → Int64} {h : Nat} {i1 : Nat} {x2 : Int32} {Q : Int32 → (Nat → Nat → Int32) → (Nat → Nat → Int64) → Prop} (ok : OK4 G h) (hw1 : i1 < 14) (H : if (Int32.ofNat (zLen.getD i1 0)) ≤ x2 then (Q 1 I L) else (if (I h 5) ≤ ((I h 8) + x2) then (Q 1 I L) else (∀ r3, r3 = G.2.1 h 4 → ∃ q4, r3 = some q4 ∧ (∃ n7, G.1 q4 = some (10, n7) ∧ (vp_in ((I h 8) + x2) n7 ∧ (vp_in x2 (zLen.getD i1 0) ∧ (if (I q4 (cl ((I h 8) + x2))) = ((zByt.getD i1 []).getD (cl x2) 0) then (wpI X B4_isWord 20 [(0, .ref h), (1, .ref (X.2.2.2 (10 + i1))), (2, .int (x2 + 1))] [] G I L Q) else (Q 0 I L)))))))) : wpI X B4_isWord 20 [(0, .ref h), (1, .ref (X.2.2.2 (10 + i1))), (2, .int x2)] [] G I L Q := by
  refine wp_iload_n (z := 2) (i := 2) (x := x2) 2 (by decide +kernel) rfl rfl ?_
  refine wp_aload_n (z := 1) (i := 1) (r := (some (X.2.2.2 (10 + i1)))) 1 (by decide +kernel) rfl rfl ?_
  refine wp_callVs (idx := 134) (B2 := B14_length) (As := []) (i := i1) (st := [.int x2]) (by decide +kernel) m14_length (in_g (List.mem_of_getElem? (i := 547) (by decide +kernel)) rfl) k14_length e14_length hw1 ⟨(Nat.le_of_ble_eq_true rfl), (Nat.le_of_ble_eq_true rfl)⟩ rfl (Nat.le_of_ble_eq_true rfl) (Nat.le_of_ble_eq_true rfl) ⟨(Nat.le_of_ble_eq_true rfl), (Nat.le_of_ble_eq_true rfl)⟩ rfl (wp_mono (s14_length hw1) (fun v9 M9 hq9 => ?_))
  obtain ⟨rfl, rfl⟩ := hq9
  show wp X B4_isWord 25 [(0, .ref h), (1, .ref (X.2.2.2 (10 + i1))), (2, .int x2)] [.int (Int32.ofNat (zLen.getD i1 0)), .int x2] (G, I, L) 0 0 _
  refine wp_icmp_ge (off := 43) (tgt := 68) (by decide +kernel) (by decide) (fun c1 => ?_) (fun c1 => ?_)
  · rw [if_pos c1] at H
    refine wp_iconst (z := 1) (v := 1) (by decide +kernel) (by decide) ?_
    exact wp_zret (by decide +kernel) rfl (by decide) (Nat.zero_le _) (Nat.zero_le _) ⟨_, _, _, rfl, rfl, H⟩
  · rw [if_neg c1] at H
    refine wp_aload_n (z := 0) (i := 0) (r := (some h)) 0 (by decide +kernel) rfl rfl ?_
    refine wp_getI (idx := 83) (by decide +kernel) fl4_83 rfl ok.1 ?_
    refine wp_iload_n (z := 2) (i := 2) (x := x2) 2 (by decide +kernel) rfl rfl ?_
    refine wp_iadd (by decide +kernel) ?_
    refine wp_aload_n (z := 0) (i := 0) (r := (some h)) 0 (by decide +kernel) rfl rfl ?_
    refine wp_getI (idx := 21) (by decide +kernel) fl4_21 rfl ok.1 ?_
    refine wp_icmp_ge (off := 30) (tgt := 68) (by decide +kernel) (by decide) (fun c2 => ?_) (fun c2 => ?_)
    · rw [if_pos c2] at H
      refine wp_iconst (z := 1) (v := 1) (by decide +kernel) (by decide) ?_
      exact wp_zret (by decide +kernel) rfl (by decide) (Nat.zero_le _) (Nat.zero_le _) ⟨_, _, _, rfl, rfl, H⟩
    · rw [if_neg c2] at H
      refine wp_aload_n (z := 0) (i := 0) (r := (some h)) 0 (by decide +kernel) rfl rfl ?_
      refine wp_getR (idx := 9) (by decide +kernel) fl4_9 rfl ok.1 ?_
      refine wp_topr (fun r3 er3 => ?_)
      replace H := H r3 er3
      refine wp_aload_n (z := 0) (i := 0) (r := (some h)) 0 (by decide +kernel) rfl rfl ?_
      refine wp_getI (idx := 83) (by decide +kernel) fl4_83 rfl ok.1 ?_
      refine wp_iload_n (z := 2) (i := 2) (x := x2) 2 (by decide +kernel) rfl rfl ?_
      refine wp_iadd (by decide +kernel) ?_
      obtain ⟨q4, e5, H⟩ := H
      subst e5
      show wp X B4_isWord 51 [(0, .ref h), (1, .ref (X.2.2.2 (10 + i1))), (2, .int x2)] [.int ((I h 8) + x2), .ref q4] (G, I, L) 0 0 _
      obtain ⟨n7, f6, H⟩ := H
      obtain ⟨o10, H⟩ := H
      refine wp_bald (j := (cl ((I h 8) + x2))) (by decide +kernel) f6 o10 rfl ?_
      refine wp_aload_n (z := 1) (i := 1) (r := (some (X.2.2.2 (10 + i1)))) 1 (by decide +kernel) rfl rfl ?_
      refine wp_iload_n (z := 2) (i := 2) (x := x2) 2 (by decide +kernel) rfl rfl ?_
      obtain ⟨o8, H⟩ := H
      refine wp_callVs (idx := 138) (B2 := B14_charAt) (As := [.int x2]) (i := i1) (st := [.int (I q4 (cl ((I h 8) + x2)))]) (by decide +kernel) m14_charAt (in_g (List.mem_of_getElem? (i := 557) (by decide +kernel)) rfl) k14_charAt e14_charAt hw1 ⟨(Nat.le_of_ble_eq_true rfl), (Nat.le_of_ble_eq_true rfl)⟩ rfl (Nat.le_of_ble_eq_true rfl) (Nat.le_of_ble_eq_true rfl) ⟨(Nat.le_of_ble_eq_true rfl), (Nat.le_of_ble_eq_true rfl)⟩ rfl (wp_mono (s14_charAt hw1 o8) (fun v9 M9 hq9 => ?_))
      obtain ⟨rfl, rfl⟩ := hq9
      show wp X B4_isWord 57 [(0, .ref h), (1, .ref (X.2.2.2 (10 + i1))), (2, .int x2)] [.int ((zByt.getD i1 []).getD (cl x2) 0), .int (I q4 (cl ((I h 8) + x2)))] (G, I, L) 0 0 _
      refine wp_icmp_eq (off := 5) (tgt := 62) (by decide +kernel) (by decide) (fun c9 => ?_) (fun c9 => ?_)
      · rw [if_pos c9] at H
        refine wp_iinc (i := 2) (z := 1) (v := 1) (lv' := [(2, .int (x2 + 1)), (0, .ref h), (1, .ref (X.2.2.2 (10 + i1)))]) 2 (by decide +kernel) rfl (by decide) (by decide) rfl ?_
        refine wp_goto (off := -45) (tgt := 20) (by decide +kernel) (by decide) ?_
        exact wp_sub [1, 2, 0] rfl H
      · rw [if_neg c9] at H
        refine wp_iconst (z := 0) (v := 0) (by decide +kernel) (by decide) ?_
        exact wp_zret (by decide +kernel) rfl (by decide) (Nat.zero_le _) (Nat.zero_le _) ⟨_, _, _, rfl, rfl, H⟩
/-! DeafWall$Reader.kindOfWord()I -/
set_option maxRecDepth 20000 in
theorem b4_kindOfWord {X : XX} {G : GG} {I : Nat → Nat → Int32} {L : Nat → Nat → Int64} {h : Nat} {Q : Int32 → (Nat → Nat → Int32) → (Nat → Nat → Int64) → Prop} (ok : OK4 G h) (H : if (I h 6) < (0 : Int32) then (Q (-1) I L) else (if (I h 6) < 3 then (vp_in (I h 6) 4 ∧ (∀ u3, u3 = (([0, 5, 11, 13] : List Int32).getD (cl (I h 6)) 0) → wpI X B4_kindOfWord 26 [(0, .ref h), (1, .int u3)] [] G I L Q)) else (Q (-1) I L))) : wpI X B4_kindOfWord 0 [(0, .ref h)] [] G I L Q := by
  refine wp_aload_n (z := 0) (i := 0) (r := (some h)) 0 (by decide +kernel) rfl rfl ?_
  refine wp_getI (idx := 25) (by decide +kernel) fl4_25 rfl ok.1 ?_
  refine wp_if_lt (off := 11) (tgt := 15) (by decide +kernel) (by decide) (fun c1 => ?_) (fun c1 => ?_)
  · rw [if_pos c1] at H
    refine wp_iconst (z := -1) (v := (-1)) (by decide +kernel) (by decide) ?_
    exact wp_iret (by decide +kernel) rfl (Nat.zero_le _) (Nat.zero_le _) ⟨_, _, _, rfl, rfl, H⟩
  · rw [if_neg c1] at H
    refine wp_aload_n (z := 0) (i := 0) (r := (some h)) 0 (by decide +kernel) rfl rfl ?_
    refine wp_getI (idx := 25) (by decide +kernel) fl4_25 rfl ok.1 ?_
    refine wp_iconst (z := 3) (v := 3) (by decide +kernel) (by decide) ?_
    refine wp_icmp_lt (off := 5) (tgt := 17) (by decide +kernel) (by decide) (fun c2 => ?_) (fun c2 => ?_)
    · rw [if_pos c2] at H
      refine wp_gets (idx := 123) (j := 0) (by decide +kernel) rfl (in_g (List.mem_of_getElem? (i := 524) (by decide +kernel)) rfl) ?_
      refine wp_aload_n (z := 0) (i := 0) (r := (some h)) 0 (by decide +kernel) rfl rfl ?_
      refine wp_getI (idx := 25) (by decide +kernel) fl4_25 rfl ok.1 ?_
      obtain ⟨o4, H⟩ := H
      refine wp_tald (j := 0) (N := 4) (i9 := (cl (I h 6))) (by decide +kernel) rfl rfl o4 rfl ?_
      refine wp_topi (fun u3 eu3 => ?_)
      replace H := H u3 eu3
      refine wp_istore_n (z := 1) (i := 1) (lv' := [(1, .int u3), (0, .ref h)]) (by decide +kernel) rfl (by decide) rfl ?_
      exact wp_sub [1, 0] rfl H
    · rw [if_neg c2] at H
      refine wp_iconst (z := -1) (v := (-1)) (by decide +kernel) (by decide) ?_
      exact wp_iret (by decide +kernel) rfl (Nat.zero_le _) (Nat.zero_le _) ⟨_, _, _, rfl, rfl, H⟩
set_option maxRecDepth 20000 in
theorem b4_kindOfWord_26 {X : XX} {G : GG} {I : Nat → Nat → Int32} {L : Nat → Nat → Int64} {h : Nat} {x1 : Int32} {Q : Int32 → (Nat → Nat → Int32) → (Nat → Nat → Int64) → Prop} (ok : OK4 G h) (H : vp_in ((I h 6) + 1) 4 ∧ (if (([0, 5, 11, 13] : List Int32).getD (cl ((I h 6) + 1)) 0) ≤ x1 then (Q (-1) I L) else (wpW X B4_wordOf 0 [(0, .int x1)] [] G I L (fun r4 I2 L3 => wpI X B4_isWord 0 [(0, .ref h), (1, .ref (X.2.2.2 (10 + r4)))] [] G I2 L3 (fun r8 I6 L7 => if r8 = (0 : Int32) then (wpI X B4_kindOfWord 26 [(0, .ref h), (1, .int (x1 + 1))] [] G I6 L7 Q) else (Q x1 I6 L7)))))) : wpI X B4_kindOfWord 26 [(0, .ref h), (1, .int x1)] [] G I L Q := by
  refine wp_iload_n (z := 1) (i := 1) (x := x1) 1 (by decide +kernel) rfl rfl ?_
  refine wp_gets (idx := 123) (j := 0) (by decide +kernel) rfl (in_g (List.mem_of_getElem? (i := 524) (by decide +kernel)) rfl) ?_
  refine wp_aload_n (z := 0) (i := 0) (r := (some h)) 0 (by decide +kernel) rfl rfl ?_
  refine wp_getI (idx := 25) (by decide +kernel) fl4_25 rfl ok.1 ?_
  refine wp_iconst (z := 1) (v := 1) (by decide +kernel) (by decide) ?_
  refine wp_iadd (by decide +kernel) ?_
  obtain ⟨o10, H⟩ := H
  refine wp_tald (j := 0) (N := 4) (i9 := (cl ((I h 6) + 1))) (by decide +kernel) rfl rfl o10 rfl ?_
  refine wp_icmp_ge (off := 22) (tgt := 59) (by decide +kernel) (by decide) (fun c1 => ?_) (fun c1 => ?_)
  · rw [if_pos c1] at H
    refine wp_iconst (z := -1) (v := (-1)) (by decide +kernel) (by decide) ?_
    exact wp_iret (by decide +kernel) rfl (Nat.zero_le _) (Nat.zero_le _) ⟨_, _, _, rfl, rfl, H⟩
  · rw [if_neg c1] at H
    refine wp_aload_n (z := 0) (i := 0) (r := (some h)) 0 (by decide +kernel) rfl rfl ?_
    refine wp_iload_n (z := 1) (i := 1) (x := x1) 1 (by decide +kernel) rfl rfl ?_
    refine wp_callS (idx := 126) (B2 := B4_wordOf) (As := [.int x1]) (st := [.ref h]) (by decide +kernel) m4_wordOf ml4_126 k4_wordOf (⟨Nat.le_of_ble_eq_true rfl, Nat.le_of_ble_eq_true rfl⟩ : rOK B4_kindOfWord B4_wordOf) rfl (Nat.le_of_ble_eq_true rfl) (Nat.le_of_ble_eq_true rfl) ⟨Nat.le_of_ble_eq_true rfl, Nat.le_of_ble_eq_true rfl⟩ rfl (wp_mono H (fun v9 M9 hq9 => ?_))
    clear H
    obtain ⟨r4, I2, L3, rfl, hw5, rfl, H⟩ := hq9
    show wp X B4_kindOfWord 45 [(0, .ref h), (1, .int x1)] [.ref (X.2.2.2 (10 + r4)), .ref h] (G, I2, L3) 0 0 _
    refine wp_callV (idx := 130) (B2 := B4_isWord) (As := [.ref (X.2.2.2 (10 + r4))]) (a := h) (st := []) (by decide +kernel) m4_isWord ml4_130 k4_isWord e4_isWord ck4 ok.1 (⟨Nat.le_of_ble_eq_true rfl, Nat.le_of_ble_eq_true rfl⟩ : rOK B4_kindOfWord B4_isWord) rfl (Nat.le_of_ble_eq_true rfl) (Nat.le_of_ble_eq_true rfl) ⟨Nat.le_of_ble_eq_true rfl, Nat.le_of_ble_eq_true rfl⟩ rfl (wp_mono H (fun v9 M9 hq9 => ?_))
    clear H
    obtain ⟨r8, I6, L7, rfl, rfl, H⟩ := hq9
    show wp X B4_kindOfWord 48 [(0, .ref h), (1, .int x1)] [.int r8] (G, I6, L7) 0 0 _
    refine wp_if_eq (off := 5) (tgt := 53) (by decide +kernel) (by decide) (fun c9 => ?_) (fun c9 => ?_)
    · rw [if_pos c9] at H
      refine wp_iinc (i := 1) (z := 1) (v := 1) (lv' := [(1, .int (x1 + 1)), (0, .ref h)]) 1 (by decide +kernel) rfl (by decide) (by decide) rfl ?_
      refine wp_goto (off := -30) (tgt := 26) (by decide +kernel) (by decide) ?_
      exact wp_sub [1, 0] rfl H
    · rw [if_neg c9] at H
      refine wp_iload_n (z := 1) (i := 1) (x := x1) 1 (by decide +kernel) rfl rfl ?_
      exact wp_iret (by decide +kernel) rfl (Nat.zero_le _) (Nat.zero_le _) ⟨_, _, _, rfl, rfl, H⟩
/-! DeafWall$Reader.note(II)V -/
set_option maxRecDepth 20000 in
theorem b4_note {X : XX} {G : GG} {I : Nat → Nat → Int32} {L : Nat → Nat → Int64} {h : Nat} {x1 : Int32} {x2 : Int32} {Q : (Nat → Nat → Int32) → (Nat → Nat → Int64) → Prop} (ok : OK4 G h) (H : if (I h 2) = (0 : Int32) then (∀ I2, I2 = up2 I h 2 x1 → ∀ I3, I3 = up2 I2 h 3 x2 → Q I3 L) else (if x1 = 1 then (∀ I5, I5 = up2 I h 2 x1 → ∀ I6, I6 = up2 I5 h 3 x2 → Q I6 L) else (Q I L))) : wpV X B4_note 0 [(0, .ref h), (1, .int x1), (2, .int x2)] [] G I L Q := by
  refine wp_aload_n (z := 0) (i := 0) (r := (some h)) 0 (by decide +kernel) rfl rfl ?_
  refine wp_getI (idx := 44) (by decide +kernel) fl4_44 rfl ok.1 ?_
  refine wp_if_eq (off := 8) (tgt := 12) (by decide +kernel) (by decide) (fun c1 => ?_) (fun c1 => ?_)
  · rw [if_pos c1] at H
    refine wp_aload_n (z := 0) (i := 0) (r := (some h)) 0 (by decide +kernel) rfl rfl ?_
    refine wp_iload_n (z := 1) (i := 1) (x := x1) 1 (by decide +kernel) rfl rfl ?_
    refine wp_putI (idx := 44) (by decide +kernel) fl4_44 rfl ok.1 ?_
    refine wp_memI (fun I2 eI2 => ?_)
    replace H := H I2 eI2
    refine wp_aload_n (z := 0) (i := 0) (r := (some h)) 0 (by decide +kernel) rfl rfl ?_
    refine wp_iload_n (z := 2) (i := 2) (x := x2) 2 (by decide +kernel) rfl rfl ?_
    refine wp_putI (idx := 47) (by decide +kernel) fl4_47 rfl ok.1 ?_
    refine wp_memI (fun I3 eI3 => ?_)
    replace H := H I3 eI3
    exact wp_vret (by decide +kernel) rfl (Nat.zero_le _) (Nat.zero_le _) ⟨_, _, rfl, rfl, H⟩
  · rw [if_neg c1] at H
    refine wp_iload_n (z := 1) (i := 1) (x := x1) 1 (by decide +kernel) rfl rfl ?_
    refine wp_iconst (z := 1) (v := 1) (by decide +kernel) (by decide) ?_
    refine wp_icmp_ne (off := 13) (tgt := 22) (by decide +kernel) (by decide) (fun c4 => ?_) (fun c4 => ?_)
    · rw [if_neg c4] at H
      exact wp_vret (by decide +kernel) rfl (Nat.zero_le _) (Nat.zero_le _) ⟨_, _, rfl, rfl, H⟩
    · rw [if_pos c4] at H
      refine wp_aload_n (z := 0) (i := 0) (r := (some h)) 0 (by decide +kernel) rfl rfl ?_
      refine wp_iload_n (z := 1) (i := 1) (x := x1) 1 (by decide +kernel) rfl rfl ?_
      refine wp_putI (idx := 44) (by decide +kernel) fl4_44 rfl ok.1 ?_
      refine wp_memI (fun I5 eI5 => ?_)
      replace H := H I5 eI5
      refine wp_aload_n (z := 0) (i := 0) (r := (some h)) 0 (by decide +kernel) rfl rfl ?_
      refine wp_iload_n (z := 2) (i := 2) (x := x2) 2 (by decide +kernel) rfl rfl ?_
      refine wp_putI (idx := 47) (by decide +kernel) fl4_47 rfl ok.1 ?_
      refine wp_memI (fun I6 eI6 => ?_)
      replace H := H I6 eI6
      exact wp_vret (by decide +kernel) rfl (Nat.zero_le _) (Nat.zero_le _) ⟨_, _, rfl, rfl, H⟩
/-! DeafWall$Reader.refuse()Z -/
set_option maxRecDepth 20000 in
theorem b4_refuse {X : XX} {G : GG} {I : Nat → Nat → Int32} {L : Nat → Nat → Int64} {h : Nat} {Q : Int32 → (Nat → Nat → Int32) → (Nat → Nat → Int64) → Prop} (ok : OK4 G h) (H : wpV X B4_note 0 [(0, .ref h), (1, .int 1), (2, .int (I h 8))] [] G I L (fun I1 L2 => Q 0 I1 L2)) : wpI X B4_refuse 0 [(0, .ref h)] [] G I L Q := by
  refine wp_aload_n (z := 0) (i := 0) (r := (some h)) 0 (by decide +kernel) rfl rfl ?_
  refine wp_iconst (z := 1) (v := 1) (by decide +kernel) (by decide) ?_
  refine wp_aload_n (z := 0) (i := 0) (r := (some h)) 0 (by decide +kernel) rfl rfl ?_
  refine wp_getI (idx := 83) (by decide +kernel) fl4_83 rfl ok.1 ?_
  refine wp_callV (idx := 79) (B2 := B4_note) (As := [.int 1, .int (I h 8)]) (a := h) (st := []) (by decide +kernel) m4_note ml4_79 k4_note e4_note ck4 ok.1 (⟨Nat.le_of_ble_eq_true rfl, Nat.le_of_ble_eq_true rfl⟩ : rOK B4_refuse B4_note) rfl (Nat.le_of_ble_eq_true rfl) (Nat.le_of_ble_eq_true rfl) ⟨Nat.le_of_ble_eq_true rfl, Nat.le_of_ble_eq_true rfl⟩ rfl (wp_mono H (fun v9 M9 hq9 => ?_))
  clear H
  obtain ⟨I1, L2, rfl, rfl, H⟩ := hq9
  show wp X B4_refuse 9 [(0, .ref h)] [] (G, I1, L2) 0 0 _
  refine wp_iconst (z := 0) (v := 0) (by decide +kernel) (by decide) ?_
  exact wp_zret (by decide +kernel) rfl (by decide) (Nat.zero_le _) (Nat.zero_le _) ⟨_, _, _, rfl, rfl, H⟩
