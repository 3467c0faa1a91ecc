/-! DeafWall$Stand.begin(LDeafWall$Wall;)V -/
set_option maxRecDepth 20000 in
theorem b5_begin {X : XX} {G : GG} {I : Nat → Nat → Int32} {L : Nat → Nat → Int64} {h : Nat} {a1 : Nat} {Q : GG → (Nat → Nat → Int32) → (Nat → Nat → Int64) → Prop} (ok : OK5 G h) (ok1 : OK7 G a1) (H : ∀ G1, G1 = (G.1, up2 G.2.1 h 0 (some a1), G.2.2) → OK5 G1 h ∧ (∀ I3, I3 = up2 I h 1 0 → ∀ I4, I4 = up2 I3 h 2 0 → ∀ r5, r5 = G1.2.1 h 3 → ∃ q6, r5 = some q6 ∧ (wpV X B18_fillI 0 [(0, .ref q6), (1, .int 0)] [] G1 I4 L (fun I8 L9 => OK7 G1 a1 ∧ (∀ I12, I12 = upC I8 (h + 9) (a1 + 1) 32 → ∀ I13, I13 = upC I12 (h + 10) (a1 + 2) 6 → wpV X B18_fillI 0 [(0, .ref (h + 11)), (1, .int 0)] [] G1 I13 L9 (fun I14 L15 => wpV X B18_fillI 0 [(0, .ref (h + 12)), (1, .int 0)] [] G1 I14 L15 (fun I17 L18 => wpV X B18_fillI 0 [(0, .ref (h + 13)), (1, .int 0)] [] G1 I17 L18 (fun I20 L21 => ∀ I23, I23 = up2 I20 h 10 0 → ∀ I24, I24 = up2 I23 h 11 (-1) → ∀ I25, I25 = up2 I24 h 12 (-1) → ∀ I26, I26 = up2 I25 h 13 0 → ∀ I27, I27 = up2 I26 h 14 0 → ∀ I28, I28 = up2 I27 h 15 0 → Q G1 I28 L21)))))))) : wgV X B5_begin 0 [(0, .ref h), (1, .ref a1)] [] G I L 0 0 Q := by
  refine wp_aload_n (z := 0) (i := 0) (r := (some h)) 0 (by decide +kernel) rfl rfl ?_
  refine wp_aload_n (z := 1) (i := 1) (r := (some a1)) 1 (by decide +kernel) rfl rfl ?_
  refine wp_putR (idx := 12) (r := (some a1)) (by decide +kernel) fl5_12 rfl rfl ok.1 ?_
  refine wp_memG (fun G1 eG1 => ?_)
  replace H := H G1 eG1
  refine wp_aload_n (z := 0) (i := 0) (r := (some h)) 0 (by decide +kernel) rfl rfl ?_
  refine wp_iconst (z := 0) (v := 0) (by decide +kernel) (by decide) ?_
  obtain ⟨f2, H⟩ := H
  refine wp_putI (idx := 40) (by decide +kernel) fl5_40 rfl f2.1 ?_
  refine wp_memI (fun I3 eI3 => ?_)
  replace H := H I3 eI3
  refine wp_aload_n (z := 0) (i := 0) (r := (some h)) 0 (by decide +kernel) rfl rfl ?_
  refine wp_iconst (z := 0) (v := 0) (by decide +kernel) (by decide) ?_
  refine wp_putI (idx := 44) (by decide +kernel) fl5_44 rfl f2.1 ?_
  refine wp_memI (fun I4 eI4 => ?_)
  replace H := H I4 eI4
  refine wp_aload_n (z := 0) (i := 0) (r := (some h)) 0 (by decide +kernel) rfl rfl ?_
  refine wp_getR (idx := 18) (by decide +kernel) fl5_18 rfl f2.1 ?_
  refine wp_topr (fun r5 er5 => ?_)
  replace H := H r5 er5
  refine wp_iconst (z := 0) (v := 0) (by decide +kernel) (by decide) ?_
  obtain ⟨q6, e7, H⟩ := H
  subst e7
  show wp X B5_begin 20 [(0, .ref h), (1, .ref a1)] [.int 0, .ref q6] (G1, I4, L) 0 0 _
  refine wp_callS (idx := 47) (B2 := B18_fillI) (As := [.ref q6, .int 0]) (st := []) (by decide +kernel) m18_fillI ml5_47 k18_fillI (⟨Nat.le_of_ble_eq_true rfl, Nat.le_of_ble_eq_true rfl⟩ : rOK B5_begin B18_fillI) rfl (Nat.le_of_ble_eq_true rfl) (Nat.le_of_ble_eq_true rfl) ⟨Nat.le_of_ble_eq_true rfl, Nat.le_of_ble_eq_true rfl⟩ rfl (wp_mono H (fun v9 M9 hq9 => ?_))
  clear H
  obtain ⟨I8, L9, rfl, rfl, H⟩ := hq9
  show wp X B5_begin 23 [(0, .ref h), (1, .ref a1)] [] (G1, I8, L9) 0 0 _
  refine wp_aload_n (z := 1) (i := 1) (r := (some a1)) 1 (by decide +kernel) rfl rfl ?_
  obtain ⟨f11, H⟩ := H
  refine wp_getS (idx := 53) (q := (a1 + 1)) (by decide +kernel) fl5_53 rfl f11.1 (okr7_3 f11) ?_
  refine wp_iconst (z := 0) (v := 0) (by decide +kernel) (by decide) ?_
  refine wp_aload_n (z := 0) (i := 0) (r := (some h)) 0 (by decide +kernel) rfl rfl ?_
  refine wp_getS (idx := 25) (q := (h + 9)) (by decide +kernel) fl5_25 rfl f2.1 (okr5_5 f2) ?_
  refine wp_iconst (z := 0) (v := 0) (by decide +kernel) (by decide) ?_
  refine wp_bipush (z := 32) (v := 32) (by decide +kernel) (by decide) ?_
  refine wp_acopy (idx := 54) (N := 32) (t := 11) (t0 := 1) (by decide +kernel) (in_g (List.mem_of_getElem? (i := 737) (by decide +kernel)) rfl) (in_g (List.mem_of_getElem? (i := 687) (by decide +kernel)) rfl) (in_g (List.mem_of_getElem? (i := 686) (by decide +kernel)) rfl) (in_g (List.mem_of_getElem? (i := 133) (by decide +kernel)) rfl) (oks7_3 f11) (oks5_5 f2) (by decide) rfl rfl (by decide) (by decide) (Nat.le_of_ble_eq_true rfl) (Nat.le_of_ble_eq_true rfl) (fun _ _ => rfl) (Nat.le_of_ble_eq_true rfl) (Nat.le_of_ble_eq_true rfl) ?_
  refine wp_memI (fun I12 eI12 => ?_)
  replace H := H I12 eI12
  refine wp_aload_n (z := 1) (i := 1) (r := (some a1)) 1 (by decide +kernel) rfl rfl ?_
  refine wp_getS (idx := 60) (q := (a1 + 2)) (by decide +kernel) fl5_60 rfl f11.1 (okr7_5 f11) ?_
  refine wp_iconst (z := 0) (v := 0) (by decide +kernel) (by decide) ?_
  refine wp_aload_n (z := 0) (i := 0) (r := (some h)) 0 (by decide +kernel) rfl rfl ?_
  refine wp_getS (idx := 28) (q := (h + 10)) (by decide +kernel) fl5_28 rfl f2.1 (okr5_6 f2) ?_
  refine wp_iconst (z := 0) (v := 0) (by decide +kernel) (by decide) ?_
  refine wp_bipush (z := 6) (v := 6) (by decide +kernel) (by decide) ?_
  refine wp_acopy (idx := 54) (N := 6) (t := 11) (t0 := 1) (by decide +kernel) (in_g (List.mem_of_getElem? (i := 737) (by decide +kernel)) rfl) (in_g (List.mem_of_getElem? (i := 687) (by decide +kernel)) rfl) (in_g (List.mem_of_getElem? (i := 686) (by decide +kernel)) rfl) (in_g (List.mem_of_getElem? (i := 133) (by decide +kernel)) rfl) (oks7_5 f11) (oks5_6 f2) (by decide) rfl rfl (by decide) (by decide) (Nat.le_of_ble_eq_true rfl) (Nat.le_of_ble_eq_true rfl) (fun _ _ => rfl) (Nat.le_of_ble_eq_true rfl) (Nat.le_of_ble_eq_true rfl) ?_
  refine wp_memI (fun I13 eI13 => ?_)
  replace H := H I13 eI13
  refine wp_aload_n (z := 0) (i := 0) (r := (some h)) 0 (by decide +kernel) rfl rfl ?_
  refine wp_getS (idx := 31) (q := (h + 11)) (by decide +kernel) fl5_31 rfl f2.1 (okr5_7 f2) ?_
  refine wp_iconst (z := 0) (v := 0) (by decide +kernel) (by decide) ?_
  refine wp_callS (idx := 47) (B2 := B18_fillI) (As := [.ref (h + 11), .int 0]) (st := []) (by decide +kernel) m18_fillI ml5_47 k18_fillI (⟨Nat.le_of_ble_eq_true rfl, Nat.le_of_ble_eq_true rfl⟩ : rOK B5_begin B18_fillI) rfl (Nat.le_of_ble_eq_true rfl) (Nat.le_of_ble_eq_true rfl) ⟨Nat.le_of_ble_eq_true rfl, Nat.le_of_ble_eq_true rfl⟩ rfl (wp_mono H (fun v9 M9 hq9 => ?_))
  clear H
  obtain ⟨I14, L15, rfl, rfl, H⟩ := hq9
  show wp X B5_begin 61 [(0, .ref h), (1, .ref a1)] [] (G1, I14, L15) 0 0 _
  refine wp_aload_n (z := 0) (i := 0) (r := (some h)) 0 (by decide +kernel) rfl rfl ?_
  refine wp_getS (idx := 34) (q := (h + 12)) (by decide +kernel) fl5_34 rfl f2.1 (okr5_8 f2) ?_
  refine wp_iconst (z := 0) (v := 0) (by decide +kernel) (by decide) ?_
  refine wp_callS (idx := 47) (B2 := B18_fillI) (As := [.ref (h + 12), .int 0]) (st := []) (by decide +kernel) m18_fillI ml5_47 k18_fillI (⟨Nat.le_of_ble_eq_true rfl, Nat.le_of_ble_eq_true rfl⟩ : rOK B5_begin B18_fillI) rfl (Nat.le_of_ble_eq_true rfl) (Nat.le_of_ble_eq_true rfl) ⟨Nat.le_of_ble_eq_true rfl, Nat.le_of_ble_eq_true rfl⟩ rfl (wp_mono H (fun v9 M9 hq9 => ?_))
  clear H
  obtain ⟨I17, L18, rfl, rfl, H⟩ := hq9
  show wp X B5_begin 69 [(0, .ref h), (1, .ref a1)] [] (G1, I17, L18) 0 0 _
  refine wp_aload_n (z := 0) (i := 0) (r := (some h)) 0 (by decide +kernel) rfl rfl ?_
  refine wp_getS (idx := 37) (q := (h + 13)) (by decide +kernel) fl5_37 rfl f2.1 (okr5_9 f2) ?_
  refine wp_iconst (z := 0) (v := 0) (by decide +kernel) (by decide) ?_
  refine wp_callS (idx := 47) (B2 := B18_fillI) (As := [.ref (h + 13), .int 0]) (st := []) (by decide +kernel) m18_fillI ml5_47 k18_fillI (⟨Nat.le_of_ble_eq_true rfl, Nat.le_of_ble_eq_true rfl⟩ : rOK B5_begin B18_fillI) rfl (Nat.le_of_ble_eq_true rfl) (Nat.le_of_ble_eq_true rfl) ⟨Nat.le_of_ble_eq_true rfl, Nat.le_of_ble_eq_true rfl⟩ rfl (wp_mono H (fun v9 M9 hq9 => ?_))
  clear H
  obtain ⟨I20, L21, rfl, rfl, H⟩ := hq9
  show wp X B5_begin 77 [(0, .ref h), (1, .ref a1)] [] (G1, I20, L21) 0 0 _
  refine wp_aload_n (z := 0) (i := 0) (r := (some h)) 0 (by decide +kernel) rfl rfl ?_
  refine wp_iconst (z := 0) (v := 0) (by decide +kernel) (by decide) ?_
  refine wp_putI (idx := 63) (by decide +kernel) fl5_63 rfl f2.1 ?_
  refine wp_memI (fun I23 eI23 => ?_)
  replace H := H I23 eI23
  refine wp_aload_n (z := 0) (i := 0) (r := (some h)) 0 (by decide +kernel) rfl rfl ?_
  refine wp_iconst (z := -1) (v := (-1)) (by decide +kernel) (by decide) ?_
  refine wp_putI (idx := 66) (by decide +kernel) fl5_66 rfl f2.1 ?_
  refine wp_memI (fun I24 eI24 => ?_)
  replace H := H I24 eI24
  refine wp_aload_n (z := 0) (i := 0) (r := (some h)) 0 (by decide +kernel) rfl rfl ?_
  refine wp_iconst (z := -1) (v := (-1)) (by decide +kernel) (by decide) ?_
  refine wp_putI (idx := 69) (by decide +kernel) fl5_69 rfl f2.1 ?_
  refine wp_memI (fun I25 eI25 => ?_)
  replace H := H I25 eI25
  refine wp_aload_n (z := 0) (i := 0) (r := (some h)) 0 (by decide +kernel) rfl rfl ?_
  refine wp_iconst (z := 0) (v := 0) (by decide +kernel) (by decide) ?_
  refine wp_putI (idx := 72) (by decide +kernel) fl5_72 rfl f2.1 ?_
  refine wp_memI (fun I26 eI26 => ?_)
  replace H := H I26 eI26
  refine wp_aload_n (z := 0) (i := 0) (r := (some h)) 0 (by decide +kernel) rfl rfl ?_
  refine wp_iconst (z := 0) (v := 0) (by decide +kernel) (by decide) ?_
  refine wp_putI (idx := 75) (by decide +kernel) fl5_75 rfl f2.1 ?_
  refine wp_memI (fun I27 eI27 => ?_)
  replace H := H I27 eI27
  refine wp_aload_n (z := 0) (i := 0) (r := (some h)) 0 (by decide +kernel) rfl rfl ?_
  refine wp_iconst (z := 0) (v := 0) (by decide +kernel) (by decide) ?_
  refine wp_putI (idx := 78) (by decide +kernel) fl5_78 rfl f2.1 ?_
  refine wp_memI (fun I28 eI28 => ?_)
  replace H := H I28 eI28
  exact wp_vret (by decide +kernel) rfl (Nat.le_of_ble_eq_true rfl) (Nat.le_of_ble_eq_true rfl) ⟨rfl, H⟩
/-! DeafWall.passOn(LDeafWall$Wall;[I[I[I)V -/
set_option maxRecDepth 20000 in
theorem b8_passOn {X : XX} {G : GG} {I : Nat → Nat → Int32} {L : Nat → Nat → Int64} {a0 : Nat} {a1 : Nat} {n1 : Nat} {a2 : Nat} {n2 : Nat} {a3 : Nat} {n3 : Nat} {Q : (Nat → Nat → Int32) → (Nat → Nat → Int64) → Prop} (ok0 : OK7 G a0) (s1 : G.1 a1 = some (11, n1)) (s2 : G.1 a2 = some (11, n2)) (s3 : G.1 a3 = some (11, n3)) (H : wpV X B8_passOn 3 [(0, .ref a0), (1, .ref a1), (2, .ref a2), (3, .ref a3), (4, .int 0)] [] G I L Q) : wpV X B8_passOn 0 [(0, .ref a0), (1, .ref a1), (2, .ref a2), (3, .ref a3)] [] G I L Q := by
  refine wp_iconst (z := 0) (v := 0) (by decide +kernel) (by decide) ?_
  refine wp_istore (i := 4) (lv' := [(4, .int 0), (0, .ref a0), (1, .ref a1), (2, .ref a2), (3, .ref a3)]) (by decide +kernel) (by decide) rfl ?_
  exact wp_sub [1, 2, 3, 4, 0] rfl H
set_option maxRecDepth 20000 in
theorem b8_passOn_3 {X : XX} {G : GG} {I : Nat → Nat → Int32} {L : Nat → Nat → Int64} {a0 : Nat} {a1 : Nat} {n1 : Nat} {a2 : Nat} {n2 : Nat} {a3 : Nat} {n3 : Nat} {x4 : Int32} {Q : (Nat → Nat → Int32) → (Nat → Nat → Int64) → Prop} (ok0 : OK7 G a0) (s1 : G.1 a1 = some (11, n1)) (s2 : G.1 a2 = some (11, n2)) (s3 : G.1 a3 = some (11, n3)) (H : if (I a0 1) ≤ x4 then (Q I L) else (wpV X B8_passOn 15 [(0, .ref a0), (1, .ref a1), (2, .ref a2), (3, .ref a3), (4, .int x4), (5, .int 0)] [] G I L Q)) : wpV X B8_passOn 3 [(0, .ref a0), (1, .ref a1), (2, .ref a2), (3, .ref a3), (4, .int x4)] [] G I L Q := by
  refine wp_iload (i := 4) (x := x4) 4 (by decide +kernel) rfl ?_
  refine wp_aload_n (z := 0) (i := 0) (r := (some a0)) 0 (by decide +kernel) rfl rfl ?_
  refine wp_getI (idx := 163) (by decide +kernel) fl8_163 rfl ok0.1 ?_
  refine wp_icmp_ge (off := 142) (tgt := 151) (by decide +kernel) (by decide) (fun c1 => ?_) (fun c1 => ?_)
  · rw [if_pos c1] at H
    exact wp_vret (by decide +kernel) rfl (Nat.zero_le _) (Nat.zero_le _) ⟨_, _, rfl, rfl, H⟩
  · rw [if_neg c1] at H
    refine wp_iconst (z := 0) (v := 0) (by decide +kernel) (by decide) ?_
    refine wp_istore (i := 5) (lv' := [(5, .int 0), (0, .ref a0), (1, .ref a1), (2, .ref a2), (3, .ref a3), (4, .int x4)]) (by decide +kernel) (by decide) rfl ?_
    exact wp_sub [1, 2, 3, 4, 5, 0] rfl H
set_option maxRecDepth 20000 in
theorem b8_passOn_15 {X : XX} {G : GG} {I : Nat → Nat → Int32} {L : Nat → Nat → Int64} {a0 : Nat} {a1 : Nat} {n1 : Nat} {a2 : Nat} {n2 : Nat} {a3 : Nat} {n3 : Nat} {x4 : Int32} {x5 : Int32} {Q : (Nat → Nat → Int32) → (Nat → Nat → Int64) → Prop} (ok0 : OK7 G a0) (s1 : G.1 a1 = some (11, n1)) (s2 : G.1 a2 = some (11, n2)) (s3 : G.1 a3 = some (11, n3)) (H : if (I a0 0) ≤ x5 then (wpV X B8_passOn 3 [(0, .ref a0), (1, .ref a1), (2, .ref a2), (3, .ref a3), (4, .int (x4 + 1))] [] G I L Q) else (∀ u2, u2 = ((x4 * (I a0 0)) + x5) → if x4 ≤ (0 : Int32) then (wpV X B8_passOn 55 [(0, .ref a0), (1, .ref a1), (2, .ref a2), (3, .ref a3), (4, .int x4), (5, .int x5), (6, .int u2), (7, .int 0)] [] G I L Q) else (vp_in (u2 - (I a0 0)) n2 ∧ (∀ u4, u4 = (I a2 (cl (u2 - (I a0 0)))) → wpV X B8_passOn 55 [(0, .ref a0), (1, .ref a1), (2, .ref a2), (3, .ref a3), (4, .int x4), (5, .int x5), (6, .int u2), (7, .int u4)] [] G I L Q)))) : wpV X B8_passOn 15 [(0, .ref a0), (1, .ref a1), (2, .ref a2), (3, .ref a3), (4, .int x4), (5, .int x5)] [] G I L Q := by
  refine wp_iload (i := 5) (x := x5) 5 (by decide +kernel) rfl ?_
  refine wp_aload_n (z := 0) (i := 0) (r := (some a0)) 0 (by decide +kernel) rfl rfl ?_
  refine wp_getI (idx := 160) (by decide +kernel) fl8_160 rfl ok0.1 ?_
  refine wp_icmp_ge (off := 124) (tgt := 145) (by decide +kernel) (by decide) (fun c1 => ?_) (fun c1 => ?_)
  · rw [if_pos c1] at H
    refine wp_iinc (i := 4) (z := 1) (v := 1) (lv' := [(4, .int (x4 + 1)), (0, .ref a0), (1, .ref a1), (2, .ref a2), (3, .ref a3), (5, .int x5)]) 4 (by decide +kernel) rfl (by decide) (by decide) rfl ?_
    refine wp_goto (off := -145) (tgt := 3) (by decide +kernel) (by decide) ?_
    exact wp_sub [1, 2, 3, 4, 0] rfl H
  · rw [if_neg c1] at H
    refine wp_iload (i := 4) (x := x4) 4 (by decide +kernel) rfl ?_
    refine wp_aload_n (z := 0) (i := 0) (r := (some a0)) 0 (by decide +kernel) rfl rfl ?_
    refine wp_getI (idx := 160) (by decide +kernel) fl8_160 rfl ok0.1 ?_
    refine wp_imul (by decide +kernel) ?_
    refine wp_iload (i := 5) (x := x5) 5 (by decide +kernel) rfl ?_
    refine wp_iadd (by decide +kernel) ?_
    refine wp_topi (fun u2 eu2 => ?_)
    replace H := H u2 eu2
    refine wp_istore (i := 6) (lv' := [(6, .int u2), (0, .ref a0), (1, .ref a1), (2, .ref a2), (3, .ref a3), (4, .int x4), (5, .int x5)]) (by decide +kernel) (by decide) rfl ?_
    refine wp_iconst (z := 0) (v := 0) (by decide +kernel) (by decide) ?_
    refine wp_istore (i := 7) (lv' := [(7, .int 0), (6, .int u2), (0, .ref a0), (1, .ref a1), (2, .ref a2), (3, .ref a3), (4, .int x4), (5, .int x5)]) (by decide +kernel) (by decide) rfl ?_
    refine wp_iload (i := 4) (x := x4) 6 (by decide +kernel) rfl ?_
    refine wp_if_le (off := 14) (tgt := 55) (by decide +kernel) (by decide) (fun c3 => ?_) (fun c3 => ?_)
    · rw [if_pos c3] at H
      exact wp_sub [2, 3, 4, 5, 6, 7, 1, 0] rfl H
    · rw [if_neg c3] at H
      refine wp_aload_n (z := 2) (i := 2) (r := (some a2)) 4 (by decide +kernel) rfl rfl ?_
      refine wp_iload (i := 6) (x := u2) 1 (by decide +kernel) rfl ?_
      refine wp_aload_n (z := 0) (i := 0) (r := (some a0)) 2 (by decide +kernel) rfl rfl ?_
      refine wp_getI (idx := 160) (by decide +kernel) fl8_160 rfl ok0.1 ?_
      refine wp_isub (by decide +kernel) ?_
      obtain ⟨o5, H⟩ := H
      refine wp_iald (j := (cl (u2 - (I a0 0)))) (by decide +kernel) s2 o5 rfl ?_
      refine wp_topi (fun u4 eu4 => ?_)
      replace H := H u4 eu4
      refine wp_istore (i := 7) (lv' := [(7, .int u4), (6, .int u2), (0, .ref a0), (1, .ref a1), (2, .ref a2), (3, .ref a3), (4, .int x4), (5, .int x5)]) (by decide +kernel) (by decide) rfl ?_
      exact wp_sub [2, 3, 4, 5, 6, 7, 1, 0] rfl H
set_option maxRecDepth 20000 in
theorem b8_passOn_55 {X : XX} {G : GG} {I : Nat → Nat → Int32} {L : Nat → Nat → Int64} {a0 : Nat} {a1 : Nat} {n1 : Nat} {a2 : Nat} {n2 : Nat} {a3 : Nat} {n3 : Nat} {x4 : Int32} {x5 : Int32} {x6 : Int32} {x7 : Int32} {Q : (Nat → Nat → Int32) → (Nat → Nat → Int64) → Prop} (ok0 : OK7 G a0) (s1 : G.1 a1 = some (11, n1)) (s2 : G.1 a2 = some (11, n2)) (s3 : G.1 a3 = some (11, n3)) (H : if (I a0 1) ≤ (x4 + 1) then (wpV X B8_passOn 82 [(0, .ref a0), (1, .ref a1), (2, .ref a2), (3, .ref a3), (4, .int x4), (5, .int x5), (6, .int x6), (7, .int x7)] [] G I L Q) else (vp_in (x6 + (I a0 0)) n2 ∧ (∀ u2, u2 = (mx x7 (I a2 (cl (x6 + (I a0 0))))) → wpV X B8_passOn 82 [(0, .ref a0), (1, .ref a1), (2, .ref a2), (3, .ref a3), (4, .int x4), (5, .int x5), (6, .int x6), (7, .int u2)] [] G I L Q))) : wpV X B8_passOn 55 [(0, .ref a0), (1, .ref a1), (2, .ref a2), (3, .ref a3), (4, .int x4), (5, .int x5), (6, .int x6), (7, .int x7)] [] G I L Q := by
  refine wp_iload (i := 4) (x := x4) 4 (by decide +kernel) rfl ?_
  refine wp_iconst (z := 1) (v := 1) (by decide +kernel) (by decide) ?_
  refine wp_iadd (by decide +kernel) ?_
  refine wp_aload_n (z := 0) (i := 0) (r := (some a0)) 0 (by decide +kernel) rfl rfl ?_
  refine wp_getI (idx := 163) (by decide +kernel) fl8_163 rfl ok0.1 ?_
  refine wp_icmp_ge (off := 19) (tgt := 82) (by decide +kernel) (by decide) (fun c1 => ?_) (fun c1 => ?_)
  · rw [if_pos c1] at H
    exact wp_sub [0, 1, 2, 3, 4, 5, 6, 7] rfl H
  · rw [if_neg c1] at H
    refine wp_iload (i := 7) (x := x7) 7 (by decide +kernel) rfl ?_
    refine wp_aload_n (z := 2) (i := 2) (r := (some a2)) 2 (by decide +kernel) rfl rfl ?_
    refine wp_iload (i := 6) (x := x6) 6 (by decide +kernel) rfl ?_
    refine wp_aload_n (z := 0) (i := 0) (r := (some a0)) 0 (by decide +kernel) rfl rfl ?_
    refine wp_getI (idx := 160) (by decide +kernel) fl8_160 rfl ok0.1 ?_
    refine wp_iadd (by decide +kernel) ?_
    obtain ⟨o3, H⟩ := H
    refine wp_iald (j := (cl (x6 + (I a0 0)))) (by decide +kernel) s2 o3 rfl ?_
    refine wp_mmax (idx := 333) (by decide +kernel) (in_g (List.mem_of_getElem? (i := 749) (by decide +kernel)) rfl) (in_g (List.mem_of_getElem? (i := 646) (by decide +kernel)) rfl) (in_g (List.mem_of_getElem? (i := 127) (by decide +kernel)) rfl) (in_g (List.mem_of_getElem? (i := 647) (by decide +kernel)) (by decide +kernel)) (Nat.le_of_ble_eq_true rfl) (Nat.le_of_ble_eq_true rfl) (Nat.le_of_ble_eq_true rfl) (Nat.le_of_ble_eq_true rfl) ?_
    refine wp_topi (fun u2 eu2 => ?_)
    replace H := H u2 eu2
    refine wp_istore (i := 7) (lv' := [(7, .int u2), (0, .ref a0), (1, .ref a1), (2, .ref a2), (3, .ref a3), (4, .int x4), (5, .int x5), (6, .int x6)]) (by decide +kernel) (by decide) rfl ?_
    exact wp_sub [1, 2, 3, 4, 5, 6, 7, 0] rfl H
set_option maxRecDepth 20000 in
theorem b8_passOn_82 {X : XX} {G : GG} {I : Nat → Nat → Int32} {L : Nat → Nat → Int64} {a0 : Nat} {a1 : Nat} {n1 : Nat} {a2 : Nat} {n2 : Nat} {a3 : Nat} {n3 : Nat} {x4 : Int32} {x5 : Int32} {x6 : Int32} {x7 : Int32} {Q : (Nat → Nat → Int32) → (Nat → Nat → Int64) → Prop} (ok0 : OK7 G a0) (s1 : G.1 a1 = some (11, n1)) (s2 : G.1 a2 = some (11, n2)) (s3 : G.1 a3 = some (11, n3)) (H : if x5 ≤ (0 : Int32) then (if (I a0 0) ≤ (x5 + 1) then (vp_in x6 n1 ∧ (vp_in x6 n3 ∧ (∀ I3, I3 = up2 I a3 (cl x6) (mx 0 (x7 - (I a1 (cl x6)))) → wpV X B8_passOn 15 [(0, .ref a0), (1, .ref a1), (2, .ref a2), (3, .ref a3), (4, .int x4), (5, .int (x5 + 1))] [] G I3 L Q))) else (vp_in (x6 + 1) n2 ∧ (∀ u6, u6 = (mx x7 (I a2 (cl (x6 + 1)))) → vp_in x6 n1 ∧ (vp_in x6 n3 ∧ (∀ I7, I7 = up2 I a3 (cl x6) (mx 0 (u6 - (I a1 (cl x6)))) → wpV X B8_passOn 15 [(0, .ref a0), (1, .ref a1), (2, .ref a2), (3, .ref a3), (4, .int x4), (5, .int (x5 + 1))] [] G I7 L Q))))) else (vp_in (x6 - 1) n2 ∧ (∀ u11, u11 = (mx x7 (I a2 (cl (x6 - 1)))) → if (I a0 0) ≤ (x5 + 1) then (vp_in x6 n1 ∧ (vp_in x6 n3 ∧ (∀ I13, I13 = up2 I a3 (cl x6) (mx 0 (u11 - (I a1 (cl x6)))) → wpV X B8_passOn 15 [(0, .ref a0), (1, .ref a1), (2, .ref a2), (3, .ref a3), (4, .int x4), (5, .int (x5 + 1))] [] G I13 L Q))) else (vp_in (x6 + 1) n2 ∧ (∀ u16, u16 = (mx u11 (I a2 (cl (x6 + 1)))) → vp_in x6 n1 ∧ (vp_in x6 n3 ∧ (∀ I17, I17 = up2 I a3 (cl x6) (mx 0 (u16 - (I a1 (cl x6)))) → wpV X B8_passOn 15 [(0, .ref a0), (1, .ref a1), (2, .ref a2), (3, .ref a3), (4, .int x4), (5, .int (x5 + 1))] [] G I17 L Q))))))) : wpV X B8_passOn 82 [(0, .ref a0), (1, .ref a1), (2, .ref a2), (3, .ref a3), (4, .int x4), (5, .int x5), (6, .int x6), (7, .int x7)] [] G I L Q := by
  refine wp_iload (i := 5) (x := x5) 5 (by decide +kernel) rfl ?_
  refine wp_if_le (off := 16) (tgt := 100) (by decide +kernel) (by decide) (fun c1 => ?_) (fun c1 => ?_)
  · rw [if_pos c1] at H
    refine wp_iload (i := 5) (x := x5) 5 (by decide +kernel) rfl ?_
    refine wp_iconst (z := 1) (v := 1) (by decide +kernel) (by decide) ?_
    refine wp_iadd (by decide +kernel) ?_
    refine wp_aload_n (z := 0) (i := 0) (r := (some a0)) 0 (by decide +kernel) rfl rfl ?_
    refine wp_getI (idx := 160) (by decide +kernel) fl8_160 rfl ok0.1 ?_
    refine wp_icmp_ge (off := 16) (tgt := 124) (by decide +kernel) (by decide) (fun c2 => ?_) (fun c2 => ?_)
    · rw [if_pos c2] at H
      refine wp_aload_n (z := 3) (i := 3) (r := (some a3)) 3 (by decide +kernel) rfl rfl ?_
      refine wp_iload (i := 6) (x := x6) 6 (by decide +kernel) rfl ?_
      refine wp_iconst (z := 0) (v := 0) (by decide +kernel) (by decide) ?_
      refine wp_iload (i := 7) (x := x7) 7 (by decide +kernel) rfl ?_
      refine wp_aload_n (z := 1) (i := 1) (r := (some a1)) 1 (by decide +kernel) rfl rfl ?_
      refine wp_iload (i := 6) (x := x6) 6 (by decide +kernel) rfl ?_
      obtain ⟨o5, H⟩ := H
      refine wp_iald (j := (cl x6)) (by decide +kernel) s1 o5 rfl ?_
      refine wp_isub (by decide +kernel) ?_
      refine wp_mmax (idx := 333) (by decide +kernel) (in_g (List.mem_of_getElem? (i := 749) (by decide +kernel)) rfl) (in_g (List.mem_of_getElem? (i := 646) (by decide +kernel)) rfl) (in_g (List.mem_of_getElem? (i := 127) (by decide +kernel)) rfl) (in_g (List.mem_of_getElem? (i := 647) (by decide +kernel)) (by decide +kernel)) (Nat.le_of_ble_eq_true rfl) (Nat.le_of_ble_eq_true rfl) (Nat.le_of_ble_eq_true rfl) (Nat.le_of_ble_eq_true rfl) ?_
      obtain ⟨o4, H⟩ := H
      refine wp_iast (j := (cl x6)) (by decide +kernel) s3 o4 rfl ?_
      refine wp_memI (fun I3 eI3 => ?_)
      replace H := H I3 eI3
      refine wp_iinc (i := 5) (z := 1) (v := 1) (lv' := [(5, .int (x5 + 1)), (0, .ref a0), (1, .ref a1), (2, .ref a2), (3, .ref a3), (4, .int x4), (6, .int x6), (7, .int x7)]) 5 (by decide +kernel) rfl (by decide) (by decide) rfl ?_
      refine wp_goto (off := -127) (tgt := 15) (by decide +kernel) (by decide) ?_
      exact wp_sub [1, 2, 3, 4, 5, 0] rfl H
    · rw [if_neg c2] at H
      refine wp_iload (i := 7) (x := x7) 7 (by decide +kernel) rfl ?_
      refine wp_aload_n (z := 2) (i := 2) (r := (some a2)) 2 (by decide +kernel) rfl rfl ?_
      refine wp_iload (i := 6) (x := x6) 6 (by decide +kernel) rfl ?_
      refine wp_iconst (z := 1) (v := 1) (by decide +kernel) (by decide) ?_
      refine wp_iadd (by decide +kernel) ?_
      obtain ⟨o10, H⟩ := H
      refine wp_iald (j := (cl (x6 + 1))) (by decide +kernel) s2 o10 rfl ?_
      refine wp_mmax (idx := 333) (by decide +kernel) (in_g (List.mem_of_getElem? (i := 749) (by decide +kernel)) rfl) (in_g (List.mem_of_getElem? (i := 646) (by decide +kernel)) rfl) (in_g (List.mem_of_getElem? (i := 127) (by decide +kernel)) rfl) (in_g (List.mem_of_getElem? (i := 647) (by decide +kernel)) (by decide +kernel)) (Nat.le_of_ble_eq_true rfl) (Nat.le_of_ble_eq_true rfl) (Nat.le_of_ble_eq_true rfl) (Nat.le_of_ble_eq_true rfl) ?_
      refine wp_topi (fun u6 eu6 => ?_)
      replace H := H u6 eu6
      refine wp_istore (i := 7) (lv' := [(7, .int u6), (0, .ref a0), (1, .ref a1), (2, .ref a2), (3, .ref a3), (4, .int x4), (5, .int x5), (6, .int x6)]) (by decide +kernel) (by decide) rfl ?_
      refine wp_aload_n (z := 3) (i := 3) (r := (some a3)) 4 (by decide +kernel) rfl rfl ?_
      refine wp_iload (i := 6) (x := x6) 7 (by decide +kernel) rfl ?_
      refine wp_iconst (z := 0) (v := 0) (by decide +kernel) (by decide) ?_
      refine wp_iload (i := 7) (x := u6) 0 (by decide +kernel) rfl ?_
      refine wp_aload_n (z := 1) (i := 1) (r := (some a1)) 2 (by decide +kernel) rfl rfl ?_
      refine wp_iload (i := 6) (x := x6) 7 (by decide +kernel) rfl ?_
      obtain ⟨o9, H⟩ := H
      refine wp_iald (j := (cl x6)) (by decide +kernel) s1 o9 rfl ?_
      refine wp_isub (by decide +kernel) ?_
      refine wp_mmax (idx := 333) (by decide +kernel) (in_g (List.mem_of_getElem? (i := 749) (by decide +kernel)) rfl) (in_g (List.mem_of_getElem? (i := 646) (by decide +kernel)) rfl) (in_g (List.mem_of_getElem? (i := 127) (by decide +kernel)) rfl) (in_g (List.mem_of_getElem? (i := 647) (by decide +kernel)) (by decide +kernel)) (Nat.le_of_ble_eq_true rfl) (Nat.le_of_ble_eq_true rfl) (Nat.le_of_ble_eq_true rfl) (Nat.le_of_ble_eq_true rfl) ?_
      obtain ⟨o8, H⟩ := H
      refine wp_iast (j := (cl x6)) (by decide +kernel) s3 o8 rfl ?_
      refine wp_memI (fun I7 eI7 => ?_)
      replace H := H I7 eI7
      refine wp_iinc (i := 5) (z := 1) (v := 1) (lv' := [(5, .int (x5 + 1)), (7, .int u6), (0, .ref a0), (1, .ref a1), (2, .ref a2), (3, .ref a3), (4, .int x4), (6, .int x6)]) 6 (by decide +kernel) rfl (by decide) (by decide) rfl ?_
      refine wp_goto (off := -127) (tgt := 15) (by decide +kernel) (by decide) ?_
      exact wp_sub [2, 3, 4, 5, 6, 0] rfl H
  · rw [if_neg c1] at H
    refine wp_iload (i := 7) (x := x7) 7 (by decide +kernel) rfl ?_
    refine wp_aload_n (z := 2) (i := 2) (r := (some a2)) 2 (by decide +kernel) rfl rfl ?_
    refine wp_iload (i := 6) (x := x6) 6 (by decide +kernel) rfl ?_
    refine wp_iconst (z := 1) (v := 1) (by decide +kernel) (by decide) ?_
    refine wp_isub (by decide +kernel) ?_
    obtain ⟨o21, H⟩ := H
    refine wp_iald (j := (cl (x6 - 1))) (by decide +kernel) s2 o21 rfl ?_
    refine wp_mmax (idx := 333) (by decide +kernel) (in_g (List.mem_of_getElem? (i := 749) (by decide +kernel)) rfl) (in_g (List.mem_of_getElem? (i := 646) (by decide +kernel)) rfl) (in_g (List.mem_of_getElem? (i := 127) (by decide +kernel)) rfl) (in_g (List.mem_of_getElem? (i := 647) (by decide +kernel)) (by decide +kernel)) (Nat.le_of_ble_eq_true rfl) (Nat.le_of_ble_eq_true rfl) (Nat.le_of_ble_eq_true rfl) (Nat.le_of_ble_eq_true rfl) ?_
    refine wp_topi (fun u11 eu11 => ?_)
    replace H := H u11 eu11
    refine wp_istore (i := 7) (lv' := [(7, .int u11), (0, .ref a0), (1, .ref a1), (2, .ref a2), (3, .ref a3), (4, .int x4), (5, .int x5), (6, .int x6)]) (by decide +kernel) (by decide) rfl ?_
    refine wp_iload (i := 5) (x := x5) 6 (by decide +kernel) rfl ?_
    refine wp_iconst (z := 1) (v := 1) (by decide +kernel) (by decide) ?_
    refine wp_iadd (by decide +kernel) ?_
    refine wp_aload_n (z := 0) (i := 0) (r := (some a0)) 1 (by decide +kernel) rfl rfl ?_
    refine wp_getI (idx := 160) (by decide +kernel) fl8_160 rfl ok0.1 ?_
    refine wp_icmp_ge (off := 16) (tgt := 124) (by decide +kernel) (by decide) (fun c12 => ?_) (fun c12 => ?_)
    · rw [if_pos c12] at H
      refine wp_aload_n (z := 3) (i := 3) (r := (some a3)) 4 (by decide +kernel) rfl rfl ?_
      refine wp_iload (i := 6) (x := x6) 7 (by decide +kernel) rfl ?_
      refine wp_iconst (z := 0) (v := 0) (by decide +kernel) (by decide) ?_
      refine wp_iload (i := 7) (x := u11) 0 (by decide +kernel) rfl ?_
      refine wp_aload_n (z := 1) (i := 1) (r := (some a1)) 2 (by decide +kernel) rfl rfl ?_
      refine wp_iload (i := 6) (x := x6) 7 (by decide +kernel) rfl ?_
      obtain ⟨o15, H⟩ := H
      refine wp_iald (j := (cl x6)) (by decide +kernel) s1 o15 rfl ?_
      refine wp_isub (by decide +kernel) ?_
      refine wp_mmax (idx := 333) (by decide +kernel) (in_g (List.mem_of_getElem? (i := 749) (by decide +kernel)) rfl) (in_g (List.mem_of_getElem? (i := 646) (by decide +kernel)) rfl) (in_g (List.mem_of_getElem? (i := 127) (by decide +kernel)) rfl) (in_g (List.mem_of_getElem? (i := 647) (by decide +kernel)) (by decide +kernel)) (Nat.le_of_ble_eq_true rfl) (Nat.le_of_ble_eq_true rfl) (Nat.le_of_ble_eq_true rfl) (Nat.le_of_ble_eq_true rfl) ?_
      obtain ⟨o14, H⟩ := H
      refine wp_iast (j := (cl x6)) (by decide +kernel) s3 o14 rfl ?_
      refine wp_memI (fun I13 eI13 => ?_)
      replace H := H I13 eI13
      refine wp_iinc (i := 5) (z := 1) (v := 1) (lv' := [(5, .int (x5 + 1)), (7, .int u11), (0, .ref a0), (1, .ref a1), (2, .ref a2), (3, .ref a3), (4, .int x4), (6, .int x6)]) 6 (by decide +kernel) rfl (by decide) (by decide) rfl ?_
      refine wp_goto (off := -127) (tgt := 15) (by decide +kernel) (by decide) ?_
      exact wp_sub [2, 3, 4, 5, 6, 0] rfl H
    · rw [if_neg c12] at H
      refine wp_iload (i := 7) (x := u11) 0 (by decide +kernel) rfl ?_
      refine wp_aload_n (z := 2) (i := 2) (r := (some a2)) 3 (by decide +kernel) rfl rfl ?_
      refine wp_iload (i := 6) (x := x6) 7 (by decide +kernel) rfl ?_
      refine wp_iconst (z := 1) (v := 1) (by decide +kernel) (by decide) ?_
      refine wp_iadd (by decide +kernel) ?_
      obtain ⟨o20, H⟩ := H
      refine wp_iald (j := (cl (x6 + 1))) (by decide +kernel) s2 o20 rfl ?_
      refine wp_mmax (idx := 333) (by decide +kernel) (in_g (List.mem_of_getElem? (i := 749) (by decide +kernel)) rfl) (in_g (List.mem_of_getElem? (i := 646) (by decide +kernel)) rfl) (in_g (List.mem_of_getElem? (i := 127) (by decide +kernel)) rfl) (in_g (List.mem_of_getElem? (i := 647) (by decide +kernel)) (by decide +kernel)) (Nat.le_of_ble_eq_true rfl) (Nat.le_of_ble_eq_true rfl) (Nat.le_of_ble_eq_true rfl) (Nat.le_of_ble_eq_true rfl) ?_
      refine wp_topi (fun u16 eu16 => ?_)
      replace H := H u16 eu16
      refine wp_istore (i := 7) (lv' := [(7, .int u16), (0, .ref a0), (1, .ref a1), (2, .ref a2), (3, .ref a3), (4, .int x4), (5, .int x5), (6, .int x6)]) (by decide +kernel) (by decide) rfl ?_
      refine wp_aload_n (z := 3) (i := 3) (r := (some a3)) 4 (by decide +kernel) rfl rfl ?_
      refine wp_iload (i := 6) (x := x6) 7 (by decide +kernel) rfl ?_
      refine wp_iconst (z := 0) (v := 0) (by decide +kernel) (by decide) ?_
      refine wp_iload (i := 7) (x := u16) 0 (by decide +kernel) rfl ?_
      refine wp_aload_n (z := 1) (i := 1) (r := (some a1)) 2 (by decide +kernel) rfl rfl ?_
      refine wp_iload (i := 6) (x := x6) 7 (by decide +kernel) rfl ?_
      obtain ⟨o19, H⟩ := H
      refine wp_iald (j := (cl x6)) (by decide +kernel) s1 o19 rfl ?_
      refine wp_isub (by decide +kernel) ?_
      refine wp_mmax (idx := 333) (by decide +kernel) (in_g (List.mem_of_getElem? (i := 749) (by decide +kernel)) rfl) (in_g (List.mem_of_getElem? (i := 646) (by decide +kernel)) rfl) (in_g (List.mem_of_getElem? (i := 127) (by decide +kernel)) rfl) (in_g (List.mem_of_getElem? (i := 647) (by decide +kernel)) (by decide +kernel)) (Nat.le_of_ble_eq_true rfl) (Nat.le_of_ble_eq_true rfl) (Nat.le_of_ble_eq_true rfl) (Nat.le_of_ble_eq_true rfl) ?_
      obtain ⟨o18, H⟩ := H
      refine wp_iast (j := (cl x6)) (by decide +kernel) s3 o18 rfl ?_
      refine wp_memI (fun I17 eI17 => ?_)
      replace H := H I17 eI17
      refine wp_iinc (i := 5) (z := 1) (v := 1) (lv' := [(5, .int (x5 + 1)), (7, .int u16), (0, .ref a0), (1, .ref a1), (2, .ref a2), (3, .ref a3), (4, .int x4), (6, .int x6)]) 6 (by decide +kernel) rfl (by decide) (by decide) rfl ?_
      refine wp_goto (off := -127) (tgt := 15) (by decide +kernel) (by decide) ?_
      exact wp_sub [2, 3, 4, 5, 6, 0] rfl H
/-! DeafWall$Stand.endsWith(II)Z -/
set_option maxRecDepth 20000 in
theorem b5_endsWith {X : XX} {G : GG} {I : Nat → Nat → Int32} {L : Nat → Nat → Int64} {h : Nat} {x1 : Int32} {x2 : Int32} {Q : Int32 → (Nat → Nat → Int32) → (Nat → Nat → Int64) → Prop} (ok : OK5 G h) (H : wpI X B5_endsWith 2 [(0, .ref h), (1, .int x1), (2, .int x2), (3, .int 0)] [] G I L Q) : wpI X B5_endsWith 0 [(0, .ref h), (1, .int x1), (2, .int x2)] [] G I L Q := by
  refine wp_iconst (z := 0) (v := 0) (by decide +kernel) (by decide) ?_
  refine wp_istore_n (z := 3) (i := 3) (lv' := [(3, .int 0), (0, .ref h), (1, .int x1), (2, .int x2)]) (by decide +kernel) rfl (by decide) rfl ?_
  exact wp_sub [1, 2, 3, 0] rfl H
set_option maxRecDepth 20000 in
theorem b5_endsWith_2 {X : XX} {G : GG} {I : Nat → Nat → Int32} {L : Nat → Nat → Int64} {h : Nat} {x1 : Int32} {x2 : Int32} {x3 : Int32} {Q : Int32 → (Nat → Nat → Int32) → (Nat → Nat → Int64) → Prop} (ok : OK5 G h) (H : ∀ r1, r1 = G.2.1 h 0 → ∃ q2, r1 = some q2 ∧ (OK7 G q2 ∧ (vp_in x2 6 ∧ (if (I (q2 + 4) (cl x2)) ≤ x3 then (Q 1 I L) else (∀ r6, r6 = G.2.1 h 0 → ∃ q7, r6 = some q7 ∧ (OK7 G q7 ∧ (vp_in x2 6 ∧ (∀ r10, r10 = G.2.1 h 0 → ∃ q11, r10 = some q11 ∧ (OK7 G q11 ∧ (p8_markOf I q11 x2 x3 ∧ (if ((x1 >>> ((((I (q7 + 4) (cl x2)) - 1) - x3) &&& 31)) &&& 1) = (v8_markOf I q11 x2 x3) then (wpI X B5_endsWith 2 [(0, .ref h), (1, .int x1), (2, .int x2), (3, .int (x3 + 1))] [] G I L Q) else (Q 0 I L)))))))))))) : wpI X B5_endsWith 2 [(0, .ref h), (1, .int x1), (2, .int x2), (3, .int x3)] [] G I L Q := by
  refine wp_iload_n (z := 3) (i := 3) (x := x3) 3 (by decide +kernel) rfl rfl ?_
  refine wp_aload_n (z := 0) (i := 0) (r := (some h)) 0 (by decide +kernel) rfl rfl ?_
  refine wp_getR (idx := 12) (by decide +kernel) fl5_12 rfl ok.1 ?_
  refine wp_topr (fun r1 er1 => ?_)
  replace H := H r1 er1
  obtain ⟨q2, e3, H⟩ := H
  subst e3
  show wp X B5_endsWith 7 [(0, .ref h), (1, .int x1), (2, .int x2), (3, .int x3)] [.ref q2, .int x3] (G, I, L) 0 0 _
  obtain ⟨f4, H⟩ := H
  refine wp_getS (idx := 151) (q := (q2 + 4)) (by decide +kernel) fl5_151 rfl f4.1 (okr7_8 f4) ?_
  refine wp_iload_n (z := 2) (i := 2) (x := x2) 2 (by decide +kernel) rfl rfl ?_
  obtain ⟨o17, H⟩ := H
  refine wp_iald (j := (cl x2)) (by decide +kernel) (oks7_8 f4) o17 rfl ?_
  refine wp_icmp_ge (off := 40) (tgt := 52) (by decide +kernel) (by decide) (fun c5 => ?_) (fun c5 => ?_)
  · rw [if_pos c5] at H
    refine wp_iconst (z := 1) (v := 1) (by decide +kernel) (by decide) ?_
    exact wp_zret (by decide +kernel) rfl (by decide) (Nat.zero_le _) (Nat.zero_le _) ⟨_, _, _, rfl, rfl, H⟩
  · rw [if_neg c5] at H
    refine wp_iload_n (z := 1) (i := 1) (x := x1) 1 (by decide +kernel) rfl rfl ?_
    refine wp_aload_n (z := 0) (i := 0) (r := (some h)) 0 (by decide +kernel) rfl rfl ?_
    refine wp_getR (idx := 12) (by decide +kernel) fl5_12 rfl ok.1 ?_
    refine wp_topr (fun r6 er6 => ?_)
    replace H := H r6 er6
    obtain ⟨q7, e8, H⟩ := H
    subst e8
    show wp X B5_endsWith 20 [(0, .ref h), (1, .int x1), (2, .int x2), (3, .int x3)] [.ref q7, .int x1] (G, I, L) 0 0 _
    obtain ⟨f9, H⟩ := H
    refine wp_getS (idx := 151) (q := (q7 + 4)) (by decide +kernel) fl5_151 rfl f9.1 (okr7_8 f9) ?_
    refine wp_iload_n (z := 2) (i := 2) (x := x2) 2 (by decide +kernel) rfl rfl ?_
    obtain ⟨o16, H⟩ := H
    refine wp_iald (j := (cl x2)) (by decide +kernel) (oks7_8 f9) o16 rfl ?_
    refine wp_iconst (z := 1) (v := 1) (by decide +kernel) (by decide) ?_
    refine wp_isub (by decide +kernel) ?_
    refine wp_iload_n (z := 3) (i := 3) (x := x3) 3 (by decide +kernel) rfl rfl ?_
    refine wp_isub (by decide +kernel) ?_
    refine wp_ishr (by decide +kernel) ?_
    refine wp_iconst (z := 1) (v := 1) (by decide +kernel) (by decide) ?_
    refine wp_iand (by decide +kernel) ?_
    refine wp_aload_n (z := 0) (i := 0) (r := (some h)) 0 (by decide +kernel) rfl rfl ?_
    refine wp_getR (idx := 12) (by decide +kernel) fl5_12 rfl ok.1 ?_
    refine wp_topr (fun r10 er10 => ?_)
    replace H := H r10 er10
    refine wp_iload_n (z := 2) (i := 2) (x := x2) 2 (by decide +kernel) rfl rfl ?_
    refine wp_iload_n (z := 3) (i := 3) (x := x3) 3 (by decide +kernel) rfl rfl ?_
    obtain ⟨q11, e12, H⟩ := H
    subst e12
    show wp X B5_endsWith 38 [(0, .ref h), (1, .int x1), (2, .int x2), (3, .int x3)] [.int x3, .int x2, .ref q11, .int ((x1 >>> ((((I (q7 + 4) (cl x2)) - 1) - x3) &&& 31)) &&& 1)] (G, I, L) 0 0 _
    obtain ⟨f13, H⟩ := H
    obtain ⟨o15, H⟩ := H
    refine wp_callSN (idx := 157) (B2 := B8_markOf) (As := [.ref q11, .int x2, .int x3]) (st := [.int ((x1 >>> ((((I (q7 + 4) (cl x2)) - 1) - x3) &&& 31)) &&& 1)]) (by decide +kernel) m8_markOf ml5_157 k8_markOf (⟨Nat.le_of_ble_eq_true rfl, Nat.le_of_ble_eq_true rfl⟩ : rOK B5_endsWith B8_markOf) rfl (Nat.le_of_ble_eq_true rfl) (Nat.le_of_ble_eq_true rfl) ⟨Nat.le_of_ble_eq_true rfl, Nat.le_of_ble_eq_true rfl⟩ rfl (wp_mono (b8_markOf (Q := (fun r I' L' => r = (v8_markOf I q11 x2 x3) ∧ I = I' ∧ L = L')) f13 o15 ⟨rfl, rfl, rfl⟩) (fun v9 M9 hq9 => ?_))
    obtain ⟨_, _, _, rfl, rfl, rfl, rfl, rfl⟩ := hq9
    show wp X B5_endsWith 41 [(0, .ref h), (1, .int x1), (2, .int x2), (3, .int x3)] [.int (v8_markOf I q11 x2 x3), .int ((x1 >>> ((((I (q7 + 4) (cl x2)) - 1) - x3) &&& 31)) &&& 1)] (G, I, L) 0 0 _
    refine wp_icmp_eq (off := 5) (tgt := 46) (by decide +kernel) (by decide) (fun c14 => ?_) (fun c14 => ?_)
    · rw [if_pos c14] at H
      refine wp_iinc (i := 3) (z := 1) (v := 1) (lv' := [(3, .int (x3 + 1)), (0, .ref h), (1, .int x1), (2, .int x2)]) 3 (by decide +kernel) rfl (by decide) (by decide) rfl ?_
      refine wp_goto (off := -47) (tgt := 2) (by decide +kernel) (by decide) ?_
      exact wp_sub [1, 2, 3, 0] rfl H
    · rw [if_neg c14] at H
      refine wp_iconst (z := 0) (v := 0) (by decide +kernel) (by decide) ?_
      exact wp_zret (by decide +kernel) rfl (by decide) (Nat.zero_le _) (Nat.zero_le _) ⟨_, _, _, rfl, rfl, H⟩
/-! DeafWall$Stand.feel(I)I -/
set_option maxRecDepth 20000 in
theorem b5_feel {X : XX} {G : GG} {I : Nat → Nat → Int32} {L : Nat → Nat → Int64} {h : Nat} {x1 : Int32} {Q : Int32 → (Nat → Nat → Int32) → (Nat → Nat → Int64) → Prop} (ok : OK5 G h) (H : if (((I h 2) >>> (x1 &&& 31)) &&& 1) = (0 : Int32) then (∀ r2, r2 = G.2.1 h 3 → vp_in x1 6 ∧ (∃ q3, r2 = some q3 ∧ (∃ n6, G.1 q3 = some (11, n6) ∧ (vp_in (I (h + 10) (cl x1)) n6 ∧ (∀ r7, r7 = G.2.1 h 0 → ∃ q8, r7 = some q8 ∧ (OK7 G q8 ∧ (vp_in x1 6 ∧ (if (I q3 (cl (I (h + 10) (cl x1)))) < (I (q8 + 3) (cl x1)) then (wpI X B5_feel 38 [(0, .ref h), (1, .int x1)] [] G I L Q) else (vp_in x1 6 ∧ (vp_in x1 6 ∧ (∀ I13, I13 = up2 I (h + 11) (cl x1) ((I (h + 11) (cl x1)) + 1) → vp_in x1 6 ∧ (vp_in x1 6 ∧ (∀ I14, I14 = up2 I13 (h + 13) (cl x1) ((((I13 (h + 13) (cl x1)) <<< (1 &&& 31)) ||| 1) &&& 63) → wpI X B5_feel 82 [(0, .ref h), (1, .int x1), (3, .int 1), (4, .int 0)] [] G I14 L Q))))))))))))) else (wpI X B5_feel 38 [(0, .ref h), (1, .int x1)] [] G I L Q)) : wpI X B5_feel 0 [(0, .ref h), (1, .int x1)] [] G I L Q := by
  refine wp_aload_n (z := 0) (i := 0) (r := (some h)) 0 (by decide +kernel) rfl rfl ?_
  refine wp_getI (idx := 44) (by decide +kernel) fl5_44 rfl ok.1 ?_
  refine wp_iload_n (z := 1) (i := 1) (x := x1) 1 (by decide +kernel) rfl rfl ?_
  refine wp_ishr (by decide +kernel) ?_
  refine wp_iconst (z := 1) (v := 1) (by decide +kernel) (by decide) ?_
  refine wp_iand (by decide +kernel) ?_
  refine wp_if_ne (off := 30) (tgt := 38) (by decide +kernel) (by decide) (fun c1 => ?_) (fun c1 => ?_)
  · rw [if_neg c1] at H
    exact wp_sub [0, 1] rfl H
  · rw [if_pos c1] at H
    refine wp_aload_n (z := 0) (i := 0) (r := (some h)) 0 (by decide +kernel) rfl rfl ?_
    refine wp_getR (idx := 18) (by decide +kernel) fl5_18 rfl ok.1 ?_
    refine wp_topr (fun r2 er2 => ?_)
    replace H := H r2 er2
    refine wp_aload_n (z := 0) (i := 0) (r := (some h)) 0 (by decide +kernel) rfl rfl ?_
    refine wp_getS (idx := 28) (q := (h + 10)) (by decide +kernel) fl5_28 rfl ok.1 (okr5_6 ok) ?_
    refine wp_iload_n (z := 1) (i := 1) (x := x1) 1 (by decide +kernel) rfl rfl ?_
    obtain ⟨o21, H⟩ := H
    refine wp_iald (j := (cl x1)) (by decide +kernel) (oks5_6 ok) o21 rfl ?_
    obtain ⟨q3, e4, H⟩ := H
    subst e4
    show wp X B5_feel 21 [(0, .ref h), (1, .int x1)] [.int (I (h + 10) (cl x1)), .ref q3] (G, I, L) 0 0 _
    obtain ⟨n6, f5, H⟩ := H
    obtain ⟨o20, H⟩ := H
    refine wp_iald (j := (cl (I (h + 10) (cl x1)))) (by decide +kernel) f5 o20 rfl ?_
    refine wp_aload_n (z := 0) (i := 0) (r := (some h)) 0 (by decide +kernel) rfl rfl ?_
    refine wp_getR (idx := 12) (by decide +kernel) fl5_12 rfl ok.1 ?_
    refine wp_topr (fun r7 er7 => ?_)
    replace H := H r7 er7
    obtain ⟨q8, e9, H⟩ := H
    subst e9
    show wp X B5_feel 26 [(0, .ref h), (1, .int x1)] [.ref q8, .int (I q3 (cl (I (h + 10) (cl x1))))] (G, I, L) 0 0 _
    obtain ⟨f10, H⟩ := H
    refine wp_getS (idx := 145) (q := (q8 + 3)) (by decide +kernel) fl5_145 rfl f10.1 (okr7_6 f10) ?_
    refine wp_iload_n (z := 1) (i := 1) (x := x1) 1 (by decide +kernel) rfl rfl ?_
    obtain ⟨o19, H⟩ := H
    refine wp_iald (j := (cl x1)) (by decide +kernel) (oks7_6 f10) o19 rfl ?_
    refine wp_icmp_lt (off := 7) (tgt := 38) (by decide +kernel) (by decide) (fun c11 => ?_) (fun c11 => ?_)
    · rw [if_pos c11] at H
      exact wp_sub [0, 1] rfl H
    · rw [if_neg c11] at H
      refine wp_iconst (z := 1) (v := 1) (by decide +kernel) (by decide) ?_
      refine wp_goto (off := 4) (tgt := 39) (by decide +kernel) (by decide) ?_
      refine wp_istore_n (z := 2) (i := 2) (lv' := [(2, .int 1), (0, .ref h), (1, .int x1)]) (by decide +kernel) rfl (by decide) rfl ?_
      refine wp_iload_n (z := 2) (i := 2) (x := 1) 0 (by decide +kernel) rfl rfl ?_
      refine wp_if_eq (off := 7) (tgt := 48) (by decide +kernel) (by decide) (fun c9 => absurd c9 (by decide)) (fun _ => ?_)
      refine wp_iconst (z := 1) (v := 1) (by decide +kernel) (by decide) ?_
      refine wp_goto (off := 4) (tgt := 49) (by decide +kernel) (by decide) ?_
      refine wp_istore_n (z := 3) (i := 3) (lv' := [(3, .int 1), (2, .int 1), (0, .ref h), (1, .int x1)]) (by decide +kernel) rfl (by decide) rfl ?_
      refine wp_aload_n (z := 0) (i := 0) (r := (some h)) 2 (by decide +kernel) rfl rfl ?_
      refine wp_getS (idx := 31) (q := (h + 11)) (by decide +kernel) fl5_31 rfl ok.1 (okr5_7 ok) ?_
      refine wp_iload_n (z := 1) (i := 1) (x := x1) 3 (by decide +kernel) rfl rfl ?_
      refine wp_dup2 (by decide +kernel) rfl rfl ?_
      obtain ⟨o18, H⟩ := H
      refine wp_iald (j := (cl x1)) (by decide +kernel) (oks5_7 ok) o18 rfl ?_
      refine wp_iload_n (z := 3) (i := 3) (x := 1) 0 (by decide +kernel) rfl rfl ?_
      refine wp_iadd (by decide +kernel) ?_
      obtain ⟨o17, H⟩ := H
      refine wp_iast (j := (cl x1)) (by decide +kernel) (oks5_7 ok) o17 rfl ?_
      refine wp_memI (fun I13 eI13 => ?_)
      replace H := H I13 eI13
      refine wp_aload_n (z := 0) (i := 0) (r := (some h)) 2 (by decide +kernel) rfl rfl ?_
      refine wp_getS (idx := 37) (q := (h + 13)) (by decide +kernel) fl5_37 rfl ok.1 (okr5_9 ok) ?_
      refine wp_iload_n (z := 1) (i := 1) (x := x1) 3 (by decide +kernel) rfl rfl ?_
      refine wp_aload_n (z := 0) (i := 0) (r := (some h)) 2 (by decide +kernel) rfl rfl ?_
      refine wp_getS (idx := 37) (q := (h + 13)) (by decide +kernel) fl5_37 rfl ok.1 (okr5_9 ok) ?_
      refine wp_iload_n (z := 1) (i := 1) (x := x1) 3 (by decide +kernel) rfl rfl ?_
      obtain ⟨o16, H⟩ := H
      refine wp_iald (j := (cl x1)) (by decide +kernel) (oks5_9 ok) o16 rfl ?_
      refine wp_iconst (z := 1) (v := 1) (by decide +kernel) (by decide) ?_
      refine wp_ishl (by decide +kernel) ?_
      refine wp_iload_n (z := 3) (i := 3) (x := 1) 0 (by decide +kernel) rfl rfl ?_
      refine wp_ior (by decide +kernel) ?_
      refine wp_bipush (z := 63) (v := 63) (by decide +kernel) (by decide) ?_
      refine wp_iand (by decide +kernel) ?_
      obtain ⟨o15, H⟩ := H
      refine wp_iast (j := (cl x1)) (by decide +kernel) (oks5_9 ok) o15 rfl ?_
      refine wp_memI (fun I14 eI14 => ?_)
      replace H := H I14 eI14
      refine wp_iconst (z := 0) (v := 0) (by decide +kernel) (by decide) ?_
      refine wp_istore (i := 4) (lv' := [(4, .int 0), (3, .int 1), (2, .int 1), (0, .ref h), (1, .int x1)]) (by decide +kernel) (by decide) rfl ?_
      exact wp_sub [3, 4, 1, 0] rfl H
set_option maxRecDepth 20000 in
theorem b5_feel_38 {X : XX} {G : GG} {I : Nat → Nat → Int32} {L : Nat → Nat → Int64} {h : Nat} {x1 : Int32} {Q : Int32 → (Nat → Nat → Int32) → (Nat → Nat → Int64) → Prop} (ok : OK5 G h) (H : vp_in x1 6 ∧ (vp_in x1 6 ∧ (∀ I2, I2 = up2 I (h + 11) (cl x1) ((I (h + 11) (cl x1)) + 0) → vp_in x1 6 ∧ (vp_in x1 6 ∧ (∀ I3, I3 = up2 I2 (h + 13) (cl x1) ((((I2 (h + 13) (cl x1)) <<< (1 &&& 31)) ||| 0) &&& 63) → wpI X B5_feel 82 [(0, .ref h), (1, .int x1), (3, .int 0), (4, .int 0)] [] G I3 L Q))))) : wpI X B5_feel 38 [(0, .ref h), (1, .int x1)] [] G I L Q := by
  refine wp_iconst (z := 0) (v := 0) (by decide +kernel) (by decide) ?_
  refine wp_istore_n (z := 2) (i := 2) (lv' := [(2, .int 0), (0, .ref h), (1, .int x1)]) (by decide +kernel) rfl (by decide) rfl ?_
  refine wp_iload_n (z := 2) (i := 2) (x := 0) 0 (by decide +kernel) rfl rfl ?_
  refine wp_if_eq (off := 7) (tgt := 48) (by decide +kernel) (by decide) (fun _ => ?_) (fun c9 => absurd c9 (by decide))
  refine wp_iconst (z := 0) (v := 0) (by decide +kernel) (by decide) ?_
  refine wp_istore_n (z := 3) (i := 3) (lv' := [(3, .int 0), (2, .int 0), (0, .ref h), (1, .int x1)]) (by decide +kernel) rfl (by decide) rfl ?_
  refine wp_aload_n (z := 0) (i := 0) (r := (some h)) 2 (by decide +kernel) rfl rfl ?_
  refine wp_getS (idx := 31) (q := (h + 11)) (by decide +kernel) fl5_31 rfl ok.1 (okr5_7 ok) ?_
  refine wp_iload_n (z := 1) (i := 1) (x := x1) 3 (by decide +kernel) rfl rfl ?_
  refine wp_dup2 (by decide +kernel) rfl rfl ?_
  obtain ⟨o7, H⟩ := H
  refine wp_iald (j := (cl x1)) (by decide +kernel) (oks5_7 ok) o7 rfl ?_
  refine wp_iload_n (z := 3) (i := 3) (x := 0) 0 (by decide +kernel) rfl rfl ?_
  refine wp_iadd (by decide +kernel) ?_
  obtain ⟨o6, H⟩ := H
  refine wp_iast (j := (cl x1)) (by decide +kernel) (oks5_7 ok) o6 rfl ?_
  refine wp_memI (fun I2 eI2 => ?_)
  replace H := H I2 eI2
  refine wp_aload_n (z := 0) (i := 0) (r := (some h)) 2 (by decide +kernel) rfl rfl ?_
  refine wp_getS (idx := 37) (q := (h + 13)) (by decide +kernel) fl5_37 rfl ok.1 (okr5_9 ok) ?_
  refine wp_iload_n (z := 1) (i := 1) (x := x1) 3 (by decide +kernel) rfl rfl ?_
  refine wp_aload_n (z := 0) (i := 0) (r := (some h)) 2 (by decide +kernel) rfl rfl ?_
  refine wp_getS (idx := 37) (q := (h + 13)) (by decide +kernel) fl5_37 rfl ok.1 (okr5_9 ok) ?_
  refine wp_iload_n (z := 1) (i := 1) (x := x1) 3 (by decide +kernel) rfl rfl ?_
  obtain ⟨o5, H⟩ := H
  refine wp_iald (j := (cl x1)) (by decide +kernel) (oks5_9 ok) o5 rfl ?_
  refine wp_iconst (z := 1) (v := 1) (by decide +kernel) (by decide) ?_
  refine wp_ishl (by decide +kernel) ?_
  refine wp_iload_n (z := 3) (i := 3) (x := 0) 0 (by decide +kernel) rfl rfl ?_
  refine wp_ior (by decide +kernel) ?_
  refine wp_bipush (z := 63) (v := 63) (by decide +kernel) (by decide) ?_
  refine wp_iand (by decide +kernel) ?_
  obtain ⟨o4, H⟩ := H
  refine wp_iast (j := (cl x1)) (by decide +kernel) (oks5_9 ok) o4 rfl ?_
  refine wp_memI (fun I3 eI3 => ?_)
  replace H := H I3 eI3
  refine wp_iconst (z := 0) (v := 0) (by decide +kernel) (by decide) ?_
  refine wp_istore (i := 4) (lv' := [(4, .int 0), (3, .int 0), (2, .int 0), (0, .ref h), (1, .int x1)]) (by decide +kernel) (by decide) rfl ?_
  exact wp_sub [3, 4, 1, 0] rfl H
set_option maxRecDepth 20000 in
theorem b5_feel_82 {X : XX} {G : GG} {I : Nat → Nat → Int32} {L : Nat → Nat → Int64} {h : Nat} {x1 : Int32} {x3 : Int32} {x4 : Int32} {Q : Int32 → (Nat → Nat → Int32) → (Nat → Nat → Int64) → Prop} (ok : OK5 G h) (H : ∀ r1, r1 = G.2.1 h 0 → ∃ q2, r1 = some q2 ∧ (OK7 G q2 ∧ (if (I q2 7) ≤ x4 then (Q x3 I L) else (∀ r6, r6 = G.2.1 h 0 → ∃ q7, r6 = some q7 ∧ (OK7 G q7 ∧ (vp_in x4 6 ∧ (if ((I h 1) + 1) < (I (q7 + 4) (cl x4)) then (wpI X B5_feel 82 [(0, .ref h), (1, .int x1), (3, .int x3), (4, .int (x4 + 1))] [] G I L Q) else (vp_in x1 6 ∧ (wpI X B5_endsWith 0 [(0, .ref h), (1, .int (I (h + 13) (cl x1))), (2, .int x4)] [] G I L (fun r13 I11 L12 => if r13 = (0 : Int32) then (wpI X B5_feel 82 [(0, .ref h), (1, .int x1), (3, .int x3), (4, .int (x4 + 1))] [] G I11 L12 Q) else (vp_in x1 6 ∧ (vp_in x1 6 ∧ (∀ I15, I15 = up2 I11 (h + 12) (cl x1) ((I11 (h + 12) (cl x1)) ||| ((1 : Int32) <<< (x4 &&& 31))) → wpI X B5_feel 82 [(0, .ref h), (1, .int x1), (3, .int x3), (4, .int (x4 + 1))] [] G I15 L12 Q))))))))))))) : wpI X B5_feel 82 [(0, .ref h), (1, .int x1), (3, .int x3), (4, .int x4)] [] G I L Q := by
  refine wp_iload (i := 4) (x := x4) 3 (by decide +kernel) rfl ?_
  refine wp_aload_n (z := 0) (i := 0) (r := (some h)) 0 (by decide +kernel) rfl rfl ?_
  refine wp_getR (idx := 12) (by decide +kernel) fl5_12 rfl ok.1 ?_
  refine wp_topr (fun r1 er1 => ?_)
  replace H := H r1 er1
  obtain ⟨q2, e3, H⟩ := H
  subst e3
  show wp X B5_feel 88 [(0, .ref h), (1, .int x1), (3, .int x3), (4, .int x4)] [.ref q2, .int x4] (G, I, L) 0 0 _
  obtain ⟨f4, H⟩ := H
  refine wp_getI (idx := 148) (by decide +kernel) fl5_148 rfl f4.1 ?_
  refine wp_icmp_ge (off := 56) (tgt := 147) (by decide +kernel) (by decide) (fun c5 => ?_) (fun c5 => ?_)
  · rw [if_pos c5] at H
    refine wp_iload_n (z := 3) (i := 3) (x := x3) 2 (by decide +kernel) rfl rfl ?_
    exact wp_iret (by decide +kernel) rfl (Nat.zero_le _) (Nat.zero_le _) ⟨_, _, _, rfl, rfl, H⟩
  · rw [if_neg c5] at H
    refine wp_aload_n (z := 0) (i := 0) (r := (some h)) 0 (by decide +kernel) rfl rfl ?_
    refine wp_getR (idx := 12) (by decide +kernel) fl5_12 rfl ok.1 ?_
    refine wp_topr (fun r6 er6 => ?_)
    replace H := H r6 er6
    obtain ⟨q7, e8, H⟩ := H
    subst e8
    show wp X B5_feel 98 [(0, .ref h), (1, .int x1), (3, .int x3), (4, .int x4)] [.ref q7] (G, I, L) 0 0 _
    obtain ⟨f9, H⟩ := H
    refine wp_getS (idx := 151) (q := (q7 + 4)) (by decide +kernel) fl5_151 rfl f9.1 (okr7_8 f9) ?_
    refine wp_iload (i := 4) (x := x4) 3 (by decide +kernel) rfl ?_
    obtain ⟨o19, H⟩ := H
    refine wp_iald (j := (cl x4)) (by decide +kernel) (oks7_8 f9) o19 rfl ?_
    refine wp_aload_n (z := 0) (i := 0) (r := (some h)) 0 (by decide +kernel) rfl rfl ?_
    refine wp_getI (idx := 40) (by decide +kernel) fl5_40 rfl ok.1 ?_
    refine wp_iconst (z := 1) (v := 1) (by decide +kernel) (by decide) ?_
    refine wp_iadd (by decide +kernel) ?_
    refine wp_icmp_gt (off := 31) (tgt := 141) (by decide +kernel) (by decide) (fun c10 => ?_) (fun c10 => ?_)
    · rw [if_pos c10] at H
      refine wp_iinc (i := 4) (z := 1) (v := 1) (lv' := [(4, .int (x4 + 1)), (0, .ref h), (1, .int x1), (3, .int x3)]) 3 (by decide +kernel) rfl (by decide) (by decide) rfl ?_
      refine wp_goto (off := -62) (tgt := 82) (by decide +kernel) (by decide) ?_
      exact wp_sub [1, 2, 3, 0] rfl H
    · rw [if_neg c10] at H
      refine wp_aload_n (z := 0) (i := 0) (r := (some h)) 0 (by decide +kernel) rfl rfl ?_
      refine wp_aload_n (z := 0) (i := 0) (r := (some h)) 0 (by decide +kernel) rfl rfl ?_
      refine wp_getS (idx := 37) (q := (h + 13)) (by decide +kernel) fl5_37 rfl ok.1 (okr5_9 ok) ?_
      refine wp_iload_n (z := 1) (i := 1) (x := x1) 1 (by decide +kernel) rfl rfl ?_
      obtain ⟨o18, H⟩ := H
      refine wp_iald (j := (cl x1)) (by decide +kernel) (oks5_9 ok) o18 rfl ?_
      refine wp_iload (i := 4) (x := x4) 3 (by decide +kernel) rfl ?_
      refine wp_callV (idx := 154) (B2 := B5_endsWith) (As := [.int (I (h + 13) (cl x1)), .int x4]) (a := h) (st := []) (by decide +kernel) m5_endsWith ml5_154 k5_endsWith e5_endsWith ck5 ok.1 (⟨Nat.le_of_ble_eq_true rfl, Nat.le_of_ble_eq_true rfl⟩ : rOK B5_feel B5_endsWith) rfl (Nat.le_of_ble_eq_true rfl) (Nat.le_of_ble_eq_true rfl) ⟨Nat.le_of_ble_eq_true rfl, Nat.le_of_ble_eq_true rfl⟩ rfl (wp_mono H (fun v9 M9 hq9 => ?_))
      clear H
      obtain ⟨r13, I11, L12, rfl, rfl, H⟩ := hq9
      show wp X B5_feel 125 [(0, .ref h), (1, .int x1), (3, .int x3), (4, .int x4)] [.int r13] (G, I11, L12) 0 0 _
      refine wp_if_eq (off := 16) (tgt := 141) (by decide +kernel) (by decide) (fun c14 => ?_) (fun c14 => ?_)
      · rw [if_pos c14] at H
        refine wp_iinc (i := 4) (z := 1) (v := 1) (lv' := [(4, .int (x4 + 1)), (0, .ref h), (1, .int x1), (3, .int x3)]) 3 (by decide +kernel) rfl (by decide) (by decide) rfl ?_
        refine wp_goto (off := -62) (tgt := 82) (by decide +kernel) (by decide) ?_
        exact wp_sub [1, 2, 3, 0] rfl H
      · rw [if_neg c14] at H
        refine wp_aload_n (z := 0) (i := 0) (r := (some h)) 0 (by decide +kernel) rfl rfl ?_
        refine wp_getS (idx := 34) (q := (h + 12)) (by decide +kernel) fl5_34 rfl ok.1 (okr5_8 ok) ?_
        refine wp_iload_n (z := 1) (i := 1) (x := x1) 1 (by decide +kernel) rfl rfl ?_
        refine wp_dup2 (by decide +kernel) rfl rfl ?_
        obtain ⟨o17, H⟩ := H
        refine wp_iald (j := (cl x1)) (by decide +kernel) (oks5_8 ok) o17 rfl ?_
        refine wp_iconst (z := 1) (v := 1) (by decide +kernel) (by decide) ?_
        refine wp_iload (i := 4) (x := x4) 3 (by decide +kernel) rfl ?_
        refine wp_ishl (by decide +kernel) ?_
        refine wp_ior (by decide +kernel) ?_
        obtain ⟨o16, H⟩ := H
        refine wp_iast (j := (cl x1)) (by decide +kernel) (oks5_8 ok) o16 rfl ?_
        refine wp_memI (fun I15 eI15 => ?_)
        replace H := H I15 eI15
        refine wp_iinc (i := 4) (z := 1) (v := 1) (lv' := [(4, .int (x4 + 1)), (0, .ref h), (1, .int x1), (3, .int x3)]) 3 (by decide +kernel) rfl (by decide) (by decide) rfl ?_
        refine wp_goto (off := -62) (tgt := 82) (by decide +kernel) (by decide) ?_
        exact wp_sub [1, 2, 3, 0] rfl H
/-! DeafWall$Stand.beat(I)V -/
set_option maxRecDepth 20000 in
theorem b5_beat {X : XX} {G : GG} {I : Nat → Nat → Int32} {L : Nat → Nat → Int64} {h : Nat} {x1 : Int32} {Q : GG → (Nat → Nat → Int32) → (Nat → Nat → Int64) → Prop} (ok : OK5 G h) (H : ∀ r1, r1 = G.2.1 h 3 → ∀ r2, r2 = G.2.1 h 4 → ∀ G3, G3 = (G.1, up2 G.2.1 h 3 r2, G.2.2) → OK5 G3 h ∧ (∀ G5, G5 = (G3.1, up2 G3.2.1 h 4 r1, G3.2.2) → OK5 G5 h ∧ (∀ r7, r7 = G5.2.1 h 0 → ∀ r8, r8 = G5.2.1 h 4 → ∀ r9, r9 = G5.2.1 h 3 → ∃ q10, r7 = some q10 ∧ (∃ q12, r8 = some q12 ∧ (∃ q14, r9 = some q14 ∧ (wpV X B8_passOn 0 [(0, .ref q10), (1, .ref (h + 9)), (2, .ref q12), (3, .ref q14)] [] G5 I L (fun I16 L17 => ∀ r19, r19 = G5.2.1 h 3 → ∀ r20, r20 = G5.2.1 h 0 → ∃ q21, r20 = some q21 ∧ (OK7 G5 q21 ∧ (∀ r24, r24 = G5.2.1 h 3 → ∀ r25, r25 = G5.2.1 h 0 → ∃ q26, r25 = some q26 ∧ (OK7 G5 q26 ∧ (∃ q29, r24 = some q29 ∧ (∃ n32, G5.1 q29 = some (11, n32) ∧ (vp_in (I16 q26 2) n32 ∧ (∃ q33, r19 = some q33 ∧ (∃ n36, G5.1 q33 = some (11, n36) ∧ (vp_in (I16 q21 2) n36 ∧ (∀ I37, I37 = up2 I16 q33 (cl (I16 q21 2)) (mx (I16 q29 (cl (I16 q26 2))) x1) → wgV X B5_beat 70 [(0, .ref h), (1, .int x1), (3, .int 0), (4, .int 0)] [] G5 I37 L17 0 0 Q))))))))))))))))) : wgV X B5_beat 0 [(0, .ref h), (1, .int x1)] [] G I L 0 0 Q := by
  refine wp_aload_n (z := 0) (i := 0) (r := (some h)) 0 (by decide +kernel) rfl rfl ?_
  refine wp_getR (idx := 18) (by decide +kernel) fl5_18 rfl ok.1 ?_
  refine wp_topr (fun r1 er1 => ?_)
  replace H := H r1 er1
  refine wp_astore_n (z := 2) (i := 2) (lv' := [(2, va_rf r1), (0, .ref h), (1, .int x1)]) (r := r1) (by decide +kernel) rfl (by decide) (by cases r1 <;> rfl) ?_
  refine wp_aload_n (z := 0) (i := 0) (r := (some h)) 1 (by decide +kernel) rfl rfl ?_
  refine wp_aload_n (z := 0) (i := 0) (r := (some h)) 1 (by decide +kernel) rfl rfl ?_
  refine wp_getR (idx := 22) (by decide +kernel) fl5_22 rfl ok.1 ?_
  refine wp_topr (fun r2 er2 => ?_)
  replace H := H r2 er2
  refine wp_putR (idx := 18) (r := r2) (by decide +kernel) fl5_18 rfl rfl ok.1 ?_
  refine wp_memG (fun G3 eG3 => ?_)
  replace H := H G3 eG3
  refine wp_aload_n (z := 0) (i := 0) (r := (some h)) 1 (by decide +kernel) rfl rfl ?_
  refine wp_aload_n (z := 2) (i := 2) (r := r1) 0 (by decide +kernel) rfl rfl ?_
  obtain ⟨f4, H⟩ := H
  refine wp_putR (idx := 22) (r := r1) (by decide +kernel) fl5_22 rfl rfl f4.1 ?_
  refine wp_memG (fun G5 eG5 => ?_)
  replace H := H G5 eG5
  refine wp_aload_n (z := 0) (i := 0) (r := (some h)) 1 (by decide +kernel) rfl rfl ?_
  obtain ⟨f6, H⟩ := H
  refine wp_getR (idx := 12) (by decide +kernel) fl5_12 rfl f6.1 ?_
  refine wp_topr (fun r7 er7 => ?_)
  replace H := H r7 er7
  refine wp_aload_n (z := 0) (i := 0) (r := (some h)) 1 (by decide +kernel) rfl rfl ?_
  refine wp_getS (idx := 25) (q := (h + 9)) (by decide +kernel) fl5_25 rfl f6.1 (okr5_5 f6) ?_
  refine wp_aload_n (z := 0) (i := 0) (r := (some h)) 1 (by decide +kernel) rfl rfl ?_
  refine wp_getR (idx := 22) (by decide +kernel) fl5_22 rfl f6.1 ?_
  refine wp_topr (fun r8 er8 => ?_)
  replace H := H r8 er8
  refine wp_aload_n (z := 0) (i := 0) (r := (some h)) 1 (by decide +kernel) rfl rfl ?_
  refine wp_getR (idx := 18) (by decide +kernel) fl5_18 rfl f6.1 ?_
  refine wp_topr (fun r9 er9 => ?_)
  replace H := H r9 er9
  obtain ⟨q10, e11, H⟩ := H
  subst e11
  show wp X B5_beat 34 [(2, va_rf r1), (0, .ref h), (1, .int x1)] [va_rf r9, va_rf r8, .ref (h + 9), .ref q10] (G5, I, L) 0 0 _
  obtain ⟨q12, e13, H⟩ := H
  subst e13
  show wp X B5_beat 34 [(2, va_rf r1), (0, .ref h), (1, .int x1)] [va_rf r9, .ref q12, .ref (h + 9), .ref q10] (G5, I, L) 0 0 _
  obtain ⟨q14, e15, H⟩ := H
  subst e15
  show wp X B5_beat 34 [(2, va_rf r1), (0, .ref h), (1, .int x1)] [.ref q14, .ref q12, .ref (h + 9), .ref q10] (G5, I, L) 0 0 _
  refine wp_callSN (idx := 125) (B2 := B8_passOn) (As := [.ref q10, .ref (h + 9), .ref q12, .ref q14]) (st := []) (by decide +kernel) m8_passOn ml5_125 k8_passOn (⟨Nat.le_of_ble_eq_true rfl, Nat.le_of_ble_eq_true rfl⟩ : rOK B5_beat B8_passOn) rfl (Nat.le_of_ble_eq_true rfl) (Nat.le_of_ble_eq_true rfl) ⟨Nat.le_of_ble_eq_true rfl, Nat.le_of_ble_eq_true rfl⟩ rfl (wp_mono H (fun v9 M9 hq9 => ?_))
  clear H
  obtain ⟨I16, L17, rfl, rfl, H⟩ := hq9
  show wp X B5_beat 37 [(2, va_rf r1), (0, .ref h), (1, .int x1)] [] (G5, I16, L17) 0 0 _
  refine wp_aload_n (z := 0) (i := 0) (r := (some h)) 1 (by decide +kernel) rfl rfl ?_
  refine wp_getR (idx := 18) (by decide +kernel) fl5_18 rfl f6.1 ?_
  refine wp_topr (fun r19 er19 => ?_)
  replace H := H r19 er19
  refine wp_aload_n (z := 0) (i := 0) (r := (some h)) 1 (by decide +kernel) rfl rfl ?_
  refine wp_getR (idx := 12) (by decide +kernel) fl5_12 rfl f6.1 ?_
  refine wp_topr (fun r20 er20 => ?_)
  replace H := H r20 er20
  obtain ⟨q21, e22, H⟩ := H
  subst e22
  show wp X B5_beat 45 [(2, va_rf r1), (0, .ref h), (1, .int x1)] [.ref q21, va_rf r19] (G5, I16, L17) 0 0 _
  obtain ⟨f23, H⟩ := H
  refine wp_getI (idx := 129) (by decide +kernel) fl5_129 rfl f23.1 ?_
  refine wp_aload_n (z := 0) (i := 0) (r := (some h)) 1 (by decide +kernel) rfl rfl ?_
  refine wp_getR (idx := 18) (by decide +kernel) fl5_18 rfl f6.1 ?_
  refine wp_topr (fun r24 er24 => ?_)
  replace H := H r24 er24
  refine wp_aload_n (z := 0) (i := 0) (r := (some h)) 1 (by decide +kernel) rfl rfl ?_
  refine wp_getR (idx := 12) (by decide +kernel) fl5_12 rfl f6.1 ?_
  refine wp_topr (fun r25 er25 => ?_)
  replace H := H r25 er25
  obtain ⟨q26, e27, H⟩ := H
  subst e27
  show wp X B5_beat 56 [(2, va_rf r1), (0, .ref h), (1, .int x1)] [.ref q26, va_rf r24, .int (I16 q21 2), va_rf r19] (G5, I16, L17) 0 0 _
  obtain ⟨f28, H⟩ := H
  refine wp_getI (idx := 129) (by decide +kernel) fl5_129 rfl f28.1 ?_
  obtain ⟨q29, e30, H⟩ := H
  subst e30
  show wp X B5_beat 59 [(2, va_rf r1), (0, .ref h), (1, .int x1)] [.int (I16 q26 2), .ref q29, .int (I16 q21 2), va_rf r19] (G5, I16, L17) 0 0 _
  obtain ⟨n32, f31, H⟩ := H
  obtain ⟨o39, H⟩ := H
  refine wp_iald (j := (cl (I16 q26 2))) (by decide +kernel) f31 o39 rfl ?_
  refine wp_iload_n (z := 1) (i := 1) (x := x1) 2 (by decide +kernel) rfl rfl ?_
  refine wp_mmax (idx := 132) (by decide +kernel) (in_g (List.mem_of_getElem? (i := 750) (by decide +kernel)) rfl) (in_g (List.mem_of_getElem? (i := 646) (by decide +kernel)) rfl) (in_g (List.mem_of_getElem? (i := 127) (by decide +kernel)) rfl) (in_g (List.mem_of_getElem? (i := 647) (by decide +kernel)) (by decide +kernel)) (Nat.le_of_ble_eq_true rfl) (by cases r19 <;> exact Nat.le_of_ble_eq_true rfl) (Nat.le_of_ble_eq_true rfl) (Nat.le_of_ble_eq_true rfl) ?_
  obtain ⟨q33, e34, H⟩ := H
  subst e34
  show wp X B5_beat 64 [(2, va_rf r1), (0, .ref h), (1, .int x1)] [.int (mx (I16 q29 (cl (I16 q26 2))) x1), .int (I16 q21 2), .ref q33] (G5, I16, L17) 0 0 _
  obtain ⟨n36, f35, H⟩ := H
  obtain ⟨o38, H⟩ := H
  refine wp_iast (j := (cl (I16 q21 2))) (by decide +kernel) f35 o38 rfl ?_
  refine wp_memI (fun I37 eI37 => ?_)
  replace H := H I37 eI37
  refine wp_iconst (z := 0) (v := 0) (by decide +kernel) (by decide) ?_
  refine wp_istore_n (z := 3) (i := 3) (lv' := [(3, .int 0), (2, va_rf r1), (0, .ref h), (1, .int x1)]) (by decide +kernel) rfl (by decide) (by cases r1 <;> rfl) ?_
  refine wp_iconst (z := 0) (v := 0) (by decide +kernel) (by decide) ?_
  refine wp_istore (i := 4) (lv' := [(4, .int 0), (3, .int 0), (2, va_rf r1), (0, .ref h), (1, .int x1)]) (by decide +kernel) (by decide) (by cases r1 <;> rfl) ?_
  exact wp_sub [3, 4, 1, 0] rfl H
set_option maxRecDepth 20000 in
theorem b5_beat_70 {X : XX} {G : GG} {I : Nat → Nat → Int32} {L : Nat → Nat → Int64} {h : Nat} {x1 : Int32} {x3 : Int32} {x4 : Int32} {Q : GG → (Nat → Nat → Int32) → (Nat → Nat → Int64) → Prop} (ok : OK5 G h) (H : ∀ r1, r1 = G.2.1 h 0 → ∃ q2, r1 = some q2 ∧ (OK7 G q2 ∧ (if (I q2 4) ≤ x4 then (if x3 = (0 : Int32) then (∀ I9, I9 = up2 I h 14 ((I h 14) + 1) → wgV X B5_beat 130 [(0, .ref h), (1, .int x1), (3, .int x3)] [] G I9 L 0 0 Q) else (if (I h 11) = (-1) then (∀ I8, I8 = up2 I h 11 (I h 1) → wgV X B5_beat 130 [(0, .ref h), (1, .int x1), (3, .int x3)] [] G I8 L 0 0 Q) else (wgV X B5_beat 130 [(0, .ref h), (1, .int x1), (3, .int x3)] [] G I L 0 0 Q))) else (wpI X B5_feel 0 [(0, .ref h), (1, .int x4)] [] G I L (fun r12 I10 L11 => wgV X B5_beat 70 [(0, .ref h), (1, .int x1), (3, .int (x3 + r12)), (4, .int (x4 + 1))] [] G I10 L11 0 0 Q))))) : wgV X B5_beat 70 [(0, .ref h), (1, .int x1), (3, .int x3), (4, .int x4)] [] G I L 0 0 Q := by
  refine wp_iload (i := 4) (x := x4) 3 (by decide +kernel) rfl ?_
  refine wp_aload_n (z := 0) (i := 0) (r := (some h)) 0 (by decide +kernel) rfl rfl ?_
  refine wp_getR (idx := 12) (by decide +kernel) fl5_12 rfl ok.1 ?_
  refine wp_topr (fun r1 er1 => ?_)
  replace H := H r1 er1
  obtain ⟨q2, e3, H⟩ := H
  subst e3
  show wp X B5_beat 76 [(0, .ref h), (1, .int x1), (3, .int x3), (4, .int x4)] [.ref q2, .int x4] (G, I, L) 0 0 _
  obtain ⟨f4, H⟩ := H
  refine wp_getI (idx := 138) (by decide +kernel) fl5_138 rfl f4.1 ?_
  refine wp_icmp_ge (off := 18) (tgt := 97) (by decide +kernel) (by decide) (fun c5 => ?_) (fun c5 => ?_)
  · rw [if_pos c5] at H
    refine wp_iload_n (z := 3) (i := 3) (x := x3) 2 (by decide +kernel) rfl rfl ?_
    refine wp_if_ne (off := 16) (tgt := 114) (by decide +kernel) (by decide) (fun c6 => ?_) (fun c6 => ?_)
    · rw [if_neg c6] at H
      refine wp_aload_n (z := 0) (i := 0) (r := (some h)) 0 (by decide +kernel) rfl rfl ?_
      refine wp_getI (idx := 66) (by decide +kernel) fl5_66 rfl ok.1 ?_
      refine wp_iconst (z := -1) (v := (-1)) (by decide +kernel) (by decide) ?_
      refine wp_icmp_ne (off := 11) (tgt := 130) (by decide +kernel) (by decide) (fun c7 => ?_) (fun c7 => ?_)
      · rw [if_neg c7] at H
        exact wp_sub [0, 1, 2] rfl H
      · rw [if_pos c7] at H
        refine wp_aload_n (z := 0) (i := 0) (r := (some h)) 0 (by decide +kernel) rfl rfl ?_
        refine wp_aload_n (z := 0) (i := 0) (r := (some h)) 0 (by decide +kernel) rfl rfl ?_
        refine wp_getI (idx := 40) (by decide +kernel) fl5_40 rfl ok.1 ?_
        refine wp_putI (idx := 66) (by decide +kernel) fl5_66 rfl ok.1 ?_
        refine wp_memI (fun I8 eI8 => ?_)
        replace H := H I8 eI8
        exact wp_sub [0, 1, 2] rfl H
    · rw [if_pos c6] at H
      refine wp_aload_n (z := 0) (i := 0) (r := (some h)) 0 (by decide +kernel) rfl rfl ?_
      refine wp_dup (by decide +kernel) rfl ?_
      refine wp_getI (idx := 75) (by decide +kernel) fl5_75 rfl ok.1 ?_
      refine wp_iconst (z := 1) (v := 1) (by decide +kernel) (by decide) ?_
      refine wp_iadd (by decide +kernel) ?_
      refine wp_putI (idx := 75) (by decide +kernel) fl5_75 rfl ok.1 ?_
      refine wp_memI (fun I9 eI9 => ?_)
      replace H := H I9 eI9
      refine wp_goto (off := 19) (tgt := 130) (by decide +kernel) (by decide) ?_
      exact wp_sub [0, 1, 2] rfl H
  · rw [if_neg c5] at H
    refine wp_iload_n (z := 3) (i := 3) (x := x3) 2 (by decide +kernel) rfl rfl ?_
    refine wp_aload_n (z := 0) (i := 0) (r := (some h)) 0 (by decide +kernel) rfl rfl ?_
    refine wp_iload (i := 4) (x := x4) 3 (by decide +kernel) rfl ?_
    refine wp_callV (idx := 141) (B2 := B5_feel) (As := [.int x4]) (a := h) (st := [.int x3]) (by decide +kernel) m5_feel ml5_141 k5_feel e5_feel ck5 ok.1 (⟨Nat.le_of_ble_eq_true rfl, Nat.le_of_ble_eq_true rfl⟩ : rOK B5_beat B5_feel) rfl (Nat.le_of_ble_eq_true rfl) (Nat.le_of_ble_eq_true rfl) ⟨Nat.le_of_ble_eq_true rfl, Nat.le_of_ble_eq_true rfl⟩ rfl (wp_mono H (fun v9 M9 hq9 => ?_))
    clear H
    obtain ⟨r12, I10, L11, rfl, rfl, H⟩ := hq9
    show wp X B5_beat 89 [(0, .ref h), (1, .int x1), (3, .int x3), (4, .int x4)] [.int r12, .int x3] (G, I10, L11) 0 0 _
    refine wp_iadd (by decide +kernel) ?_
    refine wp_istore_n (z := 3) (i := 3) (lv' := [(3, .int (x3 + r12)), (0, .ref h), (1, .int x1), (4, .int x4)]) (by decide +kernel) rfl (by decide) rfl ?_
    refine wp_iinc (i := 4) (z := 1) (v := 1) (lv' := [(4, .int (x4 + 1)), (3, .int (x3 + r12)), (0, .ref h), (1, .int x1)]) 3 (by decide +kernel) rfl (by decide) (by decide) rfl ?_
    refine wp_goto (off := -24) (tgt := 70) (by decide +kernel) (by decide) ?_
    exact wp_sub [2, 3, 1, 0] rfl H
set_option maxRecDepth 20000 in
theorem b5_beat_130 {X : XX} {G : GG} {I : Nat → Nat → Int32} {L : Nat → Nat → Int64} {h : Nat} {x1 : Int32} {x3 : Int32} {Q : GG → (Nat → Nat → Int32) → (Nat → Nat → Int64) → Prop} (ok : OK5 G h) (H : if (I h 12) = (-1) then (∀ I2, I2 = up2 I h 12 (I h 1) → ∀ I3, I3 = up2 I2 h 10 x3 → ∀ I4, I4 = up2 I3 h 13 ((I3 h 13) + x1) → ∀ I5, I5 = up2 I4 h 1 ((I4 h 1) + 1) → Q G I5 L) else (if x3 ≤ (I h 10) then (∀ I7, I7 = up2 I h 13 ((I h 13) + x1) → ∀ I8, I8 = up2 I7 h 1 ((I7 h 1) + 1) → Q G I8 L) else (∀ I9, I9 = up2 I h 12 (I h 1) → ∀ I10, I10 = up2 I9 h 10 x3 → ∀ I11, I11 = up2 I10 h 13 ((I10 h 13) + x1) → ∀ I12, I12 = up2 I11 h 1 ((I11 h 1) + 1) → Q G I12 L))) : wgV X B5_beat 130 [(0, .ref h), (1, .int x1), (3, .int x3)] [] G I L 0 0 Q := by
  refine wp_aload_n (z := 0) (i := 0) (r := (some h)) 0 (by decide +kernel) rfl rfl ?_
  refine wp_getI (idx := 69) (by decide +kernel) fl5_69 rfl ok.1 ?_
  refine wp_iconst (z := -1) (v := (-1)) (by decide +kernel) (by decide) ?_
  refine wp_icmp_eq (off := 11) (tgt := 146) (by decide +kernel) (by decide) (fun c1 => ?_) (fun c1 => ?_)
  · rw [if_pos c1] at H
    refine wp_aload_n (z := 0) (i := 0) (r := (some h)) 0 (by decide +kernel) rfl rfl ?_
    refine wp_aload_n (z := 0) (i := 0) (r := (some h)) 0 (by decide +kernel) rfl rfl ?_
    refine wp_getI (idx := 40) (by decide +kernel) fl5_40 rfl ok.1 ?_
    refine wp_putI (idx := 69) (by decide +kernel) fl5_69 rfl ok.1 ?_
    refine wp_memI (fun I2 eI2 => ?_)
    replace H := H I2 eI2
    refine wp_aload_n (z := 0) (i := 0) (r := (some h)) 0 (by decide +kernel) rfl rfl ?_
    refine wp_iload_n (z := 3) (i := 3) (x := x3) 2 (by decide +kernel) rfl rfl ?_
    refine wp_putI (idx := 63) (by decide +kernel) fl5_63 rfl ok.1 ?_
    refine wp_memI (fun I3 eI3 => ?_)
    replace H := H I3 eI3
    refine wp_aload_n (z := 0) (i := 0) (r := (some h)) 0 (by decide +kernel) rfl rfl ?_
    refine wp_dup (by decide +kernel) rfl ?_
    refine wp_getI (idx := 72) (by decide +kernel) fl5_72 rfl ok.1 ?_
    refine wp_iload_n (z := 1) (i := 1) (x := x1) 1 (by decide +kernel) rfl rfl ?_
    refine wp_iadd (by decide +kernel) ?_
    refine wp_putI (idx := 72) (by decide +kernel) fl5_72 rfl ok.1 ?_
    refine wp_memI (fun I4 eI4 => ?_)
    replace H := H I4 eI4
    refine wp_aload_n (z := 0) (i := 0) (r := (some h)) 0 (by decide +kernel) rfl rfl ?_
    refine wp_dup (by decide +kernel) rfl ?_
    refine wp_getI (idx := 40) (by decide +kernel) fl5_40 rfl ok.1 ?_
    refine wp_iconst (z := 1) (v := 1) (by decide +kernel) (by decide) ?_
    refine wp_iadd (by decide +kernel) ?_
    refine wp_putI (idx := 40) (by decide +kernel) fl5_40 rfl ok.1 ?_
    refine wp_memI (fun I5 eI5 => ?_)
    replace H := H I5 eI5
    exact wp_vret (by decide +kernel) rfl (Nat.le_of_ble_eq_true rfl) (Nat.le_of_ble_eq_true rfl) ⟨rfl, H⟩
  · rw [if_neg c1] at H
    refine wp_iload_n (z := 3) (i := 3) (x := x3) 2 (by decide +kernel) rfl rfl ?_
    refine wp_aload_n (z := 0) (i := 0) (r := (some h)) 0 (by decide +kernel) rfl rfl ?_
    refine wp_getI (idx := 63) (by decide +kernel) fl5_63 rfl ok.1 ?_
    refine wp_icmp_le (off := 16) (tgt := 159) (by decide +kernel) (by decide) (fun c6 => ?_) (fun c6 => ?_)
    · rw [if_pos c6] at H
      refine wp_aload_n (z := 0) (i := 0) (r := (some h)) 0 (by decide +kernel) rfl rfl ?_
      refine wp_dup (by decide +kernel) rfl ?_
      refine wp_getI (idx := 72) (by decide +kernel) fl5_72 rfl ok.1 ?_
      refine wp_iload_n (z := 1) (i := 1) (x := x1) 1 (by decide +kernel) rfl rfl ?_
      refine wp_iadd (by decide +kernel) ?_
      refine wp_putI (idx := 72) (by decide +kernel) fl5_72 rfl ok.1 ?_
      refine wp_memI (fun I7 eI7 => ?_)
      replace H := H I7 eI7
      refine wp_aload_n (z := 0) (i := 0) (r := (some h)) 0 (by decide +kernel) rfl rfl ?_
      refine wp_dup (by decide +kernel) rfl ?_
      refine wp_getI (idx := 40) (by decide +kernel) fl5_40 rfl ok.1 ?_
      refine wp_iconst (z := 1) (v := 1) (by decide +kernel) (by decide) ?_
      refine wp_iadd (by decide +kernel) ?_
      refine wp_putI (idx := 40) (by decide +kernel) fl5_40 rfl ok.1 ?_
      refine wp_memI (fun I8 eI8 => ?_)
      replace H := H I8 eI8
      exact wp_vret (by decide +kernel) rfl (Nat.le_of_ble_eq_true rfl) (Nat.le_of_ble_eq_true rfl) ⟨rfl, H⟩
    · rw [if_neg c6] at H
      refine wp_aload_n (z := 0) (i := 0) (r := (some h)) 0 (by decide +kernel) rfl rfl ?_
      refine wp_aload_n (z := 0) (i := 0) (r := (some h)) 0 (by decide +kernel) rfl rfl ?_
      refine wp_getI (idx := 40) (by decide +kernel) fl5_40 rfl ok.1 ?_
      refine wp_putI (idx := 69) (by decide +kernel) fl5_69 rfl ok.1 ?_
      refine wp_memI (fun I9 eI9 => ?_)
      replace H := H I9 eI9
      refine wp_aload_n (z := 0) (i := 0) (r := (some h)) 0 (by decide +kernel) rfl rfl ?_
      refine wp_iload_n (z := 3) (i := 3) (x := x3) 2 (by decide +kernel) rfl rfl ?_
      refine wp_putI (idx := 63) (by decide +kernel) fl5_63 rfl ok.1 ?_
      refine wp_memI (fun I10 eI10 => ?_)
      replace H := H I10 eI10
      refine wp_aload_n (z := 0) (i := 0) (r := (some h)) 0 (by decide +kernel) rfl rfl ?_
      refine wp_dup (by decide +kernel) rfl ?_
      refine wp_getI (idx := 72) (by decide +kernel) fl5_72 rfl ok.1 ?_
      refine wp_iload_n (z := 1) (i := 1) (x := x1) 1 (by decide +kernel) rfl rfl ?_
      refine wp_iadd (by decide +kernel) ?_
      refine wp_putI (idx := 72) (by decide +kernel) fl5_72 rfl ok.1 ?_
      refine wp_memI (fun I11 eI11 => ?_)
      replace H := H I11 eI11
      refine wp_aload_n (z := 0) (i := 0) (r := (some h)) 0 (by decide +kernel) rfl rfl ?_
      refine wp_dup (by decide +kernel) rfl ?_
      refine wp_getI (idx := 40) (by decide +kernel) fl5_40 rfl ok.1 ?_
      refine wp_iconst (z := 1) (v := 1) (by decide +kernel) (by decide) ?_
      refine wp_iadd (by decide +kernel) ?_
      refine wp_putI (idx := 40) (by decide +kernel) fl5_40 rfl ok.1 ?_
      refine wp_memI (fun I12 eI12 => ?_)
      replace H := H I12 eI12
      exact wp_vret (by decide +kernel) rfl (Nat.le_of_ble_eq_true rfl) (Nat.le_of_ble_eq_true rfl) ⟨rfl, H⟩
/-! DeafWall$Stand.deaden(II)Z -/
set_option maxRecDepth 20000 in
theorem b5_deaden {X : XX} {G : GG} {I : Nat → Nat → Int32} {L : Nat → Nat → Int64} {h : Nat} {x1 : Int32} {x2 : Int32} {Q : Int32 → (Nat → Nat → Int32) → (Nat → Nat → Int64) → Prop} (ok : OK5 G h) (H : ∀ r1, r1 = G.2.1 h 0 → ∃ q2, r1 = some q2 ∧ (OK7 G q2 ∧ (if (v7_hasCell I q2 x1) = (0 : Int32) then (Q 0 I L) else (vp_in x1 32 ∧ (if ((I (h + 9) (cl x1)) + x2) < 1 then (Q 0 I L) else (vp_in x1 32 ∧ (if ((I (h + 9) (cl x1)) + x2) ≤ 9 then (vp_in x1 32 ∧ (vp_in x1 32 ∧ (∀ I8, I8 = up2 I (h + 9) (cl x1) ((I (h + 9) (cl x1)) + x2) → Q 1 I8 L))) else (Q 0 I L)))))))) : wpI X B5_deaden 0 [(0, .ref h), (1, .int x1), (2, .int x2)] [] G I L Q := by
  refine wp_aload_n (z := 0) (i := 0) (r := (some h)) 0 (by decide +kernel) rfl rfl ?_
  refine wp_getR (idx := 12) (by decide +kernel) fl5_12 rfl ok.1 ?_
  refine wp_topr (fun r1 er1 => ?_)
  replace H := H r1 er1
  refine wp_iload_n (z := 1) (i := 1) (x := x1) 1 (by decide +kernel) rfl rfl ?_
  obtain ⟨q2, e3, H⟩ := H
  subst e3
  show wp X B5_deaden 5 [(0, .ref h), (1, .int x1), (2, .int x2)] [.int x1, .ref q2] (G, I, L) 0 0 _
  obtain ⟨f4, H⟩ := H
  refine wp_callV (idx := 118) (B2 := B7_hasCell) (As := [.int x1]) (a := q2) (st := []) (by decide +kernel) m7_hasCell ml5_118 k7_hasCell e7_hasCell ck7 f4.1 (⟨Nat.le_of_ble_eq_true rfl, Nat.le_of_ble_eq_true rfl⟩ : rOK B5_deaden B7_hasCell) rfl (Nat.le_of_ble_eq_true rfl) (Nat.le_of_ble_eq_true rfl) ⟨Nat.le_of_ble_eq_true rfl, Nat.le_of_ble_eq_true rfl⟩ rfl (wp_mono (b7_hasCell (Q := (fun r I' L' => r = (v7_hasCell I q2 x1) ∧ I = I' ∧ L = L')) f4 ⟨rfl, rfl, rfl⟩) (fun v9 M9 hq9 => ?_))
  obtain ⟨_, _, _, rfl, rfl, rfl, rfl, rfl⟩ := hq9
  show wp X B5_deaden 8 [(0, .ref h), (1, .int x1), (2, .int x2)] [.int (v7_hasCell I q2 x1)] (G, I, L) 0 0 _
  refine wp_if_eq (off := 28) (tgt := 36) (by decide +kernel) (by decide) (fun c5 => ?_) (fun c5 => ?_)
  · rw [if_pos c5] at H
    refine wp_iconst (z := 0) (v := 0) (by decide +kernel) (by decide) ?_
    exact wp_zret (by decide +kernel) rfl (by decide) (Nat.zero_le _) (Nat.zero_le _) ⟨_, _, _, rfl, rfl, H⟩
  · rw [if_neg c5] at H
    refine wp_aload_n (z := 0) (i := 0) (r := (some h)) 0 (by decide +kernel) rfl rfl ?_
    refine wp_getS (idx := 25) (q := (h + 9)) (by decide +kernel) fl5_25 rfl ok.1 (okr5_5 ok) ?_
    refine wp_iload_n (z := 1) (i := 1) (x := x1) 1 (by decide +kernel) rfl rfl ?_
    obtain ⟨o12, H⟩ := H
    refine wp_iald (j := (cl x1)) (by decide +kernel) (oks5_5 ok) o12 rfl ?_
    refine wp_iload_n (z := 2) (i := 2) (x := x2) 2 (by decide +kernel) rfl rfl ?_
    refine wp_iadd (by decide +kernel) ?_
    refine wp_iconst (z := 1) (v := 1) (by decide +kernel) (by decide) ?_
    refine wp_icmp_lt (off := 16) (tgt := 36) (by decide +kernel) (by decide) (fun c6 => ?_) (fun c6 => ?_)
    · rw [if_pos c6] at H
      refine wp_iconst (z := 0) (v := 0) (by decide +kernel) (by decide) ?_
      exact wp_zret (by decide +kernel) rfl (by decide) (Nat.zero_le _) (Nat.zero_le _) ⟨_, _, _, rfl, rfl, H⟩
    · rw [if_neg c6] at H
      refine wp_aload_n (z := 0) (i := 0) (r := (some h)) 0 (by decide +kernel) rfl rfl ?_
      refine wp_getS (idx := 25) (q := (h + 9)) (by decide +kernel) fl5_25 rfl ok.1 (okr5_5 ok) ?_
      refine wp_iload_n (z := 1) (i := 1) (x := x1) 1 (by decide +kernel) rfl rfl ?_
      obtain ⟨o11, H⟩ := H
      refine wp_iald (j := (cl x1)) (by decide +kernel) (oks5_5 ok) o11 rfl ?_
      refine wp_iload_n (z := 2) (i := 2) (x := x2) 2 (by decide +kernel) rfl rfl ?_
      refine wp_iadd (by decide +kernel) ?_
      refine wp_bipush (z := 9) (v := 9) (by decide +kernel) (by decide) ?_
      refine wp_icmp_le (off := 5) (tgt := 38) (by decide +kernel) (by decide) (fun c7 => ?_) (fun c7 => ?_)
      · rw [if_pos c7] at H
        refine wp_aload_n (z := 0) (i := 0) (r := (some h)) 0 (by decide +kernel) rfl rfl ?_
        refine wp_getS (idx := 25) (q := (h + 9)) (by decide +kernel) fl5_25 rfl ok.1 (okr5_5 ok) ?_
        refine wp_iload_n (z := 1) (i := 1) (x := x1) 1 (by decide +kernel) rfl rfl ?_
        refine wp_dup2 (by decide +kernel) rfl rfl ?_
        obtain ⟨o10, H⟩ := H
        refine wp_iald (j := (cl x1)) (by decide +kernel) (oks5_5 ok) o10 rfl ?_
        refine wp_iload_n (z := 2) (i := 2) (x := x2) 2 (by decide +kernel) rfl rfl ?_
        refine wp_iadd (by decide +kernel) ?_
        obtain ⟨o9, H⟩ := H
        refine wp_iast (j := (cl x1)) (by decide +kernel) (oks5_5 ok) o9 rfl ?_
        refine wp_memI (fun I8 eI8 => ?_)
        replace H := H I8 eI8
        refine wp_iconst (z := 1) (v := 1) (by decide +kernel) (by decide) ?_
        exact wp_zret (by decide +kernel) rfl (by decide) (Nat.zero_le _) (Nat.zero_le _) ⟨_, _, _, rfl, rfl, H⟩
      · rw [if_neg c7] at H
        refine wp_iconst (z := 0) (v := 0) (by decide +kernel) (by decide) ?_
        exact wp_zret (by decide +kernel) rfl (by decide) (Nat.zero_le _) (Nat.zero_le _) ⟨_, _, _, rfl, rfl, H⟩
/-! DeafWall$Stand.silence(IZ)Z -/
set_option maxRecDepth 20000 in
theorem b5_silence {X : XX} {G : GG} {I : Nat → Nat → Int32} {L : Nat → Nat → Int64} {h : Nat} {x1 : Int32} {x2 : Int32} {Q : Int32 → (Nat → Nat → Int32) → (Nat → Nat → Int64) → Prop} (ok : OK5 G h) (H : ∀ r1, r1 = G.2.1 h 0 → ∃ q2, r1 = some q2 ∧ (OK7 G q2 ∧ (if (v7_hasFeeler I q2 x1) = (0 : Int32) then (Q 0 I L) else (if x2 = (0 : Int32) then (∀ I7, I7 = up2 I h 2 ((I h 2) &&& (((1 : Int32) <<< (x1 &&& 31)) ^^^ (-1))) → Q 1 I7 L) else (∀ I8, I8 = up2 I h 2 ((I h 2) ||| ((1 : Int32) <<< (x1 &&& 31))) → Q 1 I8 L))))) : wpI X B5_silence 0 [(0, .ref h), (1, .int x1), (2, .int x2)] [] G I L Q := by
  refine wp_aload_n (z := 0) (i := 0) (r := (some h)) 0 (by decide +kernel) rfl rfl ?_
  refine wp_getR (idx := 12) (by decide +kernel) fl5_12 rfl ok.1 ?_
  refine wp_topr (fun r1 er1 => ?_)
  replace H := H r1 er1
  refine wp_iload_n (z := 1) (i := 1) (x := x1) 1 (by decide +kernel) rfl rfl ?_
  obtain ⟨q2, e3, H⟩ := H
  subst e3
  show wp X B5_silence 5 [(0, .ref h), (1, .int x1), (2, .int x2)] [.int x1, .ref q2] (G, I, L) 0 0 _
  obtain ⟨f4, H⟩ := H
  refine wp_callV (idx := 122) (B2 := B7_hasFeeler) (As := [.int x1]) (a := q2) (st := []) (by decide +kernel) m7_hasFeeler ml5_122 k7_hasFeeler e7_hasFeeler ck7 f4.1 (⟨Nat.le_of_ble_eq_true rfl, Nat.le_of_ble_eq_true rfl⟩ : rOK B5_silence B7_hasFeeler) rfl (Nat.le_of_ble_eq_true rfl) (Nat.le_of_ble_eq_true rfl) ⟨Nat.le_of_ble_eq_true rfl, Nat.le_of_ble_eq_true rfl⟩ rfl (wp_mono (b7_hasFeeler (Q := (fun r I' L' => r = (v7_hasFeeler I q2 x1) ∧ I = I' ∧ L = L')) f4 ⟨rfl, rfl, rfl⟩) (fun v9 M9 hq9 => ?_))
  obtain ⟨_, _, _, rfl, rfl, rfl, rfl, rfl⟩ := hq9
  show wp X B5_silence 8 [(0, .ref h), (1, .int x1), (2, .int x2)] [.int (v7_hasFeeler I q2 x1)] (G, I, L) 0 0 _
  refine wp_if_ne (off := 5) (tgt := 13) (by decide +kernel) (by decide) (fun c5 => ?_) (fun c5 => ?_)
  · rw [if_neg c5] at H
    refine wp_aload_n (z := 0) (i := 0) (r := (some h)) 0 (by decide +kernel) rfl rfl ?_
    refine wp_iload_n (z := 2) (i := 2) (x := x2) 2 (by decide +kernel) rfl rfl ?_
    refine wp_if_eq (off := 14) (tgt := 29) (by decide +kernel) (by decide) (fun c6 => ?_) (fun c6 => ?_)
    · rw [if_pos c6] at H
      refine wp_aload_n (z := 0) (i := 0) (r := (some h)) 0 (by decide +kernel) rfl rfl ?_
      refine wp_getI (idx := 44) (by decide +kernel) fl5_44 rfl ok.1 ?_
      refine wp_iconst (z := 1) (v := 1) (by decide +kernel) (by decide) ?_
      refine wp_iload_n (z := 1) (i := 1) (x := x1) 1 (by decide +kernel) rfl rfl ?_
      refine wp_ishl (by decide +kernel) ?_
      refine wp_iconst (z := -1) (v := (-1)) (by decide +kernel) (by decide) ?_
      refine wp_ixor (by decide +kernel) ?_
      refine wp_iand (by decide +kernel) ?_
      refine wp_putI (idx := 44) (by decide +kernel) fl5_44 rfl ok.1 ?_
      refine wp_memI (fun I7 eI7 => ?_)
      replace H := H I7 eI7
      refine wp_iconst (z := 1) (v := 1) (by decide +kernel) (by decide) ?_
      exact wp_zret (by decide +kernel) rfl (by decide) (Nat.zero_le _) (Nat.zero_le _) ⟨_, _, _, rfl, rfl, H⟩
    · rw [if_neg c6] at H
      refine wp_aload_n (z := 0) (i := 0) (r := (some h)) 0 (by decide +kernel) rfl rfl ?_
      refine wp_getI (idx := 44) (by decide +kernel) fl5_44 rfl ok.1 ?_
      refine wp_iconst (z := 1) (v := 1) (by decide +kernel) (by decide) ?_
      refine wp_iload_n (z := 1) (i := 1) (x := x1) 1 (by decide +kernel) rfl rfl ?_
      refine wp_ishl (by decide +kernel) ?_
      refine wp_ior (by decide +kernel) ?_
      refine wp_goto (off := 13) (tgt := 39) (by decide +kernel) (by decide) ?_
      refine wp_putI (idx := 44) (by decide +kernel) fl5_44 rfl ok.1 ?_
      refine wp_memI (fun I8 eI8 => ?_)
      replace H := H I8 eI8
      refine wp_iconst (z := 1) (v := 1) (by decide +kernel) (by decide) ?_
      exact wp_zret (by decide +kernel) rfl (by decide) (Nat.zero_le _) (Nat.zero_le _) ⟨_, _, _, rfl, rfl, H⟩
  · rw [if_pos c5] at H
    refine wp_iconst (z := 0) (v := 0) (by decide +kernel) (by decide) ?_
    exact wp_zret (by decide +kernel) rfl (by decide) (Nat.zero_le _) (Nat.zero_le _) ⟨_, _, _, rfl, rfl, H⟩
/-! DeafWall$Stand.stroll(II)Z -/
set_option maxRecDepth 20000 in
theorem b5_stroll {X : XX} {G : GG} {I : Nat → Nat → Int32} {L : Nat → Nat → Int64} {h : Nat} {x1 : Int32} {x2 : Int32} {Q : Int32 → (Nat → Nat → Int32) → (Nat → Nat → Int64) → Prop} (ok : OK5 G h) (H : ∀ r1, r1 = G.2.1 h 0 → ∃ q2, r1 = some q2 ∧ (OK7 G q2 ∧ (if (v7_hasFeeler I q2 x1) = (0 : Int32) then (Q 0 I L) else (∀ r6, r6 = G.2.1 h 0 → ∃ q7, r6 = some q7 ∧ (OK7 G q7 ∧ (if (v7_hasCell I q7 x2) = (0 : Int32) then (Q 0 I L) else (vp_in x1 6 ∧ (if (I (h + 10) (cl x1)) = x2 then (vp_in x1 6 ∧ (∀ I12, I12 = up2 I (h + 10) (cl x1) x2 → Q 1 I12 L)) else (∀ I14, I14 = up2 I h 15 ((I h 15) + 1) → vp_in x1 6 ∧ (∀ I15, I15 = up2 I14 (h + 10) (cl x1) x2 → Q 1 I15 L)))))))))) : wpI X B5_stroll 0 [(0, .ref h), (1, .int x1), (2, .int x2)] [] G I L Q := by
  refine wp_aload_n (z := 0) (i := 0) (r := (some h)) 0 (by decide +kernel) rfl rfl ?_
  refine wp_getR (idx := 12) (by decide +kernel) fl5_12 rfl ok.1 ?_
  refine wp_topr (fun r1 er1 => ?_)
  replace H := H r1 er1
  refine wp_iload_n (z := 1) (i := 1) (x := x1) 1 (by decide +kernel) rfl rfl ?_
  obtain ⟨q2, e3, H⟩ := H
  subst e3
  show wp X B5_stroll 5 [(0, .ref h), (1, .int x1), (2, .int x2)] [.int x1, .ref q2] (G, I, L) 0 0 _
  obtain ⟨f4, H⟩ := H
  refine wp_callV (idx := 122) (B2 := B7_hasFeeler) (As := [.int x1]) (a := q2) (st := []) (by decide +kernel) m7_hasFeeler ml5_122 k7_hasFeeler e7_hasFeeler ck7 f4.1 (⟨Nat.le_of_ble_eq_true rfl, Nat.le_of_ble_eq_true rfl⟩ : rOK B5_stroll B7_hasFeeler) rfl (Nat.le_of_ble_eq_true rfl) (Nat.le_of_ble_eq_true rfl) ⟨Nat.le_of_ble_eq_true rfl, Nat.le_of_ble_eq_true rfl⟩ rfl (wp_mono (b7_hasFeeler (Q := (fun r I' L' => r = (v7_hasFeeler I q2 x1) ∧ I = I' ∧ L = L')) f4 ⟨rfl, rfl, rfl⟩) (fun v9 M9 hq9 => ?_))
  obtain ⟨_, _, _, rfl, rfl, rfl, rfl, rfl⟩ := hq9
  show wp X B5_stroll 8 [(0, .ref h), (1, .int x1), (2, .int x2)] [.int (v7_hasFeeler I q2 x1)] (G, I, L) 0 0 _
  refine wp_if_eq (off := 14) (tgt := 22) (by decide +kernel) (by decide) (fun c5 => ?_) (fun c5 => ?_)
  · rw [if_pos c5] at H
    refine wp_iconst (z := 0) (v := 0) (by decide +kernel) (by decide) ?_
    exact wp_zret (by decide +kernel) rfl (by decide) (Nat.zero_le _) (Nat.zero_le _) ⟨_, _, _, rfl, rfl, H⟩
  · rw [if_neg c5] at H
    refine wp_aload_n (z := 0) (i := 0) (r := (some h)) 0 (by decide +kernel) rfl rfl ?_
    refine wp_getR (idx := 12) (by decide +kernel) fl5_12 rfl ok.1 ?_
    refine wp_topr (fun r6 er6 => ?_)
    replace H := H r6 er6
    refine wp_iload_n (z := 2) (i := 2) (x := x2) 2 (by decide +kernel) rfl rfl ?_
    obtain ⟨q7, e8, H⟩ := H
    subst e8
    show wp X B5_stroll 16 [(0, .ref h), (1, .int x1), (2, .int x2)] [.int x2, .ref q7] (G, I, L) 0 0 _
    obtain ⟨f9, H⟩ := H
    refine wp_callV (idx := 118) (B2 := B7_hasCell) (As := [.int x2]) (a := q7) (st := []) (by decide +kernel) m7_hasCell ml5_118 k7_hasCell e7_hasCell ck7 f9.1 (⟨Nat.le_of_ble_eq_true rfl, Nat.le_of_ble_eq_true rfl⟩ : rOK B5_stroll B7_hasCell) rfl (Nat.le_of_ble_eq_true rfl) (Nat.le_of_ble_eq_true rfl) ⟨Nat.le_of_ble_eq_true rfl, Nat.le_of_ble_eq_true rfl⟩ rfl (wp_mono (b7_hasCell (Q := (fun r I' L' => r = (v7_hasCell I q7 x2) ∧ I = I' ∧ L = L')) f9 ⟨rfl, rfl, rfl⟩) (fun v9 M9 hq9 => ?_))
    obtain ⟨_, _, _, rfl, rfl, rfl, rfl, rfl⟩ := hq9
    show wp X B5_stroll 19 [(0, .ref h), (1, .int x1), (2, .int x2)] [.int (v7_hasCell I q7 x2)] (G, I, L) 0 0 _
    refine wp_if_ne (off := 5) (tgt := 24) (by decide +kernel) (by decide) (fun c10 => ?_) (fun c10 => ?_)
    · rw [if_neg c10] at H
      refine wp_aload_n (z := 0) (i := 0) (r := (some h)) 0 (by decide +kernel) rfl rfl ?_
      refine wp_getS (idx := 28) (q := (h + 10)) (by decide +kernel) fl5_28 rfl ok.1 (okr5_6 ok) ?_
      refine wp_iload_n (z := 1) (i := 1) (x := x1) 1 (by decide +kernel) rfl rfl ?_
      obtain ⟨o17, H⟩ := H
      refine wp_iald (j := (cl x1)) (by decide +kernel) (oks5_6 ok) o17 rfl ?_
      refine wp_iload_n (z := 2) (i := 2) (x := x2) 2 (by decide +kernel) rfl rfl ?_
      refine wp_icmp_eq (off := 13) (tgt := 44) (by decide +kernel) (by decide) (fun c11 => ?_) (fun c11 => ?_)
      · rw [if_pos c11] at H
        refine wp_aload_n (z := 0) (i := 0) (r := (some h)) 0 (by decide +kernel) rfl rfl ?_
        refine wp_getS (idx := 28) (q := (h + 10)) (by decide +kernel) fl5_28 rfl ok.1 (okr5_6 ok) ?_
        refine wp_iload_n (z := 1) (i := 1) (x := x1) 1 (by decide +kernel) rfl rfl ?_
        refine wp_iload_n (z := 2) (i := 2) (x := x2) 2 (by decide +kernel) rfl rfl ?_
        obtain ⟨o13, H⟩ := H
        refine wp_iast (j := (cl x1)) (by decide +kernel) (oks5_6 ok) o13 rfl ?_
        refine wp_memI (fun I12 eI12 => ?_)
        replace H := H I12 eI12
        refine wp_iconst (z := 1) (v := 1) (by decide +kernel) (by decide) ?_
        exact wp_zret (by decide +kernel) rfl (by decide) (Nat.zero_le _) (Nat.zero_le _) ⟨_, _, _, rfl, rfl, H⟩
      · rw [if_neg c11] at H
        refine wp_aload_n (z := 0) (i := 0) (r := (some h)) 0 (by decide +kernel) rfl rfl ?_
        refine wp_dup (by decide +kernel) rfl ?_
        refine wp_getI (idx := 78) (by decide +kernel) fl5_78 rfl ok.1 ?_
        refine wp_iconst (z := 1) (v := 1) (by decide +kernel) (by decide) ?_
        refine wp_iadd (by decide +kernel) ?_
        refine wp_putI (idx := 78) (by decide +kernel) fl5_78 rfl ok.1 ?_
        refine wp_memI (fun I14 eI14 => ?_)
        replace H := H I14 eI14
        refine wp_aload_n (z := 0) (i := 0) (r := (some h)) 0 (by decide +kernel) rfl rfl ?_
        refine wp_getS (idx := 28) (q := (h + 10)) (by decide +kernel) fl5_28 rfl ok.1 (okr5_6 ok) ?_
        refine wp_iload_n (z := 1) (i := 1) (x := x1) 1 (by decide +kernel) rfl rfl ?_
        refine wp_iload_n (z := 2) (i := 2) (x := x2) 2 (by decide +kernel) rfl rfl ?_
        obtain ⟨o16, H⟩ := H
        refine wp_iast (j := (cl x1)) (by decide +kernel) (oks5_6 ok) o16 rfl ?_
        refine wp_memI (fun I15 eI15 => ?_)
        replace H := H I15 eI15
        refine wp_iconst (z := 1) (v := 1) (by decide +kernel) (by decide) ?_
        exact wp_zret (by decide +kernel) rfl (by decide) (Nat.zero_le _) (Nat.zero_le _) ⟨_, _, _, rfl, rfl, H⟩
    · rw [if_pos c10] at H
      refine wp_iconst (z := 0) (v := 0) (by decide +kernel) (by decide) ?_
      exact wp_zret (by decide +kernel) rfl (by decide) (Nat.zero_le _) (Nat.zero_le _) ⟨_, _, _, rfl, rfl, H⟩
/-! DeafWall$Stand.does(III)Z -/
set_option maxRecDepth 20000 in
theorem b5_does {X : XX} {G : GG} {I : Nat → Nat → Int32} {L : Nat → Nat → Int64} {h : Nat} {x1 : Int32} {x2 : Int32} {x3 : Int32} {Q : Int32 → GG → (Nat → Nat → Int32) → (Nat → Nat → Int64) → Prop} (ok : OK5 G h) (H : if x1 = 0 then (wgV X B5_beat 0 [(0, .ref h), (1, .int x2)] [] G I L 0 0 (fun G5 I2 L3 => Q 1 G5 I2 L3)) else (if x1 = 1 then (wpI X B5_deaden 0 [(0, .ref h), (1, .int x2), (2, .int 1)] [] G I L (fun r9 I7 L8 => (r9 = 0 ∨ r9 = 1) ∧ (Q r9 G I7 L8))) else (if x1 = 2 then (wpI X B5_deaden 0 [(0, .ref h), (1, .int x2), (2, .int (-1))] [] G I L (fun r14 I12 L13 => (r14 = 0 ∨ r14 = 1) ∧ (Q r14 G I12 L13))) else (if x1 = 3 then (if x1 = 3 then (wpI X B5_silence 0 [(0, .ref h), (1, .int x2), (2, .int 1)] [] G I L (fun r24 I22 L23 => (r24 = 0 ∨ r24 = 1) ∧ (Q r24 G I22 L23))) else (wpI X B5_silence 0 [(0, .ref h), (1, .int x2), (2, .int 0)] [] G I L (fun r20 I18 L19 => (r20 = 0 ∨ r20 = 1) ∧ (Q r20 G I18 L19)))) else (if x1 = 4 then (if x1 = 3 then (wpI X B5_silence 0 [(0, .ref h), (1, .int x2), (2, .int 1)] [] G I L (fun r34 I32 L33 => (r34 = 0 ∨ r34 = 1) ∧ (Q r34 G I32 L33))) else (wpI X B5_silence 0 [(0, .ref h), (1, .int x2), (2, .int 0)] [] G I L (fun r30 I28 L29 => (r30 = 0 ∨ r30 = 1) ∧ (Q r30 G I28 L29)))) else (if x1 = 5 then (wpI X B5_stroll 0 [(0, .ref h), (1, .int x2), (2, .int x3)] [] G I L (fun r39 I37 L38 => (r39 = 0 ∨ r39 = 1) ∧ (Q r39 G I37 L38))) else (Q 0 G I L))))))) : wgI X B5_does 0 [(0, .ref h), (1, .int x1), (2, .int x2), (3, .int x3)] [] G I L 0 0 Q := by
  refine wp_iload_n (z := 1) (i := 1) (x := x1) 1 (by decide +kernel) rfl rfl ?_
  by_cases c1 : x1 = 0
  · rw [if_pos c1] at H
    refine wp_tableIn (dflt := 83) (lo := 0) (hi := 5) (offs := #[39, 46, 53, 60, 60, 76]) (len := 39) (off := 39) (tgt := 40) (by decide +kernel) (by rw [c1]; decide) (by rw [c1]; decide) (by rw [c1]; rfl) (by decide) ?_
    refine wp_aload_n (z := 0) (i := 0) (r := (some h)) 0 (by decide +kernel) rfl rfl ?_
    refine wp_iload_n (z := 2) (i := 2) (x := x2) 2 (by decide +kernel) rfl rfl ?_
    refine wp_callV (idx := 103) (B2 := B5_beat) (As := [.int x2]) (a := h) (st := []) (by decide +kernel) m5_beat ml5_103 k5_beat e5_beat ck5 ok.1 (⟨Nat.le_of_ble_eq_true rfl, Nat.le_of_ble_eq_true rfl⟩ : rOK B5_does B5_beat) rfl (Nat.le_of_ble_eq_true rfl) (Nat.le_of_ble_eq_true rfl) ⟨Nat.le_of_ble_eq_true rfl, Nat.le_of_ble_eq_true rfl⟩ rfl (wp_mono H (fun v9 M9 hq9 => ?_))
    clear H
    obtain ⟨G5, I2, L3⟩ := M9
    obtain ⟨rfl, H⟩ := hq9
    try dsimp only at H
    show wp X B5_does 45 [(0, .ref h), (1, .int x1), (2, .int x2), (3, .int x3)] [] (G5, I2, L3) 0 0 _
    refine wp_iconst (z := 1) (v := 1) (by decide +kernel) (by decide) ?_
    exact wp_zret (by decide +kernel) rfl (by decide) (Nat.le_of_ble_eq_true rfl) (Nat.le_of_ble_eq_true rfl) ⟨_, rfl, H⟩
  rw [if_neg c1] at H
  by_cases c6 : x1 = 1
  · rw [if_pos c6] at H
    refine wp_tableIn (dflt := 83) (lo := 0) (hi := 5) (offs := #[39, 46, 53, 60, 60, 76]) (len := 39) (off := 46) (tgt := 47) (by decide +kernel) (by rw [c6]; decide) (by rw [c6]; decide) (by rw [c6]; rfl) (by decide) ?_
    refine wp_aload_n (z := 0) (i := 0) (r := (some h)) 0 (by decide +kernel) rfl rfl ?_
    refine wp_iload_n (z := 2) (i := 2) (x := x2) 2 (by decide +kernel) rfl rfl ?_
    refine wp_iconst (z := 1) (v := 1) (by decide +kernel) (by decide) ?_
    refine wp_callV (idx := 107) (B2 := B5_deaden) (As := [.int x2, .int 1]) (a := h) (st := []) (by decide +kernel) m5_deaden ml5_107 k5_deaden e5_deaden ck5 ok.1 (⟨Nat.le_of_ble_eq_true rfl, Nat.le_of_ble_eq_true rfl⟩ : rOK B5_does B5_deaden) rfl (Nat.le_of_ble_eq_true rfl) (Nat.le_of_ble_eq_true rfl) ⟨Nat.le_of_ble_eq_true rfl, Nat.le_of_ble_eq_true rfl⟩ rfl (wp_mono H (fun v9 M9 hq9 => ?_))
    clear H
    obtain ⟨r9, I7, L8, rfl, rfl, H⟩ := hq9
    show wp X B5_does 53 [(0, .ref h), (1, .int x1), (2, .int x2), (3, .int x3)] [.int r9] (G, I7, L8) 0 0 _
    obtain ⟨o10, H⟩ := H
    exact wp_zret (by decide +kernel) rfl o10 (Nat.le_of_ble_eq_true rfl) (Nat.le_of_ble_eq_true rfl) ⟨_, rfl, H⟩
  rw [if_neg c6] at H
  by_cases c11 : x1 = 2
  · rw [if_pos c11] at H
    refine wp_tableIn (dflt := 83) (lo := 0) (hi := 5) (offs := #[39, 46, 53, 60, 60, 76]) (len := 39) (off := 53) (tgt := 54) (by decide +kernel) (by rw [c11]; decide) (by rw [c11]; decide) (by rw [c11]; rfl) (by decide) ?_
    refine wp_aload_n (z := 0) (i := 0) (r := (some h)) 0 (by decide +kernel) rfl rfl ?_
    refine wp_iload_n (z := 2) (i := 2) (x := x2) 2 (by decide +kernel) rfl rfl ?_
    refine wp_iconst (z := -1) (v := (-1)) (by decide +kernel) (by decide) ?_
    refine wp_callV (idx := 107) (B2 := B5_deaden) (As := [.int x2, .int (-1)]) (a := h) (st := []) (by decide +kernel) m5_deaden ml5_107 k5_deaden e5_deaden ck5 ok.1 (⟨Nat.le_of_ble_eq_true rfl, Nat.le_of_ble_eq_true rfl⟩ : rOK B5_does B5_deaden) rfl (Nat.le_of_ble_eq_true rfl) (Nat.le_of_ble_eq_true rfl) ⟨Nat.le_of_ble_eq_true rfl, Nat.le_of_ble_eq_true rfl⟩ rfl (wp_mono H (fun v9 M9 hq9 => ?_))
    clear H
    obtain ⟨r14, I12, L13, rfl, rfl, H⟩ := hq9
    show wp X B5_does 60 [(0, .ref h), (1, .int x1), (2, .int x2), (3, .int x3)] [.int r14] (G, I12, L13) 0 0 _
    obtain ⟨o15, H⟩ := H
    exact wp_zret (by decide +kernel) rfl o15 (Nat.le_of_ble_eq_true rfl) (Nat.le_of_ble_eq_true rfl) ⟨_, rfl, H⟩
  rw [if_neg c11] at H
  by_cases c16 : x1 = 3
  · rw [if_pos c16] at H
    refine wp_tableIn (dflt := 83) (lo := 0) (hi := 5) (offs := #[39, 46, 53, 60, 60, 76]) (len := 39) (off := 60) (tgt := 61) (by decide +kernel) (by rw [c16]; decide) (by rw [c16]; decide) (by rw [c16]; rfl) (by decide) ?_
    refine wp_aload_n (z := 0) (i := 0) (r := (some h)) 0 (by decide +kernel) rfl rfl ?_
    refine wp_iload_n (z := 2) (i := 2) (x := x2) 2 (by decide +kernel) rfl rfl ?_
    refine wp_iload_n (z := 1) (i := 1) (x := x1) 1 (by decide +kernel) rfl rfl ?_
    refine wp_iconst (z := 3) (v := 3) (by decide +kernel) (by decide) ?_
    refine wp_icmp_ne (off := 7) (tgt := 72) (by decide +kernel) (by decide) (fun c17 => ?_) (fun c17 => ?_)
    · rw [if_neg c17] at H
      refine wp_iconst (z := 0) (v := 0) (by decide +kernel) (by decide) ?_
      refine wp_callV (idx := 111) (B2 := B5_silence) (As := [.int x2, .int 0]) (a := h) (st := []) (by decide +kernel) m5_silence ml5_111 k5_silence e5_silence ck5 ok.1 (⟨Nat.le_of_ble_eq_true rfl, Nat.le_of_ble_eq_true rfl⟩ : rOK B5_does B5_silence) rfl (Nat.le_of_ble_eq_true rfl) (Nat.le_of_ble_eq_true rfl) ⟨Nat.le_of_ble_eq_true rfl, Nat.le_of_ble_eq_true rfl⟩ rfl (wp_mono H (fun v9 M9 hq9 => ?_))
      clear H
      obtain ⟨r20, I18, L19, rfl, rfl, H⟩ := hq9
      show wp X B5_does 76 [(0, .ref h), (1, .int x1), (2, .int x2), (3, .int x3)] [.int r20] (G, I18, L19) 0 0 _
      obtain ⟨o21, H⟩ := H
      exact wp_zret (by decide +kernel) rfl o21 (Nat.le_of_ble_eq_true rfl) (Nat.le_of_ble_eq_true rfl) ⟨_, rfl, H⟩
    · rw [if_pos c17] at H
      refine wp_iconst (z := 1) (v := 1) (by decide +kernel) (by decide) ?_
      refine wp_goto (off := 4) (tgt := 73) (by decide +kernel) (by decide) ?_
      refine wp_callV (idx := 111) (B2 := B5_silence) (As := [.int x2, .int 1]) (a := h) (st := []) (by decide +kernel) m5_silence ml5_111 k5_silence e5_silence ck5 ok.1 (⟨Nat.le_of_ble_eq_true rfl, Nat.le_of_ble_eq_true rfl⟩ : rOK B5_does B5_silence) rfl (Nat.le_of_ble_eq_true rfl) (Nat.le_of_ble_eq_true rfl) ⟨Nat.le_of_ble_eq_true rfl, Nat.le_of_ble_eq_true rfl⟩ rfl (wp_mono H (fun v9 M9 hq9 => ?_))
      clear H
      obtain ⟨r24, I22, L23, rfl, rfl, H⟩ := hq9
      show wp X B5_does 76 [(0, .ref h), (1, .int x1), (2, .int x2), (3, .int x3)] [.int r24] (G, I22, L23) 0 0 _
      obtain ⟨o25, H⟩ := H
      exact wp_zret (by decide +kernel) rfl o25 (Nat.le_of_ble_eq_true rfl) (Nat.le_of_ble_eq_true rfl) ⟨_, rfl, H⟩
  rw [if_neg c16] at H
  by_cases c26 : x1 = 4
  · rw [if_pos c26] at H
    refine wp_tableIn (dflt := 83) (lo := 0) (hi := 5) (offs := #[39, 46, 53, 60, 60, 76]) (len := 39) (off := 60) (tgt := 61) (by decide +kernel) (by rw [c26]; decide) (by rw [c26]; decide) (by rw [c26]; rfl) (by decide) ?_
    refine wp_aload_n (z := 0) (i := 0) (r := (some h)) 0 (by decide +kernel) rfl rfl ?_
    refine wp_iload_n (z := 2) (i := 2) (x := x2) 2 (by decide +kernel) rfl rfl ?_
    refine wp_iload_n (z := 1) (i := 1) (x := x1) 1 (by decide +kernel) rfl rfl ?_
    refine wp_iconst (z := 3) (v := 3) (by decide +kernel) (by decide) ?_
    refine wp_icmp_ne (off := 7) (tgt := 72) (by decide +kernel) (by decide) (fun c27 => ?_) (fun c27 => ?_)
    · rw [if_neg c27] at H
      refine wp_iconst (z := 0) (v := 0) (by decide +kernel) (by decide) ?_
      refine wp_callV (idx := 111) (B2 := B5_silence) (As := [.int x2, .int 0]) (a := h) (st := []) (by decide +kernel) m5_silence ml5_111 k5_silence e5_silence ck5 ok.1 (⟨Nat.le_of_ble_eq_true rfl, Nat.le_of_ble_eq_true rfl⟩ : rOK B5_does B5_silence) rfl (Nat.le_of_ble_eq_true rfl) (Nat.le_of_ble_eq_true rfl) ⟨Nat.le_of_ble_eq_true rfl, Nat.le_of_ble_eq_true rfl⟩ rfl (wp_mono H (fun v9 M9 hq9 => ?_))
      clear H
      obtain ⟨r30, I28, L29, rfl, rfl, H⟩ := hq9
      show wp X B5_does 76 [(0, .ref h), (1, .int x1), (2, .int x2), (3, .int x3)] [.int r30] (G, I28, L29) 0 0 _
      obtain ⟨o31, H⟩ := H
      exact wp_zret (by decide +kernel) rfl o31 (Nat.le_of_ble_eq_true rfl) (Nat.le_of_ble_eq_true rfl) ⟨_, rfl, H⟩
    · rw [if_pos c27] at H
      refine wp_iconst (z := 1) (v := 1) (by decide +kernel) (by decide) ?_
      refine wp_goto (off := 4) (tgt := 73) (by decide +kernel) (by decide) ?_
      refine wp_callV (idx := 111) (B2 := B5_silence) (As := [.int x2, .int 1]) (a := h) (st := []) (by decide +kernel) m5_silence ml5_111 k5_silence e5_silence ck5 ok.1 (⟨Nat.le_of_ble_eq_true rfl, Nat.le_of_ble_eq_true rfl⟩ : rOK B5_does B5_silence) rfl (Nat.le_of_ble_eq_true rfl) (Nat.le_of_ble_eq_true rfl) ⟨Nat.le_of_ble_eq_true rfl, Nat.le_of_ble_eq_true rfl⟩ rfl (wp_mono H (fun v9 M9 hq9 => ?_))
      clear H
      obtain ⟨r34, I32, L33, rfl, rfl, H⟩ := hq9
      show wp X B5_does 76 [(0, .ref h), (1, .int x1), (2, .int x2), (3, .int x3)] [.int r34] (G, I32, L33) 0 0 _
      obtain ⟨o35, H⟩ := H
      exact wp_zret (by decide +kernel) rfl o35 (Nat.le_of_ble_eq_true rfl) (Nat.le_of_ble_eq_true rfl) ⟨_, rfl, H⟩
  rw [if_neg c26] at H
  by_cases c36 : x1 = 5
  · rw [if_pos c36] at H
    refine wp_tableIn (dflt := 83) (lo := 0) (hi := 5) (offs := #[39, 46, 53, 60, 60, 76]) (len := 39) (off := 76) (tgt := 77) (by decide +kernel) (by rw [c36]; decide) (by rw [c36]; decide) (by rw [c36]; rfl) (by decide) ?_
    refine wp_aload_n (z := 0) (i := 0) (r := (some h)) 0 (by decide +kernel) rfl rfl ?_
    refine wp_iload_n (z := 2) (i := 2) (x := x2) 2 (by decide +kernel) rfl rfl ?_
    refine wp_iload_n (z := 3) (i := 3) (x := x3) 3 (by decide +kernel) rfl rfl ?_
    refine wp_callV (idx := 115) (B2 := B5_stroll) (As := [.int x2, .int x3]) (a := h) (st := []) (by decide +kernel) m5_stroll ml5_115 k5_stroll e5_stroll ck5 ok.1 (⟨Nat.le_of_ble_eq_true rfl, Nat.le_of_ble_eq_true rfl⟩ : rOK B5_does B5_stroll) rfl (Nat.le_of_ble_eq_true rfl) (Nat.le_of_ble_eq_true rfl) ⟨Nat.le_of_ble_eq_true rfl, Nat.le_of_ble_eq_true rfl⟩ rfl (wp_mono H (fun v9 M9 hq9 => ?_))
    clear H
    obtain ⟨r39, I37, L38, rfl, rfl, H⟩ := hq9
    show wp X B5_does 83 [(0, .ref h), (1, .int x1), (2, .int x2), (3, .int x3)] [.int r39] (G, I37, L38) 0 0 _
    obtain ⟨o40, H⟩ := H
    exact wp_zret (by decide +kernel) rfl o40 (Nat.le_of_ble_eq_true rfl) (Nat.le_of_ble_eq_true rfl) ⟨_, rfl, H⟩
  rw [if_neg c36] at H
  have qc1 := sw_ne c1 (z := 0) (by decide)
  have qc6 := sw_ne c6 (z := 1) (by decide)
  have qc11 := sw_ne c11 (z := 2) (by decide)
  have qc16 := sw_ne c16 (z := 3) (by decide)
  have qc26 := sw_ne c26 (z := 4) (by decide)
  have qc36 := sw_ne c36 (z := 5) (by decide)
  refine wp_tableOut (dflt := 83) (lo := 0) (hi := 5) (offs := #[39, 46, 53, 60, 60, 76]) (len := 39) (tgt := 84) (by decide +kernel) (by omega) (by decide) ?_
  refine wp_iconst (z := 0) (v := 0) (by decide +kernel) (by decide) ?_
  exact wp_zret (by decide +kernel) rfl (by decide) (Nat.le_of_ble_eq_true rfl) (Nat.le_of_ble_eq_true rfl) ⟨_, rfl, H⟩
/-! DeafWall$Stand.live(LDeafWall$Wall;LDeafWall$Lines;I)I -/
set_option maxRecDepth 20000 in
theorem b5_live {X : XX} {G : GG} {I : Nat → Nat → Int32} {L : Nat → Nat → Int64} {h : Nat} {a1 : Nat} {a2 : Nat} {na2 : Nat} {x3 : Int32} {Q : Int32 → GG → (Nat → Nat → Int32) → (Nat → Nat → Int64) → Prop} (ok : OK5 G h) (ok1 : OK7 G a1) (ok2 : OK2 G a2 na2) (H : wgV X B5_begin 0 [(0, .ref h), (1, .ref a1)] [] G I L 0 0 (fun G4 I1 L2 => wgI X B5_live 8 [(0, .ref h), (2, .ref a2), (3, .int x3), (4, .int 0)] [] G4 I1 L2 0 0 Q)) : wgI X B5_live 0 [(0, .ref h), (1, .ref a1), (2, .ref a2), (3, .int x3)] [] G I L 0 0 Q := by
  refine wp_aload_n (z := 0) (i := 0) (r := (some h)) 0 (by decide +kernel) rfl rfl ?_
  refine wp_aload_n (z := 1) (i := 1) (r := (some a1)) 1 (by decide +kernel) rfl rfl ?_
  refine wp_callV (idx := 81) (B2 := B5_begin) (As := [.ref a1]) (a := h) (st := []) (by decide +kernel) m5_begin ml5_81 k5_begin e5_begin ck5 ok.1 (⟨Nat.le_of_ble_eq_true rfl, Nat.le_of_ble_eq_true rfl⟩ : rOK B5_live B5_begin) rfl (Nat.le_of_ble_eq_true rfl) (Nat.le_of_ble_eq_true rfl) ⟨Nat.le_of_ble_eq_true rfl, Nat.le_of_ble_eq_true rfl⟩ rfl (wp_mono H (fun v9 M9 hq9 => ?_))
  clear H
  obtain ⟨G4, I1, L2⟩ := M9
  obtain ⟨rfl, H⟩ := hq9
  try dsimp only at H
  show wp X B5_live 5 [(0, .ref h), (1, .ref a1), (2, .ref a2), (3, .int x3)] [] (G4, I1, L2) 0 0 _
  refine wp_iconst (z := 0) (v := 0) (by decide +kernel) (by decide) ?_
  refine wp_istore (i := 4) (lv' := [(4, .int 0), (0, .ref h), (1, .ref a1), (2, .ref a2), (3, .int x3)]) (by decide +kernel) (by decide) rfl ?_
  exact wp_sub [1, 3, 4, 0] rfl H
set_option maxRecDepth 20000 in
theorem b5_live_8 {X : XX} {G : GG} {I : Nat → Nat → Int32} {L : Nat → Nat → Int64} {h : Nat} {a2 : Nat} {na2 : Nat} {x3 : Int32} {x4 : Int32} {Q : Int32 → GG → (Nat → Nat → Int32) → (Nat → Nat → Int64) → Prop} (ok : OK5 G h) (ok2 : OK2 G a2 na2) (H : if x3 ≤ x4 then (Q x3 G I L) else (if (I a2 0) ≤ x4 then (Q x3 G I L) else (vp_in x4 na2 ∧ (vp_in x4 na2 ∧ (vp_in x4 na2 ∧ (wgI X B5_does 0 [(0, .ref h), (1, .int (I (a2 + 1) (cl x4))), (2, .int (I (a2 + 2) (cl x4))), (3, .int (I (a2 + 3) (cl x4)))] [] G I L 0 0 (fun r5 G6 I3 L4 => if r5 = (0 : Int32) then (Q x4 G6 I3 L4) else (wgI X B5_live 8 [(0, .ref h), (2, .ref a2), (3, .int x3), (4, .int (x4 + 1))] [] G6 I3 L4 0 0 Q)))))))) : wgI X B5_live 8 [(0, .ref h), (2, .ref a2), (3, .int x3), (4, .int x4)] [] G I L 0 0 Q := by
  refine wp_iload (i := 4) (x := x4) 3 (by decide +kernel) rfl ?_
  refine wp_iload_n (z := 3) (i := 3) (x := x3) 2 (by decide +kernel) rfl rfl ?_
  refine wp_icmp_ge (off := 49) (tgt := 60) (by decide +kernel) (by decide) (fun c1 => ?_) (fun c1 => ?_)
  · rw [if_pos c1] at H
    refine wp_iload_n (z := 3) (i := 3) (x := x3) 2 (by decide +kernel) rfl rfl ?_
    exact wp_iret (by decide +kernel) rfl (Nat.le_of_ble_eq_true rfl) (Nat.le_of_ble_eq_true rfl) ⟨_, rfl, H⟩
  · rw [if_neg c1] at H
    refine wp_iload (i := 4) (x := x4) 3 (by decide +kernel) rfl ?_
    refine wp_aload_n (z := 2) (i := 2) (r := (some a2)) 1 (by decide +kernel) rfl rfl ?_
    refine wp_getI (idx := 85) (by decide +kernel) fl5_85 rfl ok2.1 ?_
    refine wp_icmp_ge (off := 40) (tgt := 60) (by decide +kernel) (by decide) (fun c2 => ?_) (fun c2 => ?_)
    · rw [if_pos c2] at H
      refine wp_iload_n (z := 3) (i := 3) (x := x3) 2 (by decide +kernel) rfl rfl ?_
      exact wp_iret (by decide +kernel) rfl (Nat.le_of_ble_eq_true rfl) (Nat.le_of_ble_eq_true rfl) ⟨_, rfl, H⟩
    · rw [if_neg c2] at H
      refine wp_aload_n (z := 0) (i := 0) (r := (some h)) 0 (by decide +kernel) rfl rfl ?_
      refine wp_aload_n (z := 2) (i := 2) (r := (some a2)) 1 (by decide +kernel) rfl rfl ?_
      refine wp_getS (idx := 90) (q := (a2 + 1)) (by decide +kernel) fl5_90 rfl ok2.1 (okr2_1 ok2) ?_
      refine wp_iload (i := 4) (x := x4) 3 (by decide +kernel) rfl ?_
      obtain ⟨o10, H⟩ := H
      refine wp_iald (j := (cl x4)) (by decide +kernel) (oks2_1 ok2) o10 rfl ?_
      refine wp_aload_n (z := 2) (i := 2) (r := (some a2)) 1 (by decide +kernel) rfl rfl ?_
      refine wp_getS (idx := 93) (q := (a2 + 2)) (by decide +kernel) fl5_93 rfl ok2.1 (okr2_2 ok2) ?_
      refine wp_iload (i := 4) (x := x4) 3 (by decide +kernel) rfl ?_
      obtain ⟨o9, H⟩ := H
      refine wp_iald (j := (cl x4)) (by decide +kernel) (oks2_2 ok2) o9 rfl ?_
      refine wp_aload_n (z := 2) (i := 2) (r := (some a2)) 1 (by decide +kernel) rfl rfl ?_
      refine wp_getS (idx := 96) (q := (a2 + 3)) (by decide +kernel) fl5_96 rfl ok2.1 (okr2_3 ok2) ?_
      refine wp_iload (i := 4) (x := x4) 3 (by decide +kernel) rfl ?_
      obtain ⟨o8, H⟩ := H
      refine wp_iald (j := (cl x4)) (by decide +kernel) (oks2_3 ok2) o8 rfl ?_
      refine wp_callV (idx := 99) (B2 := B5_does) (As := [.int (I (a2 + 1) (cl x4)), .int (I (a2 + 2) (cl x4)), .int (I (a2 + 3) (cl x4))]) (a := h) (st := []) (by decide +kernel) m5_does ml5_99 k5_does e5_does ck5 ok.1 (⟨Nat.le_of_ble_eq_true rfl, Nat.le_of_ble_eq_true rfl⟩ : rOK B5_live B5_does) rfl (Nat.le_of_ble_eq_true rfl) (Nat.le_of_ble_eq_true rfl) ⟨Nat.le_of_ble_eq_true rfl, Nat.le_of_ble_eq_true rfl⟩ rfl (wp_mono H (fun v9 M9 hq9 => ?_))
      clear H
      obtain ⟨G6, I3, L4⟩ := M9
      obtain ⟨r5, rfl, H⟩ := hq9
      try dsimp only at H
      show wp X B5_live 48 [(0, .ref h), (2, .ref a2), (3, .int x3), (4, .int x4)] [.int r5] (G6, I3, L4) 0 0 _
      refine wp_if_ne (off := 6) (tgt := 54) (by decide +kernel) (by decide) (fun c7 => ?_) (fun c7 => ?_)
      · rw [if_neg c7] at H
        refine wp_iinc (i := 4) (z := 1) (v := 1) (lv' := [(4, .int (x4 + 1)), (0, .ref h), (2, .ref a2), (3, .int x3)]) 3 (by decide +kernel) rfl (by decide) (by decide) rfl ?_
        refine wp_goto (off := -49) (tgt := 8) (by decide +kernel) (by decide) ?_
        exact wp_sub [1, 2, 3, 0] rfl H
      · rw [if_pos c7] at H
        refine wp_iload (i := 4) (x := x4) 3 (by decide +kernel) rfl ?_
        exact wp_iret (by decide +kernel) rfl (Nat.le_of_ble_eq_true rfl) (Nat.le_of_ble_eq_true rfl) ⟨_, rfl, H⟩
/-! DeafWall.stop(II)I -/
set_option maxRecDepth 20000 in
theorem b8_stop {X : XX} {G : GG} {I : Nat → Nat → Int32} {L : Nat → Nat → Int64} {h : Nat} {x1 : Int32} {x2 : Int32} {Q : Int32 → GG → (Nat → Nat → Int32) → (Nat → Nat → Int64) → Prop} (ok : OK8 G h) (H : wpR X B8_wallAt 0 [(0, .ref h), (1, .int x1)] [] G I L (fun r3 I1 L2 => wpR X B8_linesAt 0 [(0, .ref h), (1, .int 1), (2, .int x2)] [] G I1 L2 (fun r6 I4 L5 => (r3 = none → Q (-1) G I4 L5) ∧ (∀ q8, r3 = some q8 → (r6 = none → Q (-1) G I4 L5) ∧ (∀ q10, r6 = some q10 → ∃ n12, OK2 G q10 n12 ∧ (wgI X B5_live 0 [(0, .ref (h + 10)), (1, .ref q8), (2, .ref q10), (3, .int (I4 q10 0))] [] G I4 L5 0 0 (fun r15 G16 I13 L14 => Q r15 G16 I13 L14))))))) : wgI X B8_stop 0 [(0, .ref h), (1, .int x1), (2, .int x2)] [] G I L 0 0 Q := by
  refine wp_aload_n (z := 0) (i := 0) (r := (some h)) 0 (by decide +kernel) rfl rfl ?_
  refine wp_iload_n (z := 1) (i := 1) (x := x1) 1 (by decide +kernel) rfl rfl ?_
  refine wp_callV (idx := 129) (B2 := B8_wallAt) (As := [.int x1]) (a := h) (st := []) (by decide +kernel) m8_wallAt ml8_129 k8_wallAt e8_wallAt ck8 ok.1 (⟨Nat.le_of_ble_eq_true rfl, Nat.le_of_ble_eq_true rfl⟩ : rOK B8_stop B8_wallAt) rfl (Nat.le_of_ble_eq_true rfl) (Nat.le_of_ble_eq_true rfl) ⟨Nat.le_of_ble_eq_true rfl, Nat.le_of_ble_eq_true rfl⟩ rfl (wp_mono H (fun v9 M9 hq9 => ?_))
  clear H
  obtain ⟨r3, I1, L2, rfl, rfl, H⟩ := hq9
  show wp X B8_stop 5 [(0, .ref h), (1, .int x1), (2, .int x2)] [va_rf r3] (G, I1, L2) 0 0 _
  refine wp_astore_n (z := 3) (i := 3) (lv' := [(3, va_rf r3), (0, .ref h), (1, .int x1), (2, .int x2)]) (r := r3) (by decide +kernel) rfl (by decide) (by cases r3 <;> rfl) ?_
  refine wp_aload_n (z := 0) (i := 0) (r := (some h)) 1 (by decide +kernel) rfl rfl ?_
  refine wp_iconst (z := 1) (v := 1) (by decide +kernel) (by decide) ?_
  refine wp_iload_n (z := 2) (i := 2) (x := x2) 3 (by decide +kernel) rfl rfl ?_
  refine wp_callV (idx := 175) (B2 := B8_linesAt) (As := [.int 1, .int x2]) (a := h) (st := []) (by decide +kernel) m8_linesAt ml8_175 k8_linesAt e8_linesAt ck8 ok.1 (⟨Nat.le_of_ble_eq_true rfl, Nat.le_of_ble_eq_true rfl⟩ : rOK B8_stop B8_linesAt) rfl (Nat.le_of_ble_eq_true rfl) (Nat.le_of_ble_eq_true rfl) ⟨Nat.le_of_ble_eq_true rfl, Nat.le_of_ble_eq_true rfl⟩ rfl (wp_mono H (fun v9 M9 hq9 => ?_))
  clear H
  obtain ⟨r6, I4, L5, rfl, rfl, H⟩ := hq9
  show wp X B8_stop 12 [(3, va_rf r3), (0, .ref h), (1, .int x1), (2, .int x2)] [va_rf r6] (G, I4, L5) 0 0 _
  refine wp_astore (i := 4) (lv' := [(4, va_rf r6), (3, va_rf r3), (0, .ref h), (1, .int x1), (2, .int x2)]) (r := r6) (by decide +kernel) (by decide) (by cases r6 <;> cases r3 <;> rfl) ?_
  refine wp_aload_n (z := 3) (i := 3) (r := r3) 1 (by decide +kernel) rfl rfl ?_
  refine wp_ifnull (off := 8) (tgt := 23) (r := r3) (by decide +kernel) (by decide) (fun c7 => ?_) (fun q8 c7 => ?_)
  · replace H := H.1 c7
    subst c7
    show wp X B8_stop 23 [(4, va_rf r6), (3, .null), (0, .ref h), (1, .int x1), (2, .int x2)] [] (G, I4, L5) 0 0 _
    refine wp_iconst (z := -1) (v := (-1)) (by decide +kernel) (by decide) ?_
    exact wp_iret (by decide +kernel) rfl (Nat.le_of_ble_eq_true rfl) (Nat.le_of_ble_eq_true rfl) ⟨_, rfl, H⟩
  · replace H := H.2 q8 c7
    subst c7
    show wp X B8_stop 18 [(4, va_rf r6), (3, .ref q8), (0, .ref h), (1, .int x1), (2, .int x2)] [] (G, I4, L5) 0 0 _
    refine wp_aload (i := 4) (r := r6) 0 (by decide +kernel) rfl ?_
    refine wp_ifnonnull (off := 5) (tgt := 25) (r := r6) (by decide +kernel) (by decide) (fun q10 c9 => ?_) (fun c9 => ?_)
    · replace H := H.2 q10 c9
      subst c9
      show wp X B8_stop 25 [(4, .ref q10), (3, .ref q8), (0, .ref h), (1, .int x1), (2, .int x2)] [] (G, I4, L5) 0 0 _
      refine wp_aload_n (z := 0) (i := 0) (r := (some h)) 2 (by decide +kernel) rfl rfl ?_
      refine wp_getS (idx := 30) (q := (h + 10)) (by decide +kernel) fl8_30 rfl ok.1 (okr8_3 ok) ?_
      refine wp_aload_n (z := 3) (i := 3) (r := (some q8)) 1 (by decide +kernel) rfl rfl ?_
      refine wp_aload (i := 4) (r := (some q10)) 0 (by decide +kernel) rfl ?_
      refine wp_aload (i := 4) (r := (some q10)) 0 (by decide +kernel) rfl ?_
      obtain ⟨n12, f11, H⟩ := H
      refine wp_getI (idx := 183) (by decide +kernel) fl8_183 rfl f11.1 ?_
      refine wp_callV (idx := 208) (B2 := B5_live) (As := [.ref q8, .ref q10, .int (I4 q10 0)]) (a := (h + 10)) (st := []) (by decide +kernel) m5_live ml8_208 k5_live e5_live ck5 (oko8_3 ok).1 (⟨Nat.le_of_ble_eq_true rfl, Nat.le_of_ble_eq_true rfl⟩ : rOK B8_stop B5_live) rfl (Nat.le_of_ble_eq_true rfl) (Nat.le_of_ble_eq_true rfl) ⟨Nat.le_of_ble_eq_true rfl, Nat.le_of_ble_eq_true rfl⟩ rfl (wp_mono H (fun v9 M9 hq9 => ?_))
      clear H
      obtain ⟨G16, I13, L14⟩ := M9
      obtain ⟨r15, rfl, H⟩ := hq9
      try dsimp only at H
      show wp X B8_stop 40 [(4, .ref q10), (3, .ref q8), (0, .ref h), (1, .int x1), (2, .int x2)] [.int r15] (G16, I13, L14) 0 0 _
      exact wp_iret (by decide +kernel) rfl (Nat.le_of_ble_eq_true rfl) (Nat.le_of_ble_eq_true rfl) ⟨_, rfl, H⟩
    · replace H := H.1 c9
      subst c9
      show wp X B8_stop 23 [(4, .null), (3, .ref q8), (0, .ref h), (1, .int x1), (2, .int x2)] [] (G, I4, L5) 0 0 _
      refine wp_iconst (z := -1) (v := (-1)) (by decide +kernel) (by decide) ?_
      exact wp_iret (by decide +kernel) rfl (Nat.le_of_ble_eq_true rfl) (Nat.le_of_ble_eq_true rfl) ⟨_, rfl, H⟩
/-! DeafWall$Stand.couples()I -/
set_option maxRecDepth 20000 in
theorem b5_couples {X : XX} {G : GG} {I : Nat → Nat → Int32} {L : Nat → Nat → Int64} {h : Nat} {Q : Int32 → (Nat → Nat → Int32) → (Nat → Nat → Int64) → Prop} (ok : OK5 G h) (H : wpI X B5_couples 4 [(0, .ref h), (1, .int 0), (2, .int 0)] [] G I L Q) : wpI X B5_couples 0 [(0, .ref h)] [] G I L Q := by
  refine wp_iconst (z := 0) (v := 0) (by decide +kernel) (by decide) ?_
  refine wp_istore_n (z := 1) (i := 1) (lv' := [(1, .int 0), (0, .ref h)]) (by decide +kernel) rfl (by decide) rfl ?_
  refine wp_iconst (z := 0) (v := 0) (by decide +kernel) (by decide) ?_
  refine wp_istore_n (z := 2) (i := 2) (lv' := [(2, .int 0), (1, .int 0), (0, .ref h)]) (by decide +kernel) rfl (by decide) rfl ?_
  exact wp_sub [2, 1, 0] rfl H
set_option maxRecDepth 20000 in
theorem b5_couples_4 {X : XX} {G : GG} {I : Nat → Nat → Int32} {L : Nat → Nat → Int64} {h : Nat} {x1 : Int32} {x2 : Int32} {Q : Int32 → (Nat → Nat → Int32) → (Nat → Nat → Int64) → Prop} (ok : OK5 G h) (H : ∀ r1, r1 = G.2.1 h 0 → ∃ q2, r1 = some q2 ∧ (OK7 G q2 ∧ (if (I q2 4) ≤ x2 then (Q x1 I L) else (vp_in x2 6 ∧ (∀ u6, u6 = (x1 + (v12_bitCount (I (h + 12) (cl x2)))) → wpI X B5_couples 4 [(0, .ref h), (1, .int u6), (2, .int (x2 + 1))] [] G I L Q))))) : wpI X B5_couples 4 [(0, .ref h), (1, .int x1), (2, .int x2)] [] G I L Q := by
  refine wp_iload_n (z := 2) (i := 2) (x := x2) 2 (by decide +kernel) rfl rfl ?_
  refine wp_aload_n (z := 0) (i := 0) (r := (some h)) 0 (by decide +kernel) rfl rfl ?_
  refine wp_getR (idx := 12) (by decide +kernel) fl5_12 rfl ok.1 ?_
  refine wp_topr (fun r1 er1 => ?_)
  replace H := H r1 er1
  obtain ⟨q2, e3, H⟩ := H
  subst e3
  show wp X B5_couples 9 [(0, .ref h), (1, .int x1), (2, .int x2)] [.ref q2, .int x2] (G, I, L) 0 0 _
  obtain ⟨f4, H⟩ := H
  refine wp_getI (idx := 138) (by decide +kernel) fl5_138 rfl f4.1 ?_
  refine wp_icmp_ge (off := 21) (tgt := 33) (by decide +kernel) (by decide) (fun c5 => ?_) (fun c5 => ?_)
  · rw [if_pos c5] at H
    refine wp_iload_n (z := 1) (i := 1) (x := x1) 1 (by decide +kernel) rfl rfl ?_
    exact wp_iret (by decide +kernel) rfl (Nat.zero_le _) (Nat.zero_le _) ⟨_, _, _, rfl, rfl, H⟩
  · rw [if_neg c5] at H
    refine wp_iload_n (z := 1) (i := 1) (x := x1) 1 (by decide +kernel) rfl rfl ?_
    refine wp_aload_n (z := 0) (i := 0) (r := (some h)) 0 (by decide +kernel) rfl rfl ?_
    refine wp_getS (idx := 34) (q := (h + 12)) (by decide +kernel) fl5_34 rfl ok.1 (okr5_8 ok) ?_
    refine wp_iload_n (z := 2) (i := 2) (x := x2) 2 (by decide +kernel) rfl rfl ?_
    obtain ⟨o8, H⟩ := H
    refine wp_iald (j := (cl x2)) (by decide +kernel) (oks5_8 ok) o8 rfl ?_
    refine wp_callS (idx := 165) (B2 := B12_bitCount) (As := [.int (I (h + 12) (cl x2))]) (st := [.int x1]) (by decide +kernel) m12_bitCount ml5_165 k12_bitCount (⟨Nat.le_of_ble_eq_true rfl, Nat.le_of_ble_eq_true rfl⟩ : rOK B5_couples B12_bitCount) rfl (Nat.le_of_ble_eq_true rfl) (Nat.le_of_ble_eq_true rfl) ⟨Nat.le_of_ble_eq_true rfl, Nat.le_of_ble_eq_true rfl⟩ rfl (wp_mono (b12_bitCount (Q := (fun r I' L' => r = (v12_bitCount (I (h + 12) (cl x2))) ∧ I = I' ∧ L = L'))  ⟨rfl, rfl, rfl⟩) (fun v9 M9 hq9 => ?_))
    obtain ⟨_, _, _, rfl, rfl, rfl, rfl, rfl⟩ := hq9
    show wp X B5_couples 25 [(0, .ref h), (1, .int x1), (2, .int x2)] [.int (v12_bitCount (I (h + 12) (cl x2))), .int x1] (G, I, L) 0 0 _
    refine wp_iadd (by decide +kernel) ?_
    refine wp_topi (fun u6 eu6 => ?_)
    replace H := H u6 eu6
    refine wp_istore_n (z := 1) (i := 1) (lv' := [(1, .int u6), (0, .ref h), (2, .int x2)]) (by decide +kernel) rfl (by decide) rfl ?_
    refine wp_iinc (i := 2) (z := 1) (v := 1) (lv' := [(2, .int (x2 + 1)), (1, .int u6), (0, .ref h)]) 2 (by decide +kernel) rfl (by decide) (by decide) rfl ?_
    refine wp_goto (off := -26) (tgt := 4) (by decide +kernel) (by decide) ?_
    exact wp_sub [2, 1, 0] rfl H
