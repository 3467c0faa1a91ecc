/-! DeafWallModel.wallLine()V -/
set_option maxRecDepth 20000 in
theorem b9_wallLine {X : XX} {G : GG} {I : Nat → Nat → Int32} {L : Nat → Nat → Int64} {h : Nat} {Q : (Nat → Nat → Int32) → (Nat → Nat → Int64) → Prop} (ok : OK9 G h) (H : wpI X B9_wordIn 0 [(0, .ref h), (1, .int 1), (2, .int 5)] [] G I L (fun r3 I1 L2 => if (I1 h 8) = (0 : Int32) then (wpV X B9_wallLine 24 [(0, .ref h), (1, .int (I h 4))] [.int r3] G I1 L2 Q) else (wpV X B9_wallLine 24 [(0, .ref h), (1, .int (I h 4))] [.int 0] G I1 L2 Q))) : wpV X B9_wallLine 0 [(0, .ref h)] [] G I L Q := by
  refine wp_aload_n (z := 0) (i := 0) (r := (some h)) 0 (by decide +kernel) rfl rfl ?_
  refine wp_getI (idx := 87) (by decide +kernel) fl9_87 rfl ok.1 ?_
  refine wp_istore_n (z := 1) (i := 1) (lv' := [(1, .int (I h 4)), (0, .ref h)]) (by decide +kernel) rfl (by decide) rfl ?_
  refine wp_aload_n (z := 0) (i := 0) (r := (some h)) 1 (by decide +kernel) rfl rfl ?_
  refine wp_iconst (z := 1) (v := 1) (by decide +kernel) (by decide) ?_
  refine wp_iconst (z := 5) (v := 5) (by decide +kernel) (by decide) ?_
  refine wp_callV (idx := 143) (B2 := B9_wordIn) (As := [.int 1, .int 5]) (a := h) (st := []) (by decide +kernel) m9_wordIn ml9_143 k9_wordIn e9_wordIn ck9 ok.1 (⟨Nat.le_of_ble_eq_true rfl, Nat.le_of_ble_eq_true rfl⟩ : rOK B9_wallLine B9_wordIn) rfl (Nat.le_of_ble_eq_true rfl) (Nat.le_of_ble_eq_true rfl) ⟨Nat.le_of_ble_eq_true rfl, Nat.le_of_ble_eq_true rfl⟩ rfl (wp_mono H (fun v9 M9 hq9 => ?_))
  clear H
  obtain ⟨r3, I1, L2, rfl, rfl, H⟩ := hq9
  show wp X B9_wallLine 11 [(1, .int (I h 4)), (0, .ref h)] [.int r3] (G, I1, L2) 0 0 _
  refine wp_istore_n (z := 2) (i := 2) (lv' := [(2, .int r3), (1, .int (I h 4)), (0, .ref h)]) (by decide +kernel) rfl (by decide) rfl ?_
  refine wp_aload_n (z := 0) (i := 0) (r := (some h)) 2 (by decide +kernel) rfl rfl ?_
  refine wp_getI (idx := 114) (by decide +kernel) fl9_114 rfl ok.1 ?_
  refine wp_if_eq (off := 7) (tgt := 23) (by decide +kernel) (by decide) (fun c4 => ?_) (fun c4 => ?_)
  · rw [if_pos c4] at H
    refine wp_iload_n (z := 2) (i := 2) (x := r3) 0 (by decide +kernel) rfl rfl ?_
    exact wp_sub [2, 1] rfl H
  · rw [if_neg c4] at H
    refine wp_iconst (z := 0) (v := 0) (by decide +kernel) (by decide) ?_
    refine wp_goto (off := 4) (tgt := 24) (by decide +kernel) (by decide) ?_
    exact wp_sub [2, 1] rfl H
set_option maxRecDepth 20000 in
theorem b9_wallLine_24 {X : XX} {G : GG} {I : Nat → Nat → Int32} {L : Nat → Nat → Int64} {h : Nat} {x1 : Int32} {z0 : Int32} {Q : (Nat → Nat → Int32) → (Nat → Nat → Int64) → Prop} (ok : OK9 G h) (H : if z0 = 1 then (wpI X B9_numbered 0 [(0, .ref h), (1, .int 1), (2, .int 8)] [] G I L (fun r4 I2 L3 => ∀ I5, I5 = up2 I2 (h + 3) 0 r4 → wpI X B9_numbered 0 [(0, .ref h), (1, .int 1), (2, .int 4)] [] G I5 L3 (fun r8 I6 L7 => ∀ I9, I9 = up2 I6 (h + 3) 1 r8 → wpV X B9_endsLine 0 [(0, .ref h)] [] G I9 L7 (fun I10 L11 => Q I10 L11)))) else (if z0 = 2 then (wpI X B9_cellTold 0 [(0, .ref h)] [] G I L (fun r16 I14 L15 => wpI X B9_numbered 0 [(0, .ref h), (1, .int 1), (2, .int 9)] [] G I14 L15 (fun r19 I17 L18 => vp_in (29 + r16) 121 ∧ (∀ I20, I20 = up2 I17 (h + 3) (cl (29 + r16)) r19 → wpV X B9_endsLine 0 [(0, .ref h)] [] G I20 L18 (fun I21 L22 => Q I21 L22))))) else (if z0 = 3 then (wpI X B9_cellTold 0 [(0, .ref h)] [] G I L (fun r28 I26 L27 => ∀ I29, I29 = up2 I26 (h + 3) 2 r28 → wpV X B9_endsLine 0 [(0, .ref h)] [] G I29 L27 (fun I30 L31 => Q I30 L31))) else (if z0 = 4 then (wpV X B9_feelerTold 0 [(0, .ref h), (1, .int x1)] [] G I L (fun I34 L35 => wpV X B9_endsLine 0 [(0, .ref h)] [] G I34 L35 (fun I37 L38 => Q I37 L38))) else (if z0 = 5 then (wpV X B9_taleTold 0 [(0, .ref h), (1, .int x1)] [] G I L (fun I41 L42 => wpV X B9_endsLine 0 [(0, .ref h)] [] G I41 L42 (fun I44 L45 => Q I44 L45))) else (wpV X B9_endsLine 0 [(0, .ref h)] [] G I L (fun I47 L48 => Q I47 L48))))))) : wpV X B9_wallLine 24 [(0, .ref h), (1, .int x1)] [.int z0] G I L Q := by
  by_cases c1 : z0 = 1
  · rw [if_pos c1] at H
    refine wp_tableIn (dflt := 117) (lo := 1) (hi := 5) (offs := #[36, 64, 88, 101, 109]) (len := 36) (off := 36) (tgt := 60) (by decide +kernel) (by rw [c1]; decide) (by rw [c1]; decide) (by rw [c1]; rfl) (by decide) ?_
    refine wp_aload_n (z := 0) (i := 0) (r := (some h)) 0 (by decide +kernel) rfl rfl ?_
    refine wp_getS (idx := 17) (q := (h + 3)) (by decide +kernel) fl9_17 rfl ok.1 (okr9_10 ok) ?_
    refine wp_iconst (z := 0) (v := 0) (by decide +kernel) (by decide) ?_
    refine wp_aload_n (z := 0) (i := 0) (r := (some h)) 0 (by decide +kernel) rfl rfl ?_
    refine wp_iconst (z := 1) (v := 1) (by decide +kernel) (by decide) ?_
    refine wp_bipush (z := 8) (v := 8) (by decide +kernel) (by decide) ?_
    refine wp_callV (idx := 132) (B2 := B9_numbered) (As := [.int 1, .int 8]) (a := h) (st := [.int 0, .ref (h + 3)]) (by decide +kernel) m9_numbered ml9_132 k9_numbered e9_numbered ck9 ok.1 (⟨Nat.le_of_ble_eq_true rfl, Nat.le_of_ble_eq_true rfl⟩ : rOK B9_wallLine B9_numbered) rfl (Nat.le_of_ble_eq_true rfl) (Nat.le_of_ble_eq_true rfl) ⟨Nat.le_of_ble_eq_true rfl, Nat.le_of_ble_eq_true rfl⟩ rfl (wp_mono H (fun v9 M9 hq9 => ?_))
    clear H
    obtain ⟨r4, I2, L3, rfl, rfl, H⟩ := hq9
    show wp X B9_wallLine 72 [(0, .ref h), (1, .int x1)] [.int r4, .int 0, .ref (h + 3)] (G, I2, L3) 0 0 _
    refine wp_iast (j := 0) (by decide +kernel) (oks9_10 ok) (vin_c (by decide)) (by decide) ?_
    refine wp_memI (fun I5 eI5 => ?_)
    replace H := H I5 eI5
    refine wp_aload_n (z := 0) (i := 0) (r := (some h)) 0 (by decide +kernel) rfl rfl ?_
    refine wp_getS (idx := 17) (q := (h + 3)) (by decide +kernel) fl9_17 rfl ok.1 (okr9_10 ok) ?_
    refine wp_iconst (z := 1) (v := 1) (by decide +kernel) (by decide) ?_
    refine wp_aload_n (z := 0) (i := 0) (r := (some h)) 0 (by decide +kernel) rfl rfl ?_
    refine wp_iconst (z := 1) (v := 1) (by decide +kernel) (by decide) ?_
    refine wp_iconst (z := 4) (v := 4) (by decide +kernel) (by decide) ?_
    refine wp_callV (idx := 132) (B2 := B9_numbered) (As := [.int 1, .int 4]) (a := h) (st := [.int 1, .ref (h + 3)]) (by decide +kernel) m9_numbered ml9_132 k9_numbered e9_numbered ck9 ok.1 (⟨Nat.le_of_ble_eq_true rfl, Nat.le_of_ble_eq_true rfl⟩ : rOK B9_wallLine B9_numbered) rfl (Nat.le_of_ble_eq_true rfl) (Nat.le_of_ble_eq_true rfl) ⟨Nat.le_of_ble_eq_true rfl, Nat.le_of_ble_eq_true rfl⟩ rfl (wp_mono H (fun v9 M9 hq9 => ?_))
    clear H
    obtain ⟨r8, I6, L7, rfl, rfl, H⟩ := hq9
    show wp X B9_wallLine 84 [(0, .ref h), (1, .int x1)] [.int r8, .int 1, .ref (h + 3)] (G, I6, L7) 0 0 _
    refine wp_iast (j := 1) (by decide +kernel) (oks9_10 ok) (vin_c (by decide)) (by decide) ?_
    refine wp_memI (fun I9 eI9 => ?_)
    replace H := H I9 eI9
    refine wp_goto (off := 56) (tgt := 141) (by decide +kernel) (by decide) ?_
    refine wp_aload_n (z := 0) (i := 0) (r := (some h)) 0 (by decide +kernel) rfl rfl ?_
    refine wp_callV (idx := 153) (B2 := B9_endsLine) (As := []) (a := h) (st := []) (by decide +kernel) m9_endsLine ml9_153 k9_endsLine e9_endsLine ck9 ok.1 (⟨Nat.le_of_ble_eq_true rfl, Nat.le_of_ble_eq_true rfl⟩ : rOK B9_wallLine B9_endsLine) rfl (Nat.le_of_ble_eq_true rfl) (Nat.le_of_ble_eq_true rfl) ⟨Nat.le_of_ble_eq_true rfl, Nat.le_of_ble_eq_true rfl⟩ rfl (wp_mono H (fun v9 M9 hq9 => ?_))
    clear H
    obtain ⟨I10, L11, rfl, rfl, H⟩ := hq9
    show wp X B9_wallLine 145 [(0, .ref h), (1, .int x1)] [] (G, I10, L11) 0 0 _
    exact wp_vret (by decide +kernel) rfl (Nat.zero_le _) (Nat.zero_le _) ⟨_, _, rfl, rfl, H⟩
  rw [if_neg c1] at H
  by_cases c13 : z0 = 2
  · rw [if_pos c13] at H
    refine wp_tableIn (dflt := 117) (lo := 1) (hi := 5) (offs := #[36, 64, 88, 101, 109]) (len := 36) (off := 64) (tgt := 88) (by decide +kernel) (by rw [c13]; decide) (by rw [c13]; decide) (by rw [c13]; rfl) (by decide) ?_
    refine wp_aload_n (z := 0) (i := 0) (r := (some h)) 0 (by decide +kernel) rfl rfl ?_
    refine wp_callV (idx := 139) (B2 := B9_cellTold) (As := []) (a := h) (st := []) (by decide +kernel) m9_cellTold ml9_139 k9_cellTold e9_cellTold ck9 ok.1 (⟨Nat.le_of_ble_eq_true rfl, Nat.le_of_ble_eq_true rfl⟩ : rOK B9_wallLine B9_cellTold) rfl (Nat.le_of_ble_eq_true rfl) (Nat.le_of_ble_eq_true rfl) ⟨Nat.le_of_ble_eq_true rfl, Nat.le_of_ble_eq_true rfl⟩ rfl (wp_mono H (fun v9 M9 hq9 => ?_))
    clear H
    obtain ⟨r16, I14, L15, rfl, rfl, H⟩ := hq9
    show wp X B9_wallLine 92 [(0, .ref h), (1, .int x1)] [.int r16] (G, I14, L15) 0 0 _
    refine wp_istore_n (z := 3) (i := 3) (lv' := [(3, .int r16), (0, .ref h), (1, .int x1)]) (by decide +kernel) rfl (by decide) rfl ?_
    refine wp_aload_n (z := 0) (i := 0) (r := (some h)) 1 (by decide +kernel) rfl rfl ?_
    refine wp_getS (idx := 17) (q := (h + 3)) (by decide +kernel) fl9_17 rfl ok.1 (okr9_10 ok) ?_
    refine wp_bipush (z := 29) (v := 29) (by decide +kernel) (by decide) ?_
    refine wp_iload_n (z := 3) (i := 3) (x := r16) 0 (by decide +kernel) rfl rfl ?_
    refine wp_iadd (by decide +kernel) ?_
    refine wp_aload_n (z := 0) (i := 0) (r := (some h)) 1 (by decide +kernel) rfl rfl ?_
    refine wp_iconst (z := 1) (v := 1) (by decide +kernel) (by decide) ?_
    refine wp_bipush (z := 9) (v := 9) (by decide +kernel) (by decide) ?_
    refine wp_callV (idx := 132) (B2 := B9_numbered) (As := [.int 1, .int 9]) (a := h) (st := [.int (29 + r16), .ref (h + 3)]) (by decide +kernel) m9_numbered ml9_132 k9_numbered e9_numbered ck9 ok.1 (⟨Nat.le_of_ble_eq_true rfl, Nat.le_of_ble_eq_true rfl⟩ : rOK B9_wallLine B9_numbered) rfl (Nat.le_of_ble_eq_true rfl) (Nat.le_of_ble_eq_true rfl) ⟨Nat.le_of_ble_eq_true rfl, Nat.le_of_ble_eq_true rfl⟩ rfl (wp_mono H (fun v9 M9 hq9 => ?_))
    clear H
    obtain ⟨r19, I17, L18, rfl, rfl, H⟩ := hq9
    show wp X B9_wallLine 108 [(3, .int r16), (0, .ref h), (1, .int x1)] [.int r19, .int (29 + r16), .ref (h + 3)] (G, I17, L18) 0 0 _
    obtain ⟨o24, H⟩ := H
    refine wp_iast (j := (cl (29 + r16))) (by decide +kernel) (oks9_10 ok) o24 rfl ?_
    refine wp_memI (fun I20 eI20 => ?_)
    replace H := H I20 eI20
    refine wp_goto (off := 32) (tgt := 141) (by decide +kernel) (by decide) ?_
    refine wp_aload_n (z := 0) (i := 0) (r := (some h)) 1 (by decide +kernel) rfl rfl ?_
    refine wp_callV (idx := 153) (B2 := B9_endsLine) (As := []) (a := h) (st := []) (by decide +kernel) m9_endsLine ml9_153 k9_endsLine e9_endsLine ck9 ok.1 (⟨Nat.le_of_ble_eq_true rfl, Nat.le_of_ble_eq_true rfl⟩ : rOK B9_wallLine B9_endsLine) rfl (Nat.le_of_ble_eq_true rfl) (Nat.le_of_ble_eq_true rfl) ⟨Nat.le_of_ble_eq_true rfl, Nat.le_of_ble_eq_true rfl⟩ rfl (wp_mono H (fun v9 M9 hq9 => ?_))
    clear H
    obtain ⟨I21, L22, rfl, rfl, H⟩ := hq9
    show wp X B9_wallLine 145 [(3, .int r16), (0, .ref h), (1, .int x1)] [] (G, I21, L22) 0 0 _
    exact wp_vret (by decide +kernel) rfl (Nat.zero_le _) (Nat.zero_le _) ⟨_, _, rfl, rfl, H⟩
  rw [if_neg c13] at H
  by_cases c25 : z0 = 3
  · rw [if_pos c25] at H
    refine wp_tableIn (dflt := 117) (lo := 1) (hi := 5) (offs := #[36, 64, 88, 101, 109]) (len := 36) (off := 88) (tgt := 112) (by decide +kernel) (by rw [c25]; decide) (by rw [c25]; decide) (by rw [c25]; rfl) (by decide) ?_
    refine wp_aload_n (z := 0) (i := 0) (r := (some h)) 0 (by decide +kernel) rfl rfl ?_
    refine wp_getS (idx := 17) (q := (h + 3)) (by decide +kernel) fl9_17 rfl ok.1 (okr9_10 ok) ?_
    refine wp_iconst (z := 2) (v := 2) (by decide +kernel) (by decide) ?_
    refine wp_aload_n (z := 0) (i := 0) (r := (some h)) 0 (by decide +kernel) rfl rfl ?_
    refine wp_callV (idx := 139) (B2 := B9_cellTold) (As := []) (a := h) (st := [.int 2, .ref (h + 3)]) (by decide +kernel) m9_cellTold ml9_139 k9_cellTold e9_cellTold ck9 ok.1 (⟨Nat.le_of_ble_eq_true rfl, Nat.le_of_ble_eq_true rfl⟩ : rOK B9_wallLine B9_cellTold) rfl (Nat.le_of_ble_eq_true rfl) (Nat.le_of_ble_eq_true rfl) ⟨Nat.le_of_ble_eq_true rfl, Nat.le_of_ble_eq_true rfl⟩ rfl (wp_mono H (fun v9 M9 hq9 => ?_))
    clear H
    obtain ⟨r28, I26, L27, rfl, rfl, H⟩ := hq9
    show wp X B9_wallLine 121 [(0, .ref h), (1, .int x1)] [.int r28, .int 2, .ref (h + 3)] (G, I26, L27) 0 0 _
    refine wp_iast (j := 2) (by decide +kernel) (oks9_10 ok) (vin_c (by decide)) (by decide) ?_
    refine wp_memI (fun I29 eI29 => ?_)
    replace H := H I29 eI29
    refine wp_goto (off := 19) (tgt := 141) (by decide +kernel) (by decide) ?_
    refine wp_aload_n (z := 0) (i := 0) (r := (some h)) 0 (by decide +kernel) rfl rfl ?_
    refine wp_callV (idx := 153) (B2 := B9_endsLine) (As := []) (a := h) (st := []) (by decide +kernel) m9_endsLine ml9_153 k9_endsLine e9_endsLine ck9 ok.1 (⟨Nat.le_of_ble_eq_true rfl, Nat.le_of_ble_eq_true rfl⟩ : rOK B9_wallLine B9_endsLine) rfl (Nat.le_of_ble_eq_true rfl) (Nat.le_of_ble_eq_true rfl) ⟨Nat.le_of_ble_eq_true rfl, Nat.le_of_ble_eq_true rfl⟩ rfl (wp_mono H (fun v9 M9 hq9 => ?_))
    clear H
    obtain ⟨I30, L31, rfl, rfl, H⟩ := hq9
    show wp X B9_wallLine 145 [(0, .ref h), (1, .int x1)] [] (G, I30, L31) 0 0 _
    exact wp_vret (by decide +kernel) rfl (Nat.zero_le _) (Nat.zero_le _) ⟨_, _, rfl, rfl, H⟩
  rw [if_neg c25] at H
  by_cases c33 : z0 = 4
  · rw [if_pos c33] at H
    refine wp_tableIn (dflt := 117) (lo := 1) (hi := 5) (offs := #[36, 64, 88, 101, 109]) (len := 36) (off := 101) (tgt := 125) (by decide +kernel) (by rw [c33]; decide) (by rw [c33]; decide) (by rw [c33]; rfl) (by decide) ?_
    refine wp_aload_n (z := 0) (i := 0) (r := (some h)) 0 (by decide +kernel) rfl rfl ?_
    refine wp_iload_n (z := 1) (i := 1) (x := x1) 1 (by decide +kernel) rfl rfl ?_
    refine wp_callV (idx := 146) (B2 := B9_feelerTold) (As := [.int x1]) (a := h) (st := []) (by decide +kernel) m9_feelerTold ml9_146 k9_feelerTold e9_feelerTold ck9 ok.1 (⟨Nat.le_of_ble_eq_true rfl, Nat.le_of_ble_eq_true rfl⟩ : rOK B9_wallLine B9_feelerTold) rfl (Nat.le_of_ble_eq_true rfl) (Nat.le_of_ble_eq_true rfl) ⟨Nat.le_of_ble_eq_true rfl, Nat.le_of_ble_eq_true rfl⟩ rfl (wp_mono H (fun v9 M9 hq9 => ?_))
    clear H
    obtain ⟨I34, L35, rfl, rfl, H⟩ := hq9
    show wp X B9_wallLine 130 [(0, .ref h), (1, .int x1)] [] (G, I34, L35) 0 0 _
    refine wp_goto (off := 11) (tgt := 141) (by decide +kernel) (by decide) ?_
    refine wp_aload_n (z := 0) (i := 0) (r := (some h)) 0 (by decide +kernel) rfl rfl ?_
    refine wp_callV (idx := 153) (B2 := B9_endsLine) (As := []) (a := h) (st := []) (by decide +kernel) m9_endsLine ml9_153 k9_endsLine e9_endsLine ck9 ok.1 (⟨Nat.le_of_ble_eq_true rfl, Nat.le_of_ble_eq_true rfl⟩ : rOK B9_wallLine B9_endsLine) rfl (Nat.le_of_ble_eq_true rfl) (Nat.le_of_ble_eq_true rfl) ⟨Nat.le_of_ble_eq_true rfl, Nat.le_of_ble_eq_true rfl⟩ rfl (wp_mono H (fun v9 M9 hq9 => ?_))
    clear H
    obtain ⟨I37, L38, rfl, rfl, H⟩ := hq9
    show wp X B9_wallLine 145 [(0, .ref h), (1, .int x1)] [] (G, I37, L38) 0 0 _
    exact wp_vret (by decide +kernel) rfl (Nat.zero_le _) (Nat.zero_le _) ⟨_, _, rfl, rfl, H⟩
  rw [if_neg c33] at H
  by_cases c40 : z0 = 5
  · rw [if_pos c40] at H
    refine wp_tableIn (dflt := 117) (lo := 1) (hi := 5) (offs := #[36, 64, 88, 101, 109]) (len := 36) (off := 109) (tgt := 133) (by decide +kernel) (by rw [c40]; decide) (by rw [c40]; decide) (by rw [c40]; rfl) (by decide) ?_
    refine wp_aload_n (z := 0) (i := 0) (r := (some h)) 0 (by decide +kernel) rfl rfl ?_
    refine wp_iload_n (z := 1) (i := 1) (x := x1) 1 (by decide +kernel) rfl rfl ?_
    refine wp_callV (idx := 150) (B2 := B9_taleTold) (As := [.int x1]) (a := h) (st := []) (by decide +kernel) m9_taleTold ml9_150 k9_taleTold e9_taleTold ck9 ok.1 (⟨Nat.le_of_ble_eq_true rfl, Nat.le_of_ble_eq_true rfl⟩ : rOK B9_wallLine B9_taleTold) rfl (Nat.le_of_ble_eq_true rfl) (Nat.le_of_ble_eq_true rfl) ⟨Nat.le_of_ble_eq_true rfl, Nat.le_of_ble_eq_true rfl⟩ rfl (wp_mono H (fun v9 M9 hq9 => ?_))
    clear H
    obtain ⟨I41, L42, rfl, rfl, H⟩ := hq9
    show wp X B9_wallLine 138 [(0, .ref h), (1, .int x1)] [] (G, I41, L42) 0 0 _
    refine wp_goto (off := 3) (tgt := 141) (by decide +kernel) (by decide) ?_
    refine wp_aload_n (z := 0) (i := 0) (r := (some h)) 0 (by decide +kernel) rfl rfl ?_
    refine wp_callV (idx := 153) (B2 := B9_endsLine) (As := []) (a := h) (st := []) (by decide +kernel) m9_endsLine ml9_153 k9_endsLine e9_endsLine ck9 ok.1 (⟨Nat.le_of_ble_eq_true rfl, Nat.le_of_ble_eq_true rfl⟩ : rOK B9_wallLine B9_endsLine) rfl (Nat.le_of_ble_eq_true rfl) (Nat.le_of_ble_eq_true rfl) ⟨Nat.le_of_ble_eq_true rfl, Nat.le_of_ble_eq_true rfl⟩ rfl (wp_mono H (fun v9 M9 hq9 => ?_))
    clear H
    obtain ⟨I44, L45, rfl, rfl, H⟩ := hq9
    show wp X B9_wallLine 145 [(0, .ref h), (1, .int x1)] [] (G, I44, L45) 0 0 _
    exact wp_vret (by decide +kernel) rfl (Nat.zero_le _) (Nat.zero_le _) ⟨_, _, rfl, rfl, H⟩
  rw [if_neg c40] at H
  have qc1 := sw_ne c1 (z := 1) (by decide)
  have qc13 := sw_ne c13 (z := 2) (by decide)
  have qc25 := sw_ne c25 (z := 3) (by decide)
  have qc33 := sw_ne c33 (z := 4) (by decide)
  have qc40 := sw_ne c40 (z := 5) (by decide)
  refine wp_tableOut (dflt := 117) (lo := 1) (hi := 5) (offs := #[36, 64, 88, 101, 109]) (len := 36) (tgt := 141) (by decide +kernel) (by omega) (by decide) ?_
  refine wp_aload_n (z := 0) (i := 0) (r := (some h)) 0 (by decide +kernel) rfl rfl ?_
  refine wp_callV (idx := 153) (B2 := B9_endsLine) (As := []) (a := h) (st := []) (by decide +kernel) m9_endsLine ml9_153 k9_endsLine e9_endsLine ck9 ok.1 (⟨Nat.le_of_ble_eq_true rfl, Nat.le_of_ble_eq_true rfl⟩ : rOK B9_wallLine B9_endsLine) rfl (Nat.le_of_ble_eq_true rfl) (Nat.le_of_ble_eq_true rfl) ⟨Nat.le_of_ble_eq_true rfl, Nat.le_of_ble_eq_true rfl⟩ rfl (wp_mono H (fun v9 M9 hq9 => ?_))
  clear H
  obtain ⟨I47, L48, rfl, rfl, H⟩ := hq9
  show wp X B9_wallLine 145 [(0, .ref h), (1, .int x1)] [] (G, I47, L48) 0 0 _
  exact wp_vret (by decide +kernel) rfl (Nat.zero_le _) (Nat.zero_le _) ⟨_, _, rfl, rfl, H⟩
/-! DeafWallModel.dayLine()V -/
set_option maxRecDepth 20000 in
theorem b9_dayLine {X : XX} {G : GG} {I : Nat → Nat → Int32} {L : Nat → Nat → Int64} {h : Nat} {Q : (Nat → Nat → Int32) → (Nat → Nat → Int64) → Prop} (ok : OK9 G h) (H : wpI X B9_wordIn 0 [(0, .ref h), (1, .int 6), (2, .int 11)] [] G I L (fun r3 I1 L2 => if (I1 h 8) = (0 : Int32) then (if (I1 (h + 3) 0) < 40 then (wpV X B9_dayLine 41 [(0, .ref h), (2, .int (r3 - 6))] [] G I1 L2 Q) else (wpV X B9_also 0 [(0, .ref h), (1, .int 3), (2, .int (I h 4))] [] G I1 L2 (fun I6 L7 => wpV X B9_dayLine 41 [(0, .ref h), (2, .int (r3 - 6))] [] G I6 L7 Q))) else (wpV X B9_dayLine 41 [(0, .ref h), (2, .int (r3 - 6))] [] G I1 L2 Q))) : wpV X B9_dayLine 0 [(0, .ref h)] [] G I L Q := by
  refine wp_aload_n (z := 0) (i := 0) (r := (some h)) 0 (by decide +kernel) rfl rfl ?_
  refine wp_getI (idx := 87) (by decide +kernel) fl9_87 rfl ok.1 ?_
  refine wp_istore_n (z := 1) (i := 1) (lv' := [(1, .int (I h 4)), (0, .ref h)]) (by decide +kernel) rfl (by decide) rfl ?_
  refine wp_aload_n (z := 0) (i := 0) (r := (some h)) 1 (by decide +kernel) rfl rfl ?_
  refine wp_bipush (z := 6) (v := 6) (by decide +kernel) (by decide) ?_
  refine wp_bipush (z := 11) (v := 11) (by decide +kernel) (by decide) ?_
  refine wp_callV (idx := 143) (B2 := B9_wordIn) (As := [.int 6, .int 11]) (a := h) (st := []) (by decide +kernel) m9_wordIn ml9_143 k9_wordIn e9_wordIn ck9 ok.1 (⟨Nat.le_of_ble_eq_true rfl, Nat.le_of_ble_eq_true rfl⟩ : rOK B9_dayLine B9_wordIn) rfl (Nat.le_of_ble_eq_true rfl) (Nat.le_of_ble_eq_true rfl) ⟨Nat.le_of_ble_eq_true rfl, Nat.le_of_ble_eq_true rfl⟩ rfl (wp_mono H (fun v9 M9 hq9 => ?_))
  clear H
  obtain ⟨r3, I1, L2, rfl, rfl, H⟩ := hq9
  show wp X B9_dayLine 13 [(1, .int (I h 4)), (0, .ref h)] [.int r3] (G, I1, L2) 0 0 _
  refine wp_bipush (z := 6) (v := 6) (by decide +kernel) (by decide) ?_
  refine wp_isub (by decide +kernel) ?_
  refine wp_istore_n (z := 2) (i := 2) (lv' := [(2, .int (r3 - 6)), (1, .int (I h 4)), (0, .ref h)]) (by decide +kernel) rfl (by decide) rfl ?_
  refine wp_aload_n (z := 0) (i := 0) (r := (some h)) 2 (by decide +kernel) rfl rfl ?_
  refine wp_getI (idx := 114) (by decide +kernel) fl9_114 rfl ok.1 ?_
  refine wp_if_ne (off := 20) (tgt := 41) (by decide +kernel) (by decide) (fun c4 => ?_) (fun c4 => ?_)
  · rw [if_neg c4] at H
    exact wp_sub [2, 0] rfl H
  · rw [if_pos c4] at H
    refine wp_aload_n (z := 0) (i := 0) (r := (some h)) 2 (by decide +kernel) rfl rfl ?_
    refine wp_getS (idx := 17) (q := (h + 3)) (by decide +kernel) fl9_17 rfl ok.1 (okr9_10 ok) ?_
    refine wp_iconst (z := 0) (v := 0) (by decide +kernel) (by decide) ?_
    refine wp_iald (j := 0) (by decide +kernel) (oks9_10 ok) (vin_c (by decide)) (by decide) ?_
    refine wp_bipush (z := 40) (v := 40) (by decide +kernel) (by decide) ?_
    refine wp_icmp_lt (off := 9) (tgt := 41) (by decide +kernel) (by decide) (fun c5 => ?_) (fun c5 => ?_)
    · rw [if_pos c5] at H
      exact wp_sub [2, 0] rfl H
    · rw [if_neg c5] at H
      refine wp_aload_n (z := 0) (i := 0) (r := (some h)) 2 (by decide +kernel) rfl rfl ?_
      refine wp_iconst (z := 3) (v := 3) (by decide +kernel) (by decide) ?_
      refine wp_iload_n (z := 1) (i := 1) (x := (I h 4)) 1 (by decide +kernel) rfl rfl ?_
      refine wp_callV (idx := 125) (B2 := B9_also) (As := [.int 3, .int (I h 4)]) (a := h) (st := []) (by decide +kernel) m9_also ml9_125 k9_also e9_also ck9 ok.1 (⟨Nat.le_of_ble_eq_true rfl, Nat.le_of_ble_eq_true rfl⟩ : rOK B9_dayLine B9_also) rfl (Nat.le_of_ble_eq_true rfl) (Nat.le_of_ble_eq_true rfl) ⟨Nat.le_of_ble_eq_true rfl, Nat.le_of_ble_eq_true rfl⟩ rfl (wp_mono H (fun v9 M9 hq9 => ?_))
      clear H
      obtain ⟨I6, L7, rfl, rfl, H⟩ := hq9
      show wp X B9_dayLine 41 [(2, .int (r3 - 6)), (1, .int (I h 4)), (0, .ref h)] [] (G, I6, L7) 0 0 _
      exact wp_sub [2, 0] rfl H
set_option maxRecDepth 20000 in
theorem b9_dayLine_41 {X : XX} {G : GG} {I : Nat → Nat → Int32} {L : Nat → Nat → Int64} {h : Nat} {x2 : Int32} {Q : (Nat → Nat → Int32) → (Nat → Nat → Int64) → Prop} (ok : OK9 G h) (H : if x2 = (0 : Int32) then (wpV X B9_dayLine 63 [(0, .ref h), (2, .int x2)] [.int 9, .int 0, .ref h] G I L Q) else (if 3 ≤ x2 then (wpV X B9_dayLine 63 [(0, .ref h), (2, .int x2)] [.int 5, .int 0, .ref h] G I L Q) else (wpV X B9_dayLine 63 [(0, .ref h), (2, .int x2)] [.int 31, .int 0, .ref h] G I L Q))) : wpV X B9_dayLine 41 [(0, .ref h), (2, .int x2)] [] G I L Q := by
  refine wp_aload_n (z := 0) (i := 0) (r := (some h)) 0 (by decide +kernel) rfl rfl ?_
  refine wp_iconst (z := 0) (v := 0) (by decide +kernel) (by decide) ?_
  refine wp_iload_n (z := 2) (i := 2) (x := x2) 1 (by decide +kernel) rfl rfl ?_
  refine wp_if_ne (off := 8) (tgt := 52) (by decide +kernel) (by decide) (fun c1 => ?_) (fun c1 => ?_)
  · rw [if_neg c1] at H
    refine wp_iload_n (z := 2) (i := 2) (x := x2) 1 (by decide +kernel) rfl rfl ?_
    refine wp_iconst (z := 3) (v := 3) (by decide +kernel) (by decide) ?_
    refine wp_icmp_ge (off := 8) (tgt := 62) (by decide +kernel) (by decide) (fun c2 => ?_) (fun c2 => ?_)
    · rw [if_pos c2] at H
      refine wp_iconst (z := 5) (v := 5) (by decide +kernel) (by decide) ?_
      exact wp_sub [0, 1] rfl H
    · rw [if_neg c2] at H
      refine wp_bipush (z := 31) (v := 31) (by decide +kernel) (by decide) ?_
      refine wp_goto (off := 4) (tgt := 63) (by decide +kernel) (by decide) ?_
      exact wp_sub [0, 1] rfl H
  · rw [if_pos c1] at H
    refine wp_bipush (z := 9) (v := 9) (by decide +kernel) (by decide) ?_
    refine wp_goto (off := 14) (tgt := 63) (by decide +kernel) (by decide) ?_
    exact wp_sub [0, 1] rfl H
set_option maxRecDepth 20000 in
theorem b9_dayLine_63 {X : XX} {G : GG} {I : Nat → Nat → Int32} {L : Nat → Nat → Int64} {h : Nat} {x2 : Int32} {z0 : Int32} {z1 : Int32} {a2 : Nat} {Q : (Nat → Nat → Int32) → (Nat → Nat → Int64) → Prop} (ok : OK9 G h) (ok2 : OK9 G a2) (H : wpI X B9_numbered 0 [(0, .ref a2), (1, .int z1), (2, .int z0)] [] G I L (fun r3 I1 L2 => if x2 = 5 then (wpI X B9_numbered 0 [(0, .ref h), (1, .int 0), (2, .int 31)] [] G I1 L2 (fun r22 I20 L21 => if 40 ≤ (I20 (h + 3) 0) then (wpV X B9_endsLine 0 [(0, .ref h)] [] G I20 L21 (fun I24 L25 => Q I24 L25)) else (∀ u27, u27 = (1 + (3 * (I20 (h + 3) 0))) → vp_in u27 121 ∧ (∀ I28, I28 = up2 I20 (h + 3) (cl u27) x2 → vp_in (u27 + 1) 121 ∧ (∀ I29, I29 = up2 I28 (h + 3) (cl (u27 + 1)) r3 → vp_in (u27 + 2) 121 ∧ (∀ I30, I30 = up2 I29 (h + 3) (cl (u27 + 2)) r22 → ∀ I31, I31 = up2 I30 (h + 3) 0 ((I30 (h + 3) 0) + 1) → wpV X B9_endsLine 0 [(0, .ref h)] [] G I31 L21 (fun I32 L33 => Q I32 L33))))))) else (if 40 ≤ (I1 (h + 3) 0) then (wpV X B9_endsLine 0 [(0, .ref h)] [] G I1 L2 (fun I6 L7 => Q I6 L7)) else (∀ u9, u9 = (1 + (3 * (I1 (h + 3) 0))) → vp_in u9 121 ∧ (∀ I10, I10 = up2 I1 (h + 3) (cl u9) x2 → vp_in (u9 + 1) 121 ∧ (∀ I11, I11 = up2 I10 (h + 3) (cl (u9 + 1)) r3 → vp_in (u9 + 2) 121 ∧ (∀ I12, I12 = up2 I11 (h + 3) (cl (u9 + 2)) (-1) → ∀ I13, I13 = up2 I12 (h + 3) 0 ((I12 (h + 3) 0) + 1) → wpV X B9_endsLine 0 [(0, .ref h)] [] G I13 L2 (fun I14 L15 => Q I14 L15)))))))) : wpV X B9_dayLine 63 [(0, .ref h), (2, .int x2)] [.int z0, .int z1, .ref a2] G I L Q := by
  refine wp_callV (idx := 132) (B2 := B9_numbered) (As := [.int z1, .int z0]) (a := a2) (st := []) (by decide +kernel) m9_numbered ml9_132 k9_numbered e9_numbered ck9 ok2.1 (⟨Nat.le_of_ble_eq_true rfl, Nat.le_of_ble_eq_true rfl⟩ : rOK B9_dayLine B9_numbered) rfl (Nat.le_of_ble_eq_true rfl) (Nat.le_of_ble_eq_true rfl) ⟨Nat.le_of_ble_eq_true rfl, Nat.le_of_ble_eq_true rfl⟩ rfl (wp_mono H (fun v9 M9 hq9 => ?_))
  clear H
  obtain ⟨r3, I1, L2, rfl, rfl, H⟩ := hq9
  show wp X B9_dayLine 66 [(0, .ref h), (2, .int x2)] [.int r3] (G, I1, L2) 0 0 _
  refine wp_istore_n (z := 3) (i := 3) (lv' := [(3, .int r3), (0, .ref h), (2, .int x2)]) (by decide +kernel) rfl (by decide) rfl ?_
  refine wp_iload_n (z := 2) (i := 2) (x := x2) 2 (by decide +kernel) rfl rfl ?_
  refine wp_iconst (z := 5) (v := 5) (by decide +kernel) (by decide) ?_
  refine wp_icmp_ne (off := 13) (tgt := 82) (by decide +kernel) (by decide) (fun c4 => ?_) (fun c4 => ?_)
  · rw [if_neg c4] at H
    refine wp_iconst (z := -1) (v := (-1)) (by decide +kernel) (by decide) ?_
    refine wp_istore (i := 4) (lv' := [(4, .int (-1)), (3, .int r3), (0, .ref h), (2, .int x2)]) (by decide +kernel) (by decide) rfl ?_
    refine wp_aload_n (z := 0) (i := 0) (r := (some h)) 2 (by decide +kernel) rfl rfl ?_
    refine wp_getS (idx := 17) (q := (h + 3)) (by decide +kernel) fl9_17 rfl ok.1 (okr9_10 ok) ?_
    refine wp_iconst (z := 0) (v := 0) (by decide +kernel) (by decide) ?_
    refine wp_iald (j := 0) (by decide +kernel) (oks9_10 ok) (vin_c (by decide)) (by decide) ?_
    refine wp_bipush (z := 40) (v := 40) (by decide +kernel) (by decide) ?_
    refine wp_icmp_ge (off := 54) (tgt := 147) (by decide +kernel) (by decide) (fun c5 => ?_) (fun c5 => ?_)
    · rw [if_pos c5] at H
      refine wp_aload_n (z := 0) (i := 0) (r := (some h)) 2 (by decide +kernel) rfl rfl ?_
      refine wp_callV (idx := 153) (B2 := B9_endsLine) (As := []) (a := h) (st := []) (by decide +kernel) m9_endsLine ml9_153 k9_endsLine e9_endsLine ck9 ok.1 (⟨Nat.le_of_ble_eq_true rfl, Nat.le_of_ble_eq_true rfl⟩ : rOK B9_dayLine B9_endsLine) rfl (Nat.le_of_ble_eq_true rfl) (Nat.le_of_ble_eq_true rfl) ⟨Nat.le_of_ble_eq_true rfl, Nat.le_of_ble_eq_true rfl⟩ rfl (wp_mono H (fun v9 M9 hq9 => ?_))
      clear H
      obtain ⟨I6, L7, rfl, rfl, H⟩ := hq9
      show wp X B9_dayLine 151 [(4, .int (-1)), (3, .int r3), (0, .ref h), (2, .int x2)] [] (G, I6, L7) 0 0 _
      exact wp_vret (by decide +kernel) rfl (Nat.zero_le _) (Nat.zero_le _) ⟨_, _, rfl, rfl, H⟩
    · rw [if_neg c5] at H
      refine wp_iconst (z := 1) (v := 1) (by decide +kernel) (by decide) ?_
      refine wp_iconst (z := 3) (v := 3) (by decide +kernel) (by decide) ?_
      refine wp_aload_n (z := 0) (i := 0) (r := (some h)) 2 (by decide +kernel) rfl rfl ?_
      refine wp_getS (idx := 17) (q := (h + 3)) (by decide +kernel) fl9_17 rfl ok.1 (okr9_10 ok) ?_
      refine wp_iconst (z := 0) (v := 0) (by decide +kernel) (by decide) ?_
      refine wp_iald (j := 0) (by decide +kernel) (oks9_10 ok) (vin_c (by decide)) (by decide) ?_
      refine wp_imul (by decide +kernel) ?_
      refine wp_iadd (by decide +kernel) ?_
      refine wp_topi (fun u9 eu9 => ?_)
      replace H := H u9 eu9
      refine wp_istore (i := 5) (lv' := [(5, .int u9), (4, .int (-1)), (3, .int r3), (0, .ref h), (2, .int x2)]) (by decide +kernel) (by decide) rfl ?_
      refine wp_aload_n (z := 0) (i := 0) (r := (some h)) 3 (by decide +kernel) rfl rfl ?_
      refine wp_getS (idx := 17) (q := (h + 3)) (by decide +kernel) fl9_17 rfl ok.1 (okr9_10 ok) ?_
      refine wp_iload (i := 5) (x := u9) 0 (by decide +kernel) rfl ?_
      refine wp_iload_n (z := 2) (i := 2) (x := x2) 4 (by decide +kernel) rfl rfl ?_
      obtain ⟨o19, H⟩ := H
      refine wp_iast (j := (cl u9)) (by decide +kernel) (oks9_10 ok) o19 rfl ?_
      refine wp_memI (fun I10 eI10 => ?_)
      replace H := H I10 eI10
      refine wp_aload_n (z := 0) (i := 0) (r := (some h)) 3 (by decide +kernel) rfl rfl ?_
      refine wp_getS (idx := 17) (q := (h + 3)) (by decide +kernel) fl9_17 rfl ok.1 (okr9_10 ok) ?_
      refine wp_iload (i := 5) (x := u9) 0 (by decide +kernel) rfl ?_
      refine wp_iconst (z := 1) (v := 1) (by decide +kernel) (by decide) ?_
      refine wp_iadd (by decide +kernel) ?_
      refine wp_iload_n (z := 3) (i := 3) (x := r3) 2 (by decide +kernel) rfl rfl ?_
      obtain ⟨o18, H⟩ := H
      refine wp_iast (j := (cl (u9 + 1))) (by decide +kernel) (oks9_10 ok) o18 rfl ?_
      refine wp_memI (fun I11 eI11 => ?_)
      replace H := H I11 eI11
      refine wp_aload_n (z := 0) (i := 0) (r := (some h)) 3 (by decide +kernel) rfl rfl ?_
      refine wp_getS (idx := 17) (q := (h + 3)) (by decide +kernel) fl9_17 rfl ok.1 (okr9_10 ok) ?_
      refine wp_iload (i := 5) (x := u9) 0 (by decide +kernel) rfl ?_
      refine wp_iconst (z := 2) (v := 2) (by decide +kernel) (by decide) ?_
      refine wp_iadd (by decide +kernel) ?_
      refine wp_iload (i := 4) (x := (-1)) 1 (by decide +kernel) rfl ?_
      obtain ⟨o17, H⟩ := H
      refine wp_iast (j := (cl (u9 + 2))) (by decide +kernel) (oks9_10 ok) o17 rfl ?_
      refine wp_memI (fun I12 eI12 => ?_)
      replace H := H I12 eI12
      refine wp_aload_n (z := 0) (i := 0) (r := (some h)) 3 (by decide +kernel) rfl rfl ?_
      refine wp_getS (idx := 17) (q := (h + 3)) (by decide +kernel) fl9_17 rfl ok.1 (okr9_10 ok) ?_
      refine wp_iconst (z := 0) (v := 0) (by decide +kernel) (by decide) ?_
      refine wp_dup2 (by decide +kernel) rfl rfl ?_
      refine wp_iald (j := 0) (by decide +kernel) (oks9_10 ok) (vin_c (by decide)) (by decide) ?_
      refine wp_iconst (z := 1) (v := 1) (by decide +kernel) (by decide) ?_
      refine wp_iadd (by decide +kernel) ?_
      refine wp_iast (j := 0) (by decide +kernel) (oks9_10 ok) (vin_c (by decide)) (by decide) ?_
      refine wp_memI (fun I13 eI13 => ?_)
      replace H := H I13 eI13
      refine wp_aload_n (z := 0) (i := 0) (r := (some h)) 3 (by decide +kernel) rfl rfl ?_
      refine wp_callV (idx := 153) (B2 := B9_endsLine) (As := []) (a := h) (st := []) (by decide +kernel) m9_endsLine ml9_153 k9_endsLine e9_endsLine ck9 ok.1 (⟨Nat.le_of_ble_eq_true rfl, Nat.le_of_ble_eq_true rfl⟩ : rOK B9_dayLine B9_endsLine) rfl (Nat.le_of_ble_eq_true rfl) (Nat.le_of_ble_eq_true rfl) ⟨Nat.le_of_ble_eq_true rfl, Nat.le_of_ble_eq_true rfl⟩ rfl (wp_mono H (fun v9 M9 hq9 => ?_))
      clear H
      obtain ⟨I14, L15, rfl, rfl, H⟩ := hq9
      show wp X B9_dayLine 151 [(5, .int u9), (4, .int (-1)), (3, .int r3), (0, .ref h), (2, .int x2)] [] (G, I14, L15) 0 0 _
      exact wp_vret (by decide +kernel) rfl (Nat.zero_le _) (Nat.zero_le _) ⟨_, _, rfl, rfl, H⟩
  · rw [if_pos c4] at H
    refine wp_aload_n (z := 0) (i := 0) (r := (some h)) 1 (by decide +kernel) rfl rfl ?_
    refine wp_iconst (z := 0) (v := 0) (by decide +kernel) (by decide) ?_
    refine wp_bipush (z := 31) (v := 31) (by decide +kernel) (by decide) ?_
    refine wp_callV (idx := 132) (B2 := B9_numbered) (As := [.int 0, .int 31]) (a := h) (st := []) (by decide +kernel) m9_numbered ml9_132 k9_numbered e9_numbered ck9 ok.1 (⟨Nat.le_of_ble_eq_true rfl, Nat.le_of_ble_eq_true rfl⟩ : rOK B9_dayLine B9_numbered) rfl (Nat.le_of_ble_eq_true rfl) (Nat.le_of_ble_eq_true rfl) ⟨Nat.le_of_ble_eq_true rfl, Nat.le_of_ble_eq_true rfl⟩ rfl (wp_mono H (fun v9 M9 hq9 => ?_))
    clear H
    obtain ⟨r22, I20, L21, rfl, rfl, H⟩ := hq9
    show wp X B9_dayLine 79 [(3, .int r3), (0, .ref h), (2, .int x2)] [.int r22] (G, I20, L21) 0 0 _
    refine wp_goto (off := 4) (tgt := 83) (by decide +kernel) (by decide) ?_
    refine wp_istore (i := 4) (lv' := [(4, .int r22), (3, .int r3), (0, .ref h), (2, .int x2)]) (by decide +kernel) (by decide) rfl ?_
    refine wp_aload_n (z := 0) (i := 0) (r := (some h)) 2 (by decide +kernel) rfl rfl ?_
    refine wp_getS (idx := 17) (q := (h + 3)) (by decide +kernel) fl9_17 rfl ok.1 (okr9_10 ok) ?_
    refine wp_iconst (z := 0) (v := 0) (by decide +kernel) (by decide) ?_
    refine wp_iald (j := 0) (by decide +kernel) (oks9_10 ok) (vin_c (by decide)) (by decide) ?_
    refine wp_bipush (z := 40) (v := 40) (by decide +kernel) (by decide) ?_
    refine wp_icmp_ge (off := 54) (tgt := 147) (by decide +kernel) (by decide) (fun c23 => ?_) (fun c23 => ?_)
    · rw [if_pos c23] at H
      refine wp_aload_n (z := 0) (i := 0) (r := (some h)) 2 (by decide +kernel) rfl rfl ?_
      refine wp_callV (idx := 153) (B2 := B9_endsLine) (As := []) (a := h) (st := []) (by decide +kernel) m9_endsLine ml9_153 k9_endsLine e9_endsLine ck9 ok.1 (⟨Nat.le_of_ble_eq_true rfl, Nat.le_of_ble_eq_true rfl⟩ : rOK B9_dayLine B9_endsLine) rfl (Nat.le_of_ble_eq_true rfl) (Nat.le_of_ble_eq_true rfl) ⟨Nat.le_of_ble_eq_true rfl, Nat.le_of_ble_eq_true rfl⟩ rfl (wp_mono H (fun v9 M9 hq9 => ?_))
      clear H
      obtain ⟨I24, L25, rfl, rfl, H⟩ := hq9
      show wp X B9_dayLine 151 [(4, .int r22), (3, .int r3), (0, .ref h), (2, .int x2)] [] (G, I24, L25) 0 0 _
      exact wp_vret (by decide +kernel) rfl (Nat.zero_le _) (Nat.zero_le _) ⟨_, _, rfl, rfl, H⟩
    · rw [if_neg c23] at H
      refine wp_iconst (z := 1) (v := 1) (by decide +kernel) (by decide) ?_
      refine wp_iconst (z := 3) (v := 3) (by decide +kernel) (by decide) ?_
      refine wp_aload_n (z := 0) (i := 0) (r := (some h)) 2 (by decide +kernel) rfl rfl ?_
      refine wp_getS (idx := 17) (q := (h + 3)) (by decide +kernel) fl9_17 rfl ok.1 (okr9_10 ok) ?_
      refine wp_iconst (z := 0) (v := 0) (by decide +kernel) (by decide) ?_
      refine wp_iald (j := 0) (by decide +kernel) (oks9_10 ok) (vin_c (by decide)) (by decide) ?_
      refine wp_imul (by decide +kernel) ?_
      refine wp_iadd (by decide +kernel) ?_
      refine wp_topi (fun u27 eu27 => ?_)
      replace H := H u27 eu27
      refine wp_istore (i := 5) (lv' := [(5, .int u27), (4, .int r22), (3, .int r3), (0, .ref h), (2, .int x2)]) (by decide +kernel) (by decide) rfl ?_
      refine wp_aload_n (z := 0) (i := 0) (r := (some h)) 3 (by decide +kernel) rfl rfl ?_
      refine wp_getS (idx := 17) (q := (h + 3)) (by decide +kernel) fl9_17 rfl ok.1 (okr9_10 ok) ?_
      refine wp_iload (i := 5) (x := u27) 0 (by decide +kernel) rfl ?_
      refine wp_iload_n (z := 2) (i := 2) (x := x2) 4 (by decide +kernel) rfl rfl ?_
      obtain ⟨o37, H⟩ := H
      refine wp_iast (j := (cl u27)) (by decide +kernel) (oks9_10 ok) o37 rfl ?_
      refine wp_memI (fun I28 eI28 => ?_)
      replace H := H I28 eI28
      refine wp_aload_n (z := 0) (i := 0) (r := (some h)) 3 (by decide +kernel) rfl rfl ?_
      refine wp_getS (idx := 17) (q := (h + 3)) (by decide +kernel) fl9_17 rfl ok.1 (okr9_10 ok) ?_
      refine wp_iload (i := 5) (x := u27) 0 (by decide +kernel) rfl ?_
      refine wp_iconst (z := 1) (v := 1) (by decide +kernel) (by decide) ?_
      refine wp_iadd (by decide +kernel) ?_
      refine wp_iload_n (z := 3) (i := 3) (x := r3) 2 (by decide +kernel) rfl rfl ?_
      obtain ⟨o36, H⟩ := H
      refine wp_iast (j := (cl (u27 + 1))) (by decide +kernel) (oks9_10 ok) o36 rfl ?_
      refine wp_memI (fun I29 eI29 => ?_)
      replace H := H I29 eI29
      refine wp_aload_n (z := 0) (i := 0) (r := (some h)) 3 (by decide +kernel) rfl rfl ?_
      refine wp_getS (idx := 17) (q := (h + 3)) (by decide +kernel) fl9_17 rfl ok.1 (okr9_10 ok) ?_
      refine wp_iload (i := 5) (x := u27) 0 (by decide +kernel) rfl ?_
      refine wp_iconst (z := 2) (v := 2) (by decide +kernel) (by decide) ?_
      refine wp_iadd (by decide +kernel) ?_
      refine wp_iload (i := 4) (x := r22) 1 (by decide +kernel) rfl ?_
      obtain ⟨o35, H⟩ := H
      refine wp_iast (j := (cl (u27 + 2))) (by decide +kernel) (oks9_10 ok) o35 rfl ?_
      refine wp_memI (fun I30 eI30 => ?_)
      replace H := H I30 eI30
      refine wp_aload_n (z := 0) (i := 0) (r := (some h)) 3 (by decide +kernel) rfl rfl ?_
      refine wp_getS (idx := 17) (q := (h + 3)) (by decide +kernel) fl9_17 rfl ok.1 (okr9_10 ok) ?_
      refine wp_iconst (z := 0) (v := 0) (by decide +kernel) (by decide) ?_
      refine wp_dup2 (by decide +kernel) rfl rfl ?_
      refine wp_iald (j := 0) (by decide +kernel) (oks9_10 ok) (vin_c (by decide)) (by decide) ?_
      refine wp_iconst (z := 1) (v := 1) (by decide +kernel) (by decide) ?_
      refine wp_iadd (by decide +kernel) ?_
      refine wp_iast (j := 0) (by decide +kernel) (oks9_10 ok) (vin_c (by decide)) (by decide) ?_
      refine wp_memI (fun I31 eI31 => ?_)
      replace H := H I31 eI31
      refine wp_aload_n (z := 0) (i := 0) (r := (some h)) 3 (by decide +kernel) rfl rfl ?_
      refine wp_callV (idx := 153) (B2 := B9_endsLine) (As := []) (a := h) (st := []) (by decide +kernel) m9_endsLine ml9_153 k9_endsLine e9_endsLine ck9 ok.1 (⟨Nat.le_of_ble_eq_true rfl, Nat.le_of_ble_eq_true rfl⟩ : rOK B9_dayLine B9_endsLine) rfl (Nat.le_of_ble_eq_true rfl) (Nat.le_of_ble_eq_true rfl) ⟨Nat.le_of_ble_eq_true rfl, Nat.le_of_ble_eq_true rfl⟩ rfl (wp_mono H (fun v9 M9 hq9 => ?_))
      clear H
      obtain ⟨I32, L33, rfl, rfl, H⟩ := hq9
      show wp X B9_dayLine 151 [(5, .int u27), (4, .int r22), (3, .int r3), (0, .ref h), (2, .int x2)] [] (G, I32, L33) 0 0 _
      exact wp_vret (by decide +kernel) rfl (Nat.zero_le _) (Nat.zero_le _) ⟨_, _, rfl, rfl, H⟩
/-! DeafWallModel.logLine()V -/
set_option maxRecDepth 20000 in
theorem b9_logLine {X : XX} {G : GG} {I : Nat → Nat → Int32} {L : Nat → Nat → Int64} {h : Nat} {Q : (Nat → Nat → Int32) → (Nat → Nat → Int64) → Prop} (ok : OK9 G h) (H : wpI X B9_wordIn 0 [(0, .ref h), (1, .int 12), (2, .int 13)] [] G I L (fun r3 I1 L2 => if (I1 h 8) = (0 : Int32) then (if (I1 (h + 3) 0) < 8 then (wpV X B9_logLine 41 [(0, .ref h), (2, .int (r3 - 12))] [] G I1 L2 Q) else (wpV X B9_also 0 [(0, .ref h), (1, .int 3), (2, .int (I h 4))] [] G I1 L2 (fun I6 L7 => wpV X B9_logLine 41 [(0, .ref h), (2, .int (r3 - 12))] [] G I6 L7 Q))) else (wpV X B9_logLine 41 [(0, .ref h), (2, .int (r3 - 12))] [] G I1 L2 Q))) : wpV X B9_logLine 0 [(0, .ref h)] [] G I L Q := by
  refine wp_aload_n (z := 0) (i := 0) (r := (some h)) 0 (by decide +kernel) rfl rfl ?_
  refine wp_getI (idx := 87) (by decide +kernel) fl9_87 rfl ok.1 ?_
  refine wp_istore_n (z := 1) (i := 1) (lv' := [(1, .int (I h 4)), (0, .ref h)]) (by decide +kernel) rfl (by decide) rfl ?_
  refine wp_aload_n (z := 0) (i := 0) (r := (some h)) 1 (by decide +kernel) rfl rfl ?_
  refine wp_bipush (z := 12) (v := 12) (by decide +kernel) (by decide) ?_
  refine wp_bipush (z := 13) (v := 13) (by decide +kernel) (by decide) ?_
  refine wp_callV (idx := 143) (B2 := B9_wordIn) (As := [.int 12, .int 13]) (a := h) (st := []) (by decide +kernel) m9_wordIn ml9_143 k9_wordIn e9_wordIn ck9 ok.1 (⟨Nat.le_of_ble_eq_true rfl, Nat.le_of_ble_eq_true rfl⟩ : rOK B9_logLine B9_wordIn) rfl (Nat.le_of_ble_eq_true rfl) (Nat.le_of_ble_eq_true rfl) ⟨Nat.le_of_ble_eq_true rfl, Nat.le_of_ble_eq_true rfl⟩ rfl (wp_mono H (fun v9 M9 hq9 => ?_))
  clear H
  obtain ⟨r3, I1, L2, rfl, rfl, H⟩ := hq9
  show wp X B9_logLine 13 [(1, .int (I h 4)), (0, .ref h)] [.int r3] (G, I1, L2) 0 0 _
  refine wp_bipush (z := 12) (v := 12) (by decide +kernel) (by decide) ?_
  refine wp_isub (by decide +kernel) ?_
  refine wp_istore_n (z := 2) (i := 2) (lv' := [(2, .int (r3 - 12)), (1, .int (I h 4)), (0, .ref h)]) (by decide +kernel) rfl (by decide) rfl ?_
  refine wp_aload_n (z := 0) (i := 0) (r := (some h)) 2 (by decide +kernel) rfl rfl ?_
  refine wp_getI (idx := 114) (by decide +kernel) fl9_114 rfl ok.1 ?_
  refine wp_if_ne (off := 20) (tgt := 41) (by decide +kernel) (by decide) (fun c4 => ?_) (fun c4 => ?_)
  · rw [if_neg c4] at H
    exact wp_sub [2, 0] rfl H
  · rw [if_pos c4] at H
    refine wp_aload_n (z := 0) (i := 0) (r := (some h)) 2 (by decide +kernel) rfl rfl ?_
    refine wp_getS (idx := 17) (q := (h + 3)) (by decide +kernel) fl9_17 rfl ok.1 (okr9_10 ok) ?_
    refine wp_iconst (z := 0) (v := 0) (by decide +kernel) (by decide) ?_
    refine wp_iald (j := 0) (by decide +kernel) (oks9_10 ok) (vin_c (by decide)) (by decide) ?_
    refine wp_bipush (z := 8) (v := 8) (by decide +kernel) (by decide) ?_
    refine wp_icmp_lt (off := 9) (tgt := 41) (by decide +kernel) (by decide) (fun c5 => ?_) (fun c5 => ?_)
    · rw [if_pos c5] at H
      exact wp_sub [2, 0] rfl H
    · rw [if_neg c5] at H
      refine wp_aload_n (z := 0) (i := 0) (r := (some h)) 2 (by decide +kernel) rfl rfl ?_
      refine wp_iconst (z := 3) (v := 3) (by decide +kernel) (by decide) ?_
      refine wp_iload_n (z := 1) (i := 1) (x := (I h 4)) 1 (by decide +kernel) rfl rfl ?_
      refine wp_callV (idx := 125) (B2 := B9_also) (As := [.int 3, .int (I h 4)]) (a := h) (st := []) (by decide +kernel) m9_also ml9_125 k9_also e9_also ck9 ok.1 (⟨Nat.le_of_ble_eq_true rfl, Nat.le_of_ble_eq_true rfl⟩ : rOK B9_logLine B9_also) rfl (Nat.le_of_ble_eq_true rfl) (Nat.le_of_ble_eq_true rfl) ⟨Nat.le_of_ble_eq_true rfl, Nat.le_of_ble_eq_true rfl⟩ rfl (wp_mono H (fun v9 M9 hq9 => ?_))
      clear H
      obtain ⟨I6, L7, rfl, rfl, H⟩ := hq9
      show wp X B9_logLine 41 [(2, .int (r3 - 12)), (1, .int (I h 4)), (0, .ref h)] [] (G, I6, L7) 0 0 _
      exact wp_sub [2, 0] rfl H
set_option maxRecDepth 20000 in
theorem b9_logLine_41 {X : XX} {G : GG} {I : Nat → Nat → Int32} {L : Nat → Nat → Int64} {h : Nat} {x2 : Int32} {Q : (Nat → Nat → Int32) → (Nat → Nat → Int64) → Prop} (ok : OK9 G h) (H : wpI X B9_numbered 0 [(0, .ref h), (1, .int 0), (2, .int 5)] [] G I L (fun r3 I1 L2 => wpI X B9_numbered 0 [(0, .ref h), (1, .int 0), (2, .int 19)] [] G I1 L2 (fun r6 I4 L5 => if 8 ≤ (I4 (h + 3) 0) then (wpV X B9_endsLine 0 [(0, .ref h)] [] G I4 L5 (fun I8 L9 => Q I8 L9)) else (∀ u11, u11 = (1 + (3 * (I4 (h + 3) 0))) → vp_in u11 121 ∧ (∀ I12, I12 = up2 I4 (h + 3) (cl u11) x2 → vp_in (u11 + 1) 121 ∧ (∀ I13, I13 = up2 I12 (h + 3) (cl (u11 + 1)) r3 → vp_in (u11 + 2) 121 ∧ (∀ I14, I14 = up2 I13 (h + 3) (cl (u11 + 2)) r6 → ∀ I15, I15 = up2 I14 (h + 3) 0 ((I14 (h + 3) 0) + 1) → wpV X B9_endsLine 0 [(0, .ref h)] [] G I15 L5 (fun I16 L17 => Q I16 L17)))))))) : wpV X B9_logLine 41 [(0, .ref h), (2, .int x2)] [] G I L Q := by
  refine wp_aload_n (z := 0) (i := 0) (r := (some h)) 0 (by decide +kernel) rfl rfl ?_
  refine wp_iconst (z := 0) (v := 0) (by decide +kernel) (by decide) ?_
  refine wp_iconst (z := 5) (v := 5) (by decide +kernel) (by decide) ?_
  refine wp_callV (idx := 132) (B2 := B9_numbered) (As := [.int 0, .int 5]) (a := h) (st := []) (by decide +kernel) m9_numbered ml9_132 k9_numbered e9_numbered ck9 ok.1 (⟨Nat.le_of_ble_eq_true rfl, Nat.le_of_ble_eq_true rfl⟩ : rOK B9_logLine B9_numbered) rfl (Nat.le_of_ble_eq_true rfl) (Nat.le_of_ble_eq_true rfl) ⟨Nat.le_of_ble_eq_true rfl, Nat.le_of_ble_eq_true rfl⟩ rfl (wp_mono H (fun v9 M9 hq9 => ?_))
  clear H
  obtain ⟨r3, I1, L2, rfl, rfl, H⟩ := hq9
  show wp X B9_logLine 47 [(0, .ref h), (2, .int x2)] [.int r3] (G, I1, L2) 0 0 _
  refine wp_istore_n (z := 3) (i := 3) (lv' := [(3, .int r3), (0, .ref h), (2, .int x2)]) (by decide +kernel) rfl (by decide) rfl ?_
  refine wp_aload_n (z := 0) (i := 0) (r := (some h)) 1 (by decide +kernel) rfl rfl ?_
  refine wp_iconst (z := 0) (v := 0) (by decide +kernel) (by decide) ?_
  refine wp_bipush (z := 19) (v := 19) (by decide +kernel) (by decide) ?_
  refine wp_callV (idx := 132) (B2 := B9_numbered) (As := [.int 0, .int 19]) (a := h) (st := []) (by decide +kernel) m9_numbered ml9_132 k9_numbered e9_numbered ck9 ok.1 (⟨Nat.le_of_ble_eq_true rfl, Nat.le_of_ble_eq_true rfl⟩ : rOK B9_logLine B9_numbered) rfl (Nat.le_of_ble_eq_true rfl) (Nat.le_of_ble_eq_true rfl) ⟨Nat.le_of_ble_eq_true rfl, Nat.le_of_ble_eq_true rfl⟩ rfl (wp_mono H (fun v9 M9 hq9 => ?_))
  clear H
  obtain ⟨r6, I4, L5, rfl, rfl, H⟩ := hq9
  show wp X B9_logLine 55 [(3, .int r3), (0, .ref h), (2, .int x2)] [.int r6] (G, I4, L5) 0 0 _
  refine wp_istore (i := 4) (lv' := [(4, .int r6), (3, .int r3), (0, .ref h), (2, .int x2)]) (by decide +kernel) (by decide) rfl ?_
  refine wp_aload_n (z := 0) (i := 0) (r := (some h)) 2 (by decide +kernel) rfl rfl ?_
  refine wp_getS (idx := 17) (q := (h + 3)) (by decide +kernel) fl9_17 rfl ok.1 (okr9_10 ok) ?_
  refine wp_iconst (z := 0) (v := 0) (by decide +kernel) (by decide) ?_
  refine wp_iald (j := 0) (by decide +kernel) (oks9_10 ok) (vin_c (by decide)) (by decide) ?_
  refine wp_bipush (z := 8) (v := 8) (by decide +kernel) (by decide) ?_
  refine wp_icmp_ge (off := 54) (tgt := 119) (by decide +kernel) (by decide) (fun c7 => ?_) (fun c7 => ?_)
  · rw [if_pos c7] at H
    refine wp_aload_n (z := 0) (i := 0) (r := (some h)) 2 (by decide +kernel) rfl rfl ?_
    refine wp_callV (idx := 153) (B2 := B9_endsLine) (As := []) (a := h) (st := []) (by decide +kernel) m9_endsLine ml9_153 k9_endsLine e9_endsLine ck9 ok.1 (⟨Nat.le_of_ble_eq_true rfl, Nat.le_of_ble_eq_true rfl⟩ : rOK B9_logLine B9_endsLine) rfl (Nat.le_of_ble_eq_true rfl) (Nat.le_of_ble_eq_true rfl) ⟨Nat.le_of_ble_eq_true rfl, Nat.le_of_ble_eq_true rfl⟩ rfl (wp_mono H (fun v9 M9 hq9 => ?_))
    clear H
    obtain ⟨I8, L9, rfl, rfl, H⟩ := hq9
    show wp X B9_logLine 123 [(4, .int r6), (3, .int r3), (0, .ref h), (2, .int x2)] [] (G, I8, L9) 0 0 _
    exact wp_vret (by decide +kernel) rfl (Nat.zero_le _) (Nat.zero_le _) ⟨_, _, rfl, rfl, H⟩
  · rw [if_neg c7] at H
    refine wp_iconst (z := 1) (v := 1) (by decide +kernel) (by decide) ?_
    refine wp_iconst (z := 3) (v := 3) (by decide +kernel) (by decide) ?_
    refine wp_aload_n (z := 0) (i := 0) (r := (some h)) 2 (by decide +kernel) rfl rfl ?_
    refine wp_getS (idx := 17) (q := (h + 3)) (by decide +kernel) fl9_17 rfl ok.1 (okr9_10 ok) ?_
    refine wp_iconst (z := 0) (v := 0) (by decide +kernel) (by decide) ?_
    refine wp_iald (j := 0) (by decide +kernel) (oks9_10 ok) (vin_c (by decide)) (by decide) ?_
    refine wp_imul (by decide +kernel) ?_
    refine wp_iadd (by decide +kernel) ?_
    refine wp_topi (fun u11 eu11 => ?_)
    replace H := H u11 eu11
    refine wp_istore (i := 5) (lv' := [(5, .int u11), (4, .int r6), (3, .int r3), (0, .ref h), (2, .int x2)]) (by decide +kernel) (by decide) rfl ?_
    refine wp_aload_n (z := 0) (i := 0) (r := (some h)) 3 (by decide +kernel) rfl rfl ?_
    refine wp_getS (idx := 17) (q := (h + 3)) (by decide +kernel) fl9_17 rfl ok.1 (okr9_10 ok) ?_
    refine wp_iload (i := 5) (x := u11) 0 (by decide +kernel) rfl ?_
    refine wp_iload_n (z := 2) (i := 2) (x := x2) 4 (by decide +kernel) rfl rfl ?_
    obtain ⟨o21, H⟩ := H
    refine wp_iast (j := (cl u11)) (by decide +kernel) (oks9_10 ok) o21 rfl ?_
    refine wp_memI (fun I12 eI12 => ?_)
    replace H := H I12 eI12
    refine wp_aload_n (z := 0) (i := 0) (r := (some h)) 3 (by decide +kernel) rfl rfl ?_
    refine wp_getS (idx := 17) (q := (h + 3)) (by decide +kernel) fl9_17 rfl ok.1 (okr9_10 ok) ?_
    refine wp_iload (i := 5) (x := u11) 0 (by decide +kernel) rfl ?_
    refine wp_iconst (z := 1) (v := 1) (by decide +kernel) (by decide) ?_
    refine wp_iadd (by decide +kernel) ?_
    refine wp_iload_n (z := 3) (i := 3) (x := r3) 2 (by decide +kernel) rfl rfl ?_
    obtain ⟨o20, H⟩ := H
    refine wp_iast (j := (cl (u11 + 1))) (by decide +kernel) (oks9_10 ok) o20 rfl ?_
    refine wp_memI (fun I13 eI13 => ?_)
    replace H := H I13 eI13
    refine wp_aload_n (z := 0) (i := 0) (r := (some h)) 3 (by decide +kernel) rfl rfl ?_
    refine wp_getS (idx := 17) (q := (h + 3)) (by decide +kernel) fl9_17 rfl ok.1 (okr9_10 ok) ?_
    refine wp_iload (i := 5) (x := u11) 0 (by decide +kernel) rfl ?_
    refine wp_iconst (z := 2) (v := 2) (by decide +kernel) (by decide) ?_
    refine wp_iadd (by decide +kernel) ?_
    refine wp_iload (i := 4) (x := r6) 1 (by decide +kernel) rfl ?_
    obtain ⟨o19, H⟩ := H
    refine wp_iast (j := (cl (u11 + 2))) (by decide +kernel) (oks9_10 ok) o19 rfl ?_
    refine wp_memI (fun I14 eI14 => ?_)
    replace H := H I14 eI14
    refine wp_aload_n (z := 0) (i := 0) (r := (some h)) 3 (by decide +kernel) rfl rfl ?_
    refine wp_getS (idx := 17) (q := (h + 3)) (by decide +kernel) fl9_17 rfl ok.1 (okr9_10 ok) ?_
    refine wp_iconst (z := 0) (v := 0) (by decide +kernel) (by decide) ?_
    refine wp_dup2 (by decide +kernel) rfl rfl ?_
    refine wp_iald (j := 0) (by decide +kernel) (oks9_10 ok) (vin_c (by decide)) (by decide) ?_
    refine wp_iconst (z := 1) (v := 1) (by decide +kernel) (by decide) ?_
    refine wp_iadd (by decide +kernel) ?_
    refine wp_iast (j := 0) (by decide +kernel) (oks9_10 ok) (vin_c (by decide)) (by decide) ?_
    refine wp_memI (fun I15 eI15 => ?_)
    replace H := H I15 eI15
    refine wp_aload_n (z := 0) (i := 0) (r := (some h)) 3 (by decide +kernel) rfl rfl ?_
    refine wp_callV (idx := 153) (B2 := B9_endsLine) (As := []) (a := h) (st := []) (by decide +kernel) m9_endsLine ml9_153 k9_endsLine e9_endsLine ck9 ok.1 (⟨Nat.le_of_ble_eq_true rfl, Nat.le_of_ble_eq_true rfl⟩ : rOK B9_logLine B9_endsLine) rfl (Nat.le_of_ble_eq_true rfl) (Nat.le_of_ble_eq_true rfl) ⟨Nat.le_of_ble_eq_true rfl, Nat.le_of_ble_eq_true rfl⟩ rfl (wp_mono H (fun v9 M9 hq9 => ?_))
    clear H
    obtain ⟨I16, L17, rfl, rfl, H⟩ := hq9
    show wp X B9_logLine 123 [(5, .int u11), (4, .int r6), (3, .int r3), (0, .ref h), (2, .int x2)] [] (G, I16, L17) 0 0 _
    exact wp_vret (by decide +kernel) rfl (Nat.zero_le _) (Nat.zero_le _) ⟨_, _, rfl, rfl, H⟩
/-! DeafWallModel.beginsText(I)V -/
set_option maxRecDepth 20000 in
theorem b9_beginsText {X : XX} {G : GG} {I : Nat → Nat → Int32} {L : Nat → Nat → Int64} {h : Nat} {x1 : Int32} {Q : (Nat → Nat → Int32) → (Nat → Nat → Int64) → Prop} (ok : OK9 G h) (H : ∀ I1, I1 = up2 I h 3 0 → ∀ I2, I2 = up2 I1 h 8 0 → ∀ I3, I3 = up2 I2 h 9 (-1) → wpV X B9_beginsText 17 [(0, .ref h), (1, .int x1), (2, .int 0)] [] G I3 L Q) : wpV X B9_beginsText 0 [(0, .ref h), (1, .int x1)] [] G I L Q := by
  refine wp_aload_n (z := 0) (i := 0) (r := (some h)) 0 (by decide +kernel) rfl rfl ?_
  refine wp_iconst (z := 0) (v := 0) (by decide +kernel) (by decide) ?_
  refine wp_putI (idx := 80) (by decide +kernel) fl9_80 rfl ok.1 ?_
  refine wp_memI (fun I1 eI1 => ?_)
  replace H := H I1 eI1
  refine wp_aload_n (z := 0) (i := 0) (r := (some h)) 0 (by decide +kernel) rfl rfl ?_
  refine wp_iconst (z := 0) (v := 0) (by decide +kernel) (by decide) ?_
  refine wp_putZ (idx := 114) (by decide +kernel) fl9_114 rfl ok.1 (by decide) ?_
  refine wp_memI (fun I2 eI2 => ?_)
  replace H := H I2 eI2
  refine wp_aload_n (z := 0) (i := 0) (r := (some h)) 0 (by decide +kernel) rfl rfl ?_
  refine wp_iconst (z := -1) (v := (-1)) (by decide +kernel) (by decide) ?_
  refine wp_putI (idx := 136) (by decide +kernel) fl9_136 rfl ok.1 ?_
  refine wp_memI (fun I3 eI3 => ?_)
  replace H := H I3 eI3
  refine wp_iconst (z := 0) (v := 0) (by decide +kernel) (by decide) ?_
  refine wp_istore_n (z := 2) (i := 2) (lv' := [(2, .int 0), (0, .ref h), (1, .int x1)]) (by decide +kernel) rfl (by decide) rfl ?_
  exact wp_sub [1, 2, 0] rfl H
set_option maxRecDepth 20000 in
theorem b9_beginsText_17 {X : XX} {G : GG} {I : Nat → Nat → Int32} {L : Nat → Nat → Int64} {h : Nat} {x1 : Int32} {x2 : Int32} {Q : (Nat → Nat → Int32) → (Nat → Nat → Int64) → Prop} (ok : OK9 G h) (H : if 121 ≤ x2 then (if x1 ≤ (0 : Int32) then (∀ I3, I3 = up2 I (h + 3) 0 3 → ∀ I4, I4 = up2 I3 (h + 3) 1 2 → wpV X B9_beginsText 57 [(0, .ref h), (2, .int 0)] [] G I4 L Q) else (Q I L)) else (vp_in x2 121 ∧ (∀ I5, I5 = up2 I (h + 3) (cl x2) 0 → wpV X B9_beginsText 17 [(0, .ref h), (1, .int x1), (2, .int (x2 + 1))] [] G I5 L Q))) : wpV X B9_beginsText 17 [(0, .ref h), (1, .int x1), (2, .int x2)] [] G I L Q := by
  refine wp_iload_n (z := 2) (i := 2) (x := x2) 2 (by decide +kernel) rfl rfl ?_
  refine wp_bipush (z := 121) (v := 121) (by decide +kernel) (by decide) ?_
  refine wp_icmp_ge (off := 16) (tgt := 36) (by decide +kernel) (by decide) (fun c1 => ?_) (fun c1 => ?_)
  · rw [if_pos c1] at H
    refine wp_iload_n (z := 1) (i := 1) (x := x1) 1 (by decide +kernel) rfl rfl ?_
    refine wp_if_le (off := 4) (tgt := 41) (by decide +kernel) (by decide) (fun c2 => ?_) (fun c2 => ?_)
    · rw [if_pos c2] at H
      refine wp_aload_n (z := 0) (i := 0) (r := (some h)) 0 (by decide +kernel) rfl rfl ?_
      refine wp_getS (idx := 17) (q := (h + 3)) (by decide +kernel) fl9_17 rfl ok.1 (okr9_10 ok) ?_
      refine wp_iconst (z := 0) (v := 0) (by decide +kernel) (by decide) ?_
      refine wp_iconst (z := 3) (v := 3) (by decide +kernel) (by decide) ?_
      refine wp_iast (j := 0) (by decide +kernel) (oks9_10 ok) (vin_c (by decide)) (by decide) ?_
      refine wp_memI (fun I3 eI3 => ?_)
      replace H := H I3 eI3
      refine wp_aload_n (z := 0) (i := 0) (r := (some h)) 0 (by decide +kernel) rfl rfl ?_
      refine wp_getS (idx := 17) (q := (h + 3)) (by decide +kernel) fl9_17 rfl ok.1 (okr9_10 ok) ?_
      refine wp_iconst (z := 1) (v := 1) (by decide +kernel) (by decide) ?_
      refine wp_iconst (z := 2) (v := 2) (by decide +kernel) (by decide) ?_
      refine wp_iast (j := 1) (by decide +kernel) (oks9_10 ok) (vin_c (by decide)) (by decide) ?_
      refine wp_memI (fun I4 eI4 => ?_)
      replace H := H I4 eI4
      refine wp_iconst (z := 0) (v := 0) (by decide +kernel) (by decide) ?_
      refine wp_istore_n (z := 2) (i := 2) (lv' := [(2, .int 0), (0, .ref h), (1, .int x1)]) (by decide +kernel) rfl (by decide) rfl ?_
      exact wp_sub [1, 0] rfl H
    · rw [if_neg c2] at H
      exact wp_vret (by decide +kernel) rfl (Nat.zero_le _) (Nat.zero_le _) ⟨_, _, rfl, rfl, H⟩
  · rw [if_neg c1] at H
    refine wp_aload_n (z := 0) (i := 0) (r := (some h)) 0 (by decide +kernel) rfl rfl ?_
    refine wp_getS (idx := 17) (q := (h + 3)) (by decide +kernel) fl9_17 rfl ok.1 (okr9_10 ok) ?_
    refine wp_iload_n (z := 2) (i := 2) (x := x2) 2 (by decide +kernel) rfl rfl ?_
    refine wp_iconst (z := 0) (v := 0) (by decide +kernel) (by decide) ?_
    obtain ⟨o6, H⟩ := H
    refine wp_iast (j := (cl x2)) (by decide +kernel) (oks9_10 ok) o6 rfl ?_
    refine wp_memI (fun I5 eI5 => ?_)
    replace H := H I5 eI5
    refine wp_iinc (i := 2) (z := 1) (v := 1) (lv' := [(2, .int (x2 + 1)), (0, .ref h), (1, .int x1)]) 2 (by decide +kernel) rfl (by decide) (by decide) rfl ?_
    refine wp_goto (off := -16) (tgt := 17) (by decide +kernel) (by decide) ?_
    exact wp_sub [1, 2, 0] rfl H
set_option maxRecDepth 20000 in
theorem b9_beginsText_57 {X : XX} {G : GG} {I : Nat → Nat → Int32} {L : Nat → Nat → Int64} {h : Nat} {x2 : Int32} {Q : (Nat → Nat → Int32) → (Nat → Nat → Int64) → Prop} (ok : OK9 G h) (H : if 32 ≤ x2 then (Q I L) else (vp_in (29 + x2) 121 ∧ (∀ I2, I2 = up2 I (h + 3) (cl (29 + x2)) 2 → wpV X B9_beginsText 57 [(0, .ref h), (2, .int (x2 + 1))] [] G I2 L Q))) : wpV X B9_beginsText 57 [(0, .ref h), (2, .int x2)] [] G I L Q := by
  refine wp_iload_n (z := 2) (i := 2) (x := x2) 1 (by decide +kernel) rfl rfl ?_
  refine wp_bipush (z := 32) (v := 32) (by decide +kernel) (by decide) ?_
  refine wp_icmp_ge (off := 19) (tgt := 79) (by decide +kernel) (by decide) (fun c1 => ?_) (fun c1 => ?_)
  · rw [if_pos c1] at H
    exact wp_vret (by decide +kernel) rfl (Nat.zero_le _) (Nat.zero_le _) ⟨_, _, rfl, rfl, H⟩
  · rw [if_neg c1] at H
    refine wp_aload_n (z := 0) (i := 0) (r := (some h)) 0 (by decide +kernel) rfl rfl ?_
    refine wp_getS (idx := 17) (q := (h + 3)) (by decide +kernel) fl9_17 rfl ok.1 (okr9_10 ok) ?_
    refine wp_bipush (z := 29) (v := 29) (by decide +kernel) (by decide) ?_
    refine wp_iload_n (z := 2) (i := 2) (x := x2) 1 (by decide +kernel) rfl rfl ?_
    refine wp_iadd (by decide +kernel) ?_
    refine wp_iconst (z := 2) (v := 2) (by decide +kernel) (by decide) ?_
    obtain ⟨o3, H⟩ := H
    refine wp_iast (j := (cl (29 + x2))) (by decide +kernel) (oks9_10 ok) o3 rfl ?_
    refine wp_memI (fun I2 eI2 => ?_)
    replace H := H I2 eI2
    refine wp_iinc (i := 2) (z := 1) (v := 1) (lv' := [(2, .int (x2 + 1)), (0, .ref h)]) 1 (by decide +kernel) rfl (by decide) (by decide) rfl ?_
    refine wp_goto (off := -19) (tgt := 57) (by decide +kernel) (by decide) ?_
    exact wp_sub [1, 0] rfl H
/-! DeafWallModel.text(II)I -/
set_option maxRecDepth 20000 in
theorem b9_text {X : XX} {G : GG} {I : Nat → Nat → Int32} {L : Nat → Nat → Int64} {h : Nat} {x1 : Int32} {x2 : Int32} {Q : Int32 → (Nat → Nat → Int32) → (Nat → Nat → Int64) → Prop} (ok : OK9 G h) (H : ∀ I1, I1 = up2 I h 2 (I (h + 1) 4) → ∀ I2, I2 = up2 I1 (h + 1) 4 0 → ∀ I3, I3 = up2 I2 (h + 1) 5 0 → ∀ I4, I4 = up2 I3 (h + 1) 6 (-1) → if (v9_isIn x1 0 2) = (0 : Int32) then (Q (-2) I4 L) else (if x2 = (-1) then (vp_in x1 4096 ∧ (if (I4 (h + 1) (cl x1)) < 2 then (wpV X B9_beginsText 0 [(0, .ref h), (1, .int x1)] [] G I4 L (fun I16 L17 => wpV X B9_advance 0 [(0, .ref h)] [] G I16 L17 (fun I19 L20 => wpI X B9_text 80 [(0, .ref h), (1, .int x1), (2, .int x2)] [] G I19 L20 Q))) else (Q (-2) I4 L))) else (p9_isOf I4 h x1 x2 ∧ (if (v9_isOf I4 h x1 x2) = (0 : Int32) then (Q (-2) I4 L) else (wpV X B9_beginsText 0 [(0, .ref h), (1, .int x1)] [] G I4 L (fun I8 L9 => wpV X B9_advance 0 [(0, .ref h)] [] G I8 L9 (fun I11 L12 => wpI X B9_text 80 [(0, .ref h), (1, .int x1), (2, .int x2)] [] G I11 L12 Q))))))) : wpI X B9_text 0 [(0, .ref h), (1, .int x1), (2, .int x2)] [] G I L Q := by
  refine wp_aload_n (z := 0) (i := 0) (r := (some h)) 0 (by decide +kernel) rfl rfl ?_
  refine wp_aload_n (z := 0) (i := 0) (r := (some h)) 0 (by decide +kernel) rfl rfl ?_
  refine wp_getS (idx := 7) (q := (h + 1)) (by decide +kernel) fl9_7 rfl ok.1 (okr9_0 ok) ?_
  refine wp_iconst (z := 4) (v := 4) (by decide +kernel) (by decide) ?_
  refine wp_iald (j := 4) (by decide +kernel) (oks9_0 ok) (vin_c (by decide)) (by decide) ?_
  refine wp_putI (idx := 66) (by decide +kernel) fl9_66 rfl ok.1 ?_
  refine wp_memI (fun I1 eI1 => ?_)
  replace H := H I1 eI1
  refine wp_aload_n (z := 0) (i := 0) (r := (some h)) 0 (by decide +kernel) rfl rfl ?_
  refine wp_getS (idx := 7) (q := (h + 1)) (by decide +kernel) fl9_7 rfl ok.1 (okr9_0 ok) ?_
  refine wp_iconst (z := 4) (v := 4) (by decide +kernel) (by decide) ?_
  refine wp_iconst (z := 0) (v := 0) (by decide +kernel) (by decide) ?_
  refine wp_iast (j := 4) (by decide +kernel) (oks9_0 ok) (vin_c (by decide)) (by decide) ?_
  refine wp_memI (fun I2 eI2 => ?_)
  replace H := H I2 eI2
  refine wp_aload_n (z := 0) (i := 0) (r := (some h)) 0 (by decide +kernel) rfl rfl ?_
  refine wp_getS (idx := 7) (q := (h + 1)) (by decide +kernel) fl9_7 rfl ok.1 (okr9_0 ok) ?_
  refine wp_iconst (z := 5) (v := 5) (by decide +kernel) (by decide) ?_
  refine wp_iconst (z := 0) (v := 0) (by decide +kernel) (by decide) ?_
  refine wp_iast (j := 5) (by decide +kernel) (oks9_0 ok) (vin_c (by decide)) (by decide) ?_
  refine wp_memI (fun I3 eI3 => ?_)
  replace H := H I3 eI3
  refine wp_aload_n (z := 0) (i := 0) (r := (some h)) 0 (by decide +kernel) rfl rfl ?_
  refine wp_getS (idx := 7) (q := (h + 1)) (by decide +kernel) fl9_7 rfl ok.1 (okr9_0 ok) ?_
  refine wp_bipush (z := 6) (v := 6) (by decide +kernel) (by decide) ?_
  refine wp_iconst (z := -1) (v := (-1)) (by decide +kernel) (by decide) ?_
  refine wp_iast (j := 6) (by decide +kernel) (oks9_0 ok) (vin_c (by decide)) (by decide) ?_
  refine wp_memI (fun I4 eI4 => ?_)
  replace H := H I4 eI4
  refine wp_iload_n (z := 1) (i := 1) (x := x1) 1 (by decide +kernel) rfl rfl ?_
  refine wp_iconst (z := 0) (v := 0) (by decide +kernel) (by decide) ?_
  refine wp_iconst (z := 2) (v := 2) (by decide +kernel) (by decide) ?_
  refine wp_callS (idx := 121) (B2 := B9_isIn) (As := [.int x1, .int 0, .int 2]) (st := []) (by decide +kernel) m9_isIn ml9_121 k9_isIn (⟨Nat.le_of_ble_eq_true rfl, Nat.le_of_ble_eq_true rfl⟩ : rOK B9_text B9_isIn) rfl (Nat.le_of_ble_eq_true rfl) (Nat.le_of_ble_eq_true rfl) ⟨Nat.le_of_ble_eq_true rfl, Nat.le_of_ble_eq_true rfl⟩ rfl (wp_mono (b9_isIn (Q := (fun r I' L' => r = (v9_isIn x1 0 2) ∧ I4 = I' ∧ L = L'))  ⟨rfl, rfl, rfl⟩) (fun v9 M9 hq9 => ?_))
  obtain ⟨_, _, _, rfl, rfl, rfl, rfl, rfl⟩ := hq9
  show wp X B9_text 38 [(0, .ref h), (1, .int x1), (2, .int x2)] [.int (v9_isIn x1 0 2)] (G, I4, L) 0 0 _
  refine wp_if_eq (off := 30) (tgt := 68) (by decide +kernel) (by decide) (fun c5 => ?_) (fun c5 => ?_)
  · rw [if_pos c5] at H
    refine wp_bipush (z := -2) (v := (-2)) (by decide +kernel) (by decide) ?_
    exact wp_iret (by decide +kernel) rfl (Nat.zero_le _) (Nat.zero_le _) ⟨_, _, _, rfl, rfl, H⟩
  · rw [if_neg c5] at H
    refine wp_iload_n (z := 2) (i := 2) (x := x2) 2 (by decide +kernel) rfl rfl ?_
    refine wp_iconst (z := -1) (v := (-1)) (by decide +kernel) (by decide) ?_
    refine wp_icmp_ne (off := 16) (tgt := 59) (by decide +kernel) (by decide) (fun c6 => ?_) (fun c6 => ?_)
    · rw [if_neg c6] at H
      refine wp_aload_n (z := 0) (i := 0) (r := (some h)) 0 (by decide +kernel) rfl rfl ?_
      refine wp_iload_n (z := 1) (i := 1) (x := x1) 1 (by decide +kernel) rfl rfl ?_
      refine wp_iload_n (z := 2) (i := 2) (x := x2) 2 (by decide +kernel) rfl rfl ?_
      obtain ⟨o14, H⟩ := H
      refine wp_callV (idx := 156) (B2 := B9_isOf) (As := [.int x1, .int x2]) (a := h) (st := []) (by decide +kernel) m9_isOf ml9_156 k9_isOf e9_isOf ck9 ok.1 (⟨Nat.le_of_ble_eq_true rfl, Nat.le_of_ble_eq_true rfl⟩ : rOK B9_text B9_isOf) rfl (Nat.le_of_ble_eq_true rfl) (Nat.le_of_ble_eq_true rfl) ⟨Nat.le_of_ble_eq_true rfl, Nat.le_of_ble_eq_true rfl⟩ rfl (wp_mono (b9_isOf (Q := (fun r I' L' => r = (v9_isOf I4 h x1 x2) ∧ I4 = I' ∧ L = L')) ok o14 ⟨rfl, rfl, rfl⟩) (fun v9 M9 hq9 => ?_))
      obtain ⟨_, _, _, rfl, rfl, rfl, rfl, rfl⟩ := hq9
      show wp X B9_text 65 [(0, .ref h), (1, .int x1), (2, .int x2)] [.int (v9_isOf I4 h x1 x2)] (G, I4, L) 0 0 _
      refine wp_if_ne (off := 6) (tgt := 71) (by decide +kernel) (by decide) (fun c7 => ?_) (fun c7 => ?_)
      · rw [if_neg c7] at H
        refine wp_aload_n (z := 0) (i := 0) (r := (some h)) 0 (by decide +kernel) rfl rfl ?_
        refine wp_iload_n (z := 1) (i := 1) (x := x1) 1 (by decide +kernel) rfl rfl ?_
        refine wp_callV (idx := 160) (B2 := B9_beginsText) (As := [.int x1]) (a := h) (st := []) (by decide +kernel) m9_beginsText ml9_160 k9_beginsText e9_beginsText ck9 ok.1 (⟨Nat.le_of_ble_eq_true rfl, Nat.le_of_ble_eq_true rfl⟩ : rOK B9_text B9_beginsText) rfl (Nat.le_of_ble_eq_true rfl) (Nat.le_of_ble_eq_true rfl) ⟨Nat.le_of_ble_eq_true rfl, Nat.le_of_ble_eq_true rfl⟩ rfl (wp_mono H (fun v9 M9 hq9 => ?_))
        clear H
        obtain ⟨I8, L9, rfl, rfl, H⟩ := hq9
        show wp X B9_text 76 [(0, .ref h), (1, .int x1), (2, .int x2)] [] (G, I8, L9) 0 0 _
        refine wp_aload_n (z := 0) (i := 0) (r := (some h)) 0 (by decide +kernel) rfl rfl ?_
        refine wp_callV (idx := 129) (B2 := B9_advance) (As := []) (a := h) (st := []) (by decide +kernel) m9_advance ml9_129 k9_advance e9_advance ck9 ok.1 (⟨Nat.le_of_ble_eq_true rfl, Nat.le_of_ble_eq_true rfl⟩ : rOK B9_text B9_advance) rfl (Nat.le_of_ble_eq_true rfl) (Nat.le_of_ble_eq_true rfl) ⟨Nat.le_of_ble_eq_true rfl, Nat.le_of_ble_eq_true rfl⟩ rfl (wp_mono H (fun v9 M9 hq9 => ?_))
        clear H
        obtain ⟨I11, L12, rfl, rfl, H⟩ := hq9
        show wp X B9_text 80 [(0, .ref h), (1, .int x1), (2, .int x2)] [] (G, I11, L12) 0 0 _
        exact wp_sub [0, 1, 2] rfl H
      · rw [if_pos c7] at H
        refine wp_bipush (z := -2) (v := (-2)) (by decide +kernel) (by decide) ?_
        exact wp_iret (by decide +kernel) rfl (Nat.zero_le _) (Nat.zero_le _) ⟨_, _, _, rfl, rfl, H⟩
    · rw [if_pos c6] at H
      refine wp_aload_n (z := 0) (i := 0) (r := (some h)) 0 (by decide +kernel) rfl rfl ?_
      refine wp_getS (idx := 7) (q := (h + 1)) (by decide +kernel) fl9_7 rfl ok.1 (okr9_0 ok) ?_
      refine wp_iload_n (z := 1) (i := 1) (x := x1) 1 (by decide +kernel) rfl rfl ?_
      obtain ⟨o22, H⟩ := H
      refine wp_iald (j := (cl x1)) (by decide +kernel) (oks9_0 ok) o22 rfl ?_
      refine wp_iconst (z := 2) (v := 2) (by decide +kernel) (by decide) ?_
      refine wp_icmp_lt (off := 18) (tgt := 71) (by decide +kernel) (by decide) (fun c15 => ?_) (fun c15 => ?_)
      · rw [if_pos c15] at H
        refine wp_aload_n (z := 0) (i := 0) (r := (some h)) 0 (by decide +kernel) rfl rfl ?_
        refine wp_iload_n (z := 1) (i := 1) (x := x1) 1 (by decide +kernel) rfl rfl ?_
        refine wp_callV (idx := 160) (B2 := B9_beginsText) (As := [.int x1]) (a := h) (st := []) (by decide +kernel) m9_beginsText ml9_160 k9_beginsText e9_beginsText ck9 ok.1 (⟨Nat.le_of_ble_eq_true rfl, Nat.le_of_ble_eq_true rfl⟩ : rOK B9_text B9_beginsText) rfl (Nat.le_of_ble_eq_true rfl) (Nat.le_of_ble_eq_true rfl) ⟨Nat.le_of_ble_eq_true rfl, Nat.le_of_ble_eq_true rfl⟩ rfl (wp_mono H (fun v9 M9 hq9 => ?_))
        clear H
        obtain ⟨I16, L17, rfl, rfl, H⟩ := hq9
        show wp X B9_text 76 [(0, .ref h), (1, .int x1), (2, .int x2)] [] (G, I16, L17) 0 0 _
        refine wp_aload_n (z := 0) (i := 0) (r := (some h)) 0 (by decide +kernel) rfl rfl ?_
        refine wp_callV (idx := 129) (B2 := B9_advance) (As := []) (a := h) (st := []) (by decide +kernel) m9_advance ml9_129 k9_advance e9_advance ck9 ok.1 (⟨Nat.le_of_ble_eq_true rfl, Nat.le_of_ble_eq_true rfl⟩ : rOK B9_text B9_advance) rfl (Nat.le_of_ble_eq_true rfl) (Nat.le_of_ble_eq_true rfl) ⟨Nat.le_of_ble_eq_true rfl, Nat.le_of_ble_eq_true rfl⟩ rfl (wp_mono H (fun v9 M9 hq9 => ?_))
        clear H
        obtain ⟨I19, L20, rfl, rfl, H⟩ := hq9
        show wp X B9_text 80 [(0, .ref h), (1, .int x1), (2, .int x2)] [] (G, I19, L20) 0 0 _
        exact wp_sub [0, 1, 2] rfl H
      · rw [if_neg c15] at H
        refine wp_goto (off := 12) (tgt := 68) (by decide +kernel) (by decide) ?_
        refine wp_bipush (z := -2) (v := (-2)) (by decide +kernel) (by decide) ?_
        exact wp_iret (by decide +kernel) rfl (Nat.zero_le _) (Nat.zero_le _) ⟨_, _, _, rfl, rfl, H⟩
set_option maxRecDepth 20000 in
theorem b9_text_80 {X : XX} {G : GG} {I : Nat → Nat → Int32} {L : Nat → Nat → Int64} {h : Nat} {x1 : Int32} {x2 : Int32} {Q : Int32 → (Nat → Nat → Int32) → (Nat → Nat → Int64) → Prop} (ok : OK9 G h) (H : if (I h 8) = (0 : Int32) then (if (I h 5) = (0 : Int32) then (wpI X B9_text 141 [(0, .ref h), (1, .int x1), (2, .int x2)] [] G I L Q) else (if x1 = 0 then (wpV X B9_wallLine 0 [(0, .ref h)] [] G I L (fun I4 L5 => wpI X B9_text 80 [(0, .ref h), (1, .int x1), (2, .int x2)] [] G I4 L5 Q)) else (if x1 = 1 then (wpV X B9_dayLine 0 [(0, .ref h)] [] G I L (fun I8 L9 => wpI X B9_text 80 [(0, .ref h), (1, .int x1), (2, .int x2)] [] G I8 L9 Q)) else (wpV X B9_logLine 0 [(0, .ref h)] [] G I L (fun I11 L12 => wpI X B9_text 80 [(0, .ref h), (1, .int x1), (2, .int x2)] [] G I11 L12 Q))))) else (wpI X B9_text 141 [(0, .ref h), (1, .int x1), (2, .int x2)] [] G I L Q)) : wpI X B9_text 80 [(0, .ref h), (1, .int x1), (2, .int x2)] [] G I L Q := by
  refine wp_aload_n (z := 0) (i := 0) (r := (some h)) 0 (by decide +kernel) rfl rfl ?_
  refine wp_getI (idx := 114) (by decide +kernel) fl9_114 rfl ok.1 ?_
  refine wp_if_ne (off := 57) (tgt := 141) (by decide +kernel) (by decide) (fun c1 => ?_) (fun c1 => ?_)
  · rw [if_neg c1] at H
    exact wp_sub [0, 1, 2] rfl H
  · rw [if_pos c1] at H
    refine wp_aload_n (z := 0) (i := 0) (r := (some h)) 0 (by decide +kernel) rfl rfl ?_
    refine wp_getI (idx := 90) (by decide +kernel) fl9_90 rfl ok.1 ?_
    refine wp_if_eq (off := 50) (tgt := 141) (by decide +kernel) (by decide) (fun c2 => ?_) (fun c2 => ?_)
    · rw [if_pos c2] at H
      exact wp_sub [0, 1, 2] rfl H
    · rw [if_neg c2] at H
      refine wp_iload_n (z := 1) (i := 1) (x := x1) 1 (by decide +kernel) rfl rfl ?_
      by_cases c3 : x1 = 0
      · rw [if_pos c3] at H
        refine wp_lookup (dflt := 39) (ps := #[(0, 25), (1, 32)]) (len := 25) (off := 25) (tgt := 120) (by decide +kernel) rfl (by rw [c3]; decide) (by decide) ?_
        refine wp_aload_n (z := 0) (i := 0) (r := (some h)) 0 (by decide +kernel) rfl rfl ?_
        refine wp_callV (idx := 163) (B2 := B9_wallLine) (As := []) (a := h) (st := []) (by decide +kernel) m9_wallLine ml9_163 k9_wallLine e9_wallLine ck9 ok.1 (⟨Nat.le_of_ble_eq_true rfl, Nat.le_of_ble_eq_true rfl⟩ : rOK B9_text B9_wallLine) rfl (Nat.le_of_ble_eq_true rfl) (Nat.le_of_ble_eq_true rfl) ⟨Nat.le_of_ble_eq_true rfl, Nat.le_of_ble_eq_true rfl⟩ rfl (wp_mono H (fun v9 M9 hq9 => ?_))
        clear H
        obtain ⟨I4, L5, rfl, rfl, H⟩ := hq9
        show wp X B9_text 124 [(0, .ref h), (1, .int x1), (2, .int x2)] [] (G, I4, L5) 0 0 _
        refine wp_goto (off := -44) (tgt := 80) (by decide +kernel) (by decide) ?_
        exact wp_sub [0, 1, 2] rfl H
      rw [if_neg c3] at H
      by_cases c7 : x1 = 1
      · rw [if_pos c7] at H
        refine wp_lookup (dflt := 39) (ps := #[(0, 25), (1, 32)]) (len := 25) (off := 32) (tgt := 127) (by decide +kernel) rfl (by rw [c7]; decide) (by decide) ?_
        refine wp_aload_n (z := 0) (i := 0) (r := (some h)) 0 (by decide +kernel) rfl rfl ?_
        refine wp_callV (idx := 166) (B2 := B9_dayLine) (As := []) (a := h) (st := []) (by decide +kernel) m9_dayLine ml9_166 k9_dayLine e9_dayLine ck9 ok.1 (⟨Nat.le_of_ble_eq_true rfl, Nat.le_of_ble_eq_true rfl⟩ : rOK B9_text B9_dayLine) rfl (Nat.le_of_ble_eq_true rfl) (Nat.le_of_ble_eq_true rfl) ⟨Nat.le_of_ble_eq_true rfl, Nat.le_of_ble_eq_true rfl⟩ rfl (wp_mono H (fun v9 M9 hq9 => ?_))
        clear H
        obtain ⟨I8, L9, rfl, rfl, H⟩ := hq9
        show wp X B9_text 131 [(0, .ref h), (1, .int x1), (2, .int x2)] [] (G, I8, L9) 0 0 _
        refine wp_goto (off := -51) (tgt := 80) (by decide +kernel) (by decide) ?_
        exact wp_sub [0, 1, 2] rfl H
      rw [if_neg c7] at H
      refine wp_lookup (dflt := 39) (ps := #[(0, 25), (1, 32)]) (len := 25) (off := 39) (tgt := 134) (by decide +kernel) rfl (by rw [lv_osw c3 (by decide), lv_osw c7 (by decide)]; rfl) (by decide) ?_
      refine wp_aload_n (z := 0) (i := 0) (r := (some h)) 0 (by decide +kernel) rfl rfl ?_
      refine wp_callV (idx := 169) (B2 := B9_logLine) (As := []) (a := h) (st := []) (by decide +kernel) m9_logLine ml9_169 k9_logLine e9_logLine ck9 ok.1 (⟨Nat.le_of_ble_eq_true rfl, Nat.le_of_ble_eq_true rfl⟩ : rOK B9_text B9_logLine) rfl (Nat.le_of_ble_eq_true rfl) (Nat.le_of_ble_eq_true rfl) ⟨Nat.le_of_ble_eq_true rfl, Nat.le_of_ble_eq_true rfl⟩ rfl (wp_mono H (fun v9 M9 hq9 => ?_))
      clear H
      obtain ⟨I11, L12, rfl, rfl, H⟩ := hq9
      show wp X B9_text 138 [(0, .ref h), (1, .int x1), (2, .int x2)] [] (G, I11, L12) 0 0 _
      refine wp_goto (off := -58) (tgt := 80) (by decide +kernel) (by decide) ?_
      exact wp_sub [0, 1, 2] rfl H
set_option maxRecDepth 20000 in
theorem b9_text_141 {X : XX} {G : GG} {I : Nat → Nat → Int32} {L : Nat → Nat → Int64} {h : Nat} {x1 : Int32} {x2 : Int32} {Q : Int32 → (Nat → Nat → Int32) → (Nat → Nat → Int64) → Prop} (ok : OK9 G h) (H : if x1 = (0 : Int32) then (if (I (h + 1) 5) = (0 : Int32) then (if (I h 9) < ((I (h + 3) 0) * (I (h + 3) 1)) then (wpI X B9_text 183 [(0, .ref h), (1, .int x1), (2, .int x2)] [] G I L Q) else (wpV X B9_also 0 [(0, .ref h), (1, .int 4), (2, .int (I h 4))] [] G I L (fun I4 L5 => wpI X B9_text 183 [(0, .ref h), (1, .int x1), (2, .int x2)] [] G I4 L5 Q))) else (wpI X B9_text 183 [(0, .ref h), (1, .int x1), (2, .int x2)] [] G I L Q)) else (wpI X B9_text 183 [(0, .ref h), (1, .int x1), (2, .int x2)] [] G I L Q)) : wpI X B9_text 141 [(0, .ref h), (1, .int x1), (2, .int x2)] [] G I L Q := by
  refine wp_iload_n (z := 1) (i := 1) (x := x1) 1 (by decide +kernel) rfl rfl ?_
  refine wp_if_ne (off := 41) (tgt := 183) (by decide +kernel) (by decide) (fun c1 => ?_) (fun c1 => ?_)
  · rw [if_neg c1] at H
    exact wp_sub [0, 1, 2] rfl H
  · rw [if_pos c1] at H
    refine wp_aload_n (z := 0) (i := 0) (r := (some h)) 0 (by decide +kernel) rfl rfl ?_
    refine wp_getS (idx := 7) (q := (h + 1)) (by decide +kernel) fl9_7 rfl ok.1 (okr9_0 ok) ?_
    refine wp_iconst (z := 5) (v := 5) (by decide +kernel) (by decide) ?_
    refine wp_iald (j := 5) (by decide +kernel) (oks9_0 ok) (vin_c (by decide)) (by decide) ?_
    refine wp_if_ne (off := 32) (tgt := 183) (by decide +kernel) (by decide) (fun c2 => ?_) (fun c2 => ?_)
    · rw [if_neg c2] at H
      exact wp_sub [0, 1, 2] rfl H
    · rw [if_pos c2] at H
      refine wp_aload_n (z := 0) (i := 0) (r := (some h)) 0 (by decide +kernel) rfl rfl ?_
      refine wp_getI (idx := 136) (by decide +kernel) fl9_136 rfl ok.1 ?_
      refine wp_aload_n (z := 0) (i := 0) (r := (some h)) 0 (by decide +kernel) rfl rfl ?_
      refine wp_getS (idx := 17) (q := (h + 3)) (by decide +kernel) fl9_17 rfl ok.1 (okr9_10 ok) ?_
      refine wp_iconst (z := 0) (v := 0) (by decide +kernel) (by decide) ?_
      refine wp_iald (j := 0) (by decide +kernel) (oks9_10 ok) (vin_c (by decide)) (by decide) ?_
      refine wp_aload_n (z := 0) (i := 0) (r := (some h)) 0 (by decide +kernel) rfl rfl ?_
      refine wp_getS (idx := 17) (q := (h + 3)) (by decide +kernel) fl9_17 rfl ok.1 (okr9_10 ok) ?_
      refine wp_iconst (z := 1) (v := 1) (by decide +kernel) (by decide) ?_
      refine wp_iald (j := 1) (by decide +kernel) (oks9_10 ok) (vin_c (by decide)) (by decide) ?_
      refine wp_imul (by decide +kernel) ?_
      refine wp_icmp_lt (off := 12) (tgt := 183) (by decide +kernel) (by decide) (fun c3 => ?_) (fun c3 => ?_)
      · rw [if_pos c3] at H
        exact wp_sub [0, 1, 2] rfl H
      · rw [if_neg c3] at H
        refine wp_aload_n (z := 0) (i := 0) (r := (some h)) 0 (by decide +kernel) rfl rfl ?_
        refine wp_iconst (z := 4) (v := 4) (by decide +kernel) (by decide) ?_
        refine wp_aload_n (z := 0) (i := 0) (r := (some h)) 0 (by decide +kernel) rfl rfl ?_
        refine wp_getI (idx := 87) (by decide +kernel) fl9_87 rfl ok.1 ?_
        refine wp_callV (idx := 125) (B2 := B9_also) (As := [.int 4, .int (I h 4)]) (a := h) (st := []) (by decide +kernel) m9_also ml9_125 k9_also e9_also ck9 ok.1 (⟨Nat.le_of_ble_eq_true rfl, Nat.le_of_ble_eq_true rfl⟩ : rOK B9_text B9_also) rfl (Nat.le_of_ble_eq_true rfl) (Nat.le_of_ble_eq_true rfl) ⟨Nat.le_of_ble_eq_true rfl, Nat.le_of_ble_eq_true rfl⟩ rfl (wp_mono H (fun v9 M9 hq9 => ?_))
        clear H
        obtain ⟨I4, L5, rfl, rfl, H⟩ := hq9
        show wp X B9_text 183 [(0, .ref h), (1, .int x1), (2, .int x2)] [] (G, I4, L5) 0 0 _
        exact wp_sub [0, 1, 2] rfl H
set_option maxRecDepth 20000 in
theorem b9_text_183 {X : XX} {G : GG} {I : Nat → Nat → Int32} {L : Nat → Nat → Int64} {h : Nat} {x1 : Int32} {x2 : Int32} {Q : Int32 → (Nat → Nat → Int32) → (Nat → Nat → Int64) → Prop} (ok : OK9 G h) (H : if (I (h + 1) 5) = (0 : Int32) then (if x2 = (-1) then (vp_in x1 4096 ∧ (∀ u7, u7 = (I (h + 1) (cl x1)) → if x2 = (-1) then (vp_in x1 4096 ∧ (vp_in x1 4096 ∧ (∀ I9, I9 = up2 I (h + 1) (cl x1) ((I (h + 1) (cl x1)) + 1) → wpI X B9_text 228 [(0, .ref h), (1, .int x1), (3, .int u7), (4, .int 0)] [] G I9 L Q))) else (wpI X B9_text 228 [(0, .ref h), (1, .int x1), (3, .int u7), (4, .int 0)] [] G I L Q))) else (if x2 = (-1) then (vp_in x1 4096 ∧ (vp_in x1 4096 ∧ (∀ I4, I4 = up2 I (h + 1) (cl x1) ((I (h + 1) (cl x1)) + 1) → wpI X B9_text 228 [(0, .ref h), (1, .int x1), (3, .int x2), (4, .int 0)] [] G I4 L Q))) else (wpI X B9_text 228 [(0, .ref h), (1, .int x1), (3, .int x2), (4, .int 0)] [] G I L Q))) else (Q (-1) I L)) : wpI X B9_text 183 [(0, .ref h), (1, .int x1), (2, .int x2)] [] G I L Q := by
  refine wp_aload_n (z := 0) (i := 0) (r := (some h)) 0 (by decide +kernel) rfl rfl ?_
  refine wp_getS (idx := 7) (q := (h + 1)) (by decide +kernel) fl9_7 rfl ok.1 (okr9_0 ok) ?_
  refine wp_iconst (z := 5) (v := 5) (by decide +kernel) (by decide) ?_
  refine wp_iald (j := 5) (by decide +kernel) (oks9_0 ok) (vin_c (by decide)) (by decide) ?_
  refine wp_if_eq (off := 5) (tgt := 194) (by decide +kernel) (by decide) (fun c1 => ?_) (fun c1 => ?_)
  · rw [if_pos c1] at H
    refine wp_iload_n (z := 2) (i := 2) (x := x2) 2 (by decide +kernel) rfl rfl ?_
    refine wp_iconst (z := -1) (v := (-1)) (by decide +kernel) (by decide) ?_
    refine wp_icmp_ne (off := 12) (tgt := 208) (by decide +kernel) (by decide) (fun c2 => ?_) (fun c2 => ?_)
    · rw [if_neg c2] at H
      refine wp_iload_n (z := 2) (i := 2) (x := x2) 2 (by decide +kernel) rfl rfl ?_
      refine wp_istore_n (z := 3) (i := 3) (lv' := [(3, .int x2), (0, .ref h), (1, .int x1), (2, .int x2)]) (by decide +kernel) rfl (by decide) rfl ?_
      refine wp_iload_n (z := 2) (i := 2) (x := x2) 3 (by decide +kernel) rfl rfl ?_
      refine wp_iconst (z := -1) (v := (-1)) (by decide +kernel) (by decide) ?_
      refine wp_icmp_ne (off := 13) (tgt := 225) (by decide +kernel) (by decide) (fun c3 => ?_) (fun c3 => ?_)
      · rw [if_neg c3] at H
        refine wp_iconst (z := 0) (v := 0) (by decide +kernel) (by decide) ?_
        refine wp_istore (i := 4) (lv' := [(4, .int 0), (3, .int x2), (0, .ref h), (1, .int x1), (2, .int x2)]) (by decide +kernel) (by decide) rfl ?_
        exact wp_sub [2, 3, 1, 0] rfl H
      · rw [if_pos c3] at H
        refine wp_aload_n (z := 0) (i := 0) (r := (some h)) 1 (by decide +kernel) rfl rfl ?_
        refine wp_getS (idx := 7) (q := (h + 1)) (by decide +kernel) fl9_7 rfl ok.1 (okr9_0 ok) ?_
        refine wp_iload_n (z := 1) (i := 1) (x := x1) 2 (by decide +kernel) rfl rfl ?_
        refine wp_dup2 (by decide +kernel) rfl rfl ?_
        obtain ⟨o6, H⟩ := H
        refine wp_iald (j := (cl x1)) (by decide +kernel) (oks9_0 ok) o6 rfl ?_
        refine wp_iconst (z := 1) (v := 1) (by decide +kernel) (by decide) ?_
        refine wp_iadd (by decide +kernel) ?_
        obtain ⟨o5, H⟩ := H
        refine wp_iast (j := (cl x1)) (by decide +kernel) (oks9_0 ok) o5 rfl ?_
        refine wp_memI (fun I4 eI4 => ?_)
        replace H := H I4 eI4
        refine wp_iconst (z := 0) (v := 0) (by decide +kernel) (by decide) ?_
        refine wp_istore (i := 4) (lv' := [(4, .int 0), (3, .int x2), (0, .ref h), (1, .int x1), (2, .int x2)]) (by decide +kernel) (by decide) rfl ?_
        exact wp_sub [2, 3, 1, 0] rfl H
    · rw [if_pos c2] at H
      refine wp_aload_n (z := 0) (i := 0) (r := (some h)) 0 (by decide +kernel) rfl rfl ?_
      refine wp_getS (idx := 7) (q := (h + 1)) (by decide +kernel) fl9_7 rfl ok.1 (okr9_0 ok) ?_
      refine wp_iload_n (z := 1) (i := 1) (x := x1) 1 (by decide +kernel) rfl rfl ?_
      obtain ⟨o12, H⟩ := H
      refine wp_iald (j := (cl x1)) (by decide +kernel) (oks9_0 ok) o12 rfl ?_
      refine wp_goto (off := 4) (tgt := 209) (by decide +kernel) (by decide) ?_
      refine wp_topi (fun u7 eu7 => ?_)
      replace H := H u7 eu7
      refine wp_istore_n (z := 3) (i := 3) (lv' := [(3, .int u7), (0, .ref h), (1, .int x1), (2, .int x2)]) (by decide +kernel) rfl (by decide) rfl ?_
      refine wp_iload_n (z := 2) (i := 2) (x := x2) 3 (by decide +kernel) rfl rfl ?_
      refine wp_iconst (z := -1) (v := (-1)) (by decide +kernel) (by decide) ?_
      refine wp_icmp_ne (off := 13) (tgt := 225) (by decide +kernel) (by decide) (fun c8 => ?_) (fun c8 => ?_)
      · rw [if_neg c8] at H
        refine wp_iconst (z := 0) (v := 0) (by decide +kernel) (by decide) ?_
        refine wp_istore (i := 4) (lv' := [(4, .int 0), (3, .int u7), (0, .ref h), (1, .int x1), (2, .int x2)]) (by decide +kernel) (by decide) rfl ?_
        exact wp_sub [2, 3, 1, 0] rfl H
      · rw [if_pos c8] at H
        refine wp_aload_n (z := 0) (i := 0) (r := (some h)) 1 (by decide +kernel) rfl rfl ?_
        refine wp_getS (idx := 7) (q := (h + 1)) (by decide +kernel) fl9_7 rfl ok.1 (okr9_0 ok) ?_
        refine wp_iload_n (z := 1) (i := 1) (x := x1) 2 (by decide +kernel) rfl rfl ?_
        refine wp_dup2 (by decide +kernel) rfl rfl ?_
        obtain ⟨o11, H⟩ := H
        refine wp_iald (j := (cl x1)) (by decide +kernel) (oks9_0 ok) o11 rfl ?_
        refine wp_iconst (z := 1) (v := 1) (by decide +kernel) (by decide) ?_
        refine wp_iadd (by decide +kernel) ?_
        obtain ⟨o10, H⟩ := H
        refine wp_iast (j := (cl x1)) (by decide +kernel) (oks9_0 ok) o10 rfl ?_
        refine wp_memI (fun I9 eI9 => ?_)
        replace H := H I9 eI9
        refine wp_iconst (z := 0) (v := 0) (by decide +kernel) (by decide) ?_
        refine wp_istore (i := 4) (lv' := [(4, .int 0), (3, .int u7), (0, .ref h), (1, .int x1), (2, .int x2)]) (by decide +kernel) (by decide) rfl ?_
        exact wp_sub [2, 3, 1, 0] rfl H
  · rw [if_neg c1] at H
    refine wp_iconst (z := -1) (v := (-1)) (by decide +kernel) (by decide) ?_
    exact wp_iret (by decide +kernel) rfl (Nat.zero_le _) (Nat.zero_le _) ⟨_, _, _, rfl, rfl, H⟩
set_option maxRecDepth 20000 in
theorem b9_text_228 {X : XX} {G : GG} {I : Nat → Nat → Int32} {L : Nat → Nat → Int64} {h : Nat} {x1 : Int32} {x3 : Int32} {x4 : Int32} {Q : Int32 → (Nat → Nat → Int32) → (Nat → Nat → Int64) → Prop} (ok : OK9 G h) (H : if (v9_sizeOf x1) ≤ x4 then (Q x3 I L) else (vp_in x4 121 ∧ (vp_in ((v9_placeOf x1 x3) + x4) 4096 ∧ (∀ I2, I2 = up2 I (h + 1) (cl ((v9_placeOf x1 x3) + x4)) (I (h + 3) (cl x4)) → wpI X B9_text 228 [(0, .ref h), (1, .int x1), (3, .int x3), (4, .int (x4 + 1))] [] G I2 L Q)))) : wpI X B9_text 228 [(0, .ref h), (1, .int x1), (3, .int x3), (4, .int x4)] [] G I L Q := by
  refine wp_iload (i := 4) (x := x4) 3 (by decide +kernel) rfl ?_
  refine wp_iload_n (z := 1) (i := 1) (x := x1) 1 (by decide +kernel) rfl rfl ?_
  refine wp_callS (idx := 172) (B2 := B9_sizeOf) (As := [.int x1]) (st := [.int x4]) (by decide +kernel) m9_sizeOf ml9_172 k9_sizeOf (⟨Nat.le_of_ble_eq_true rfl, Nat.le_of_ble_eq_true rfl⟩ : rOK B9_text B9_sizeOf) rfl (Nat.le_of_ble_eq_true rfl) (Nat.le_of_ble_eq_true rfl) ⟨Nat.le_of_ble_eq_true rfl, Nat.le_of_ble_eq_true rfl⟩ rfl (wp_mono (b9_sizeOf (Q := (fun r I' L' => r = (v9_sizeOf x1) ∧ I = I' ∧ L = L'))  ⟨rfl, rfl, rfl⟩) (fun v9 M9 hq9 => ?_))
  obtain ⟨_, _, _, rfl, rfl, rfl, rfl, rfl⟩ := hq9
  show wp X B9_text 234 [(0, .ref h), (1, .int x1), (3, .int x3), (4, .int x4)] [.int (v9_sizeOf x1), .int x4] (G, I, L) 0 0 _
  refine wp_icmp_ge (off := 29) (tgt := 263) (by decide +kernel) (by decide) (fun c1 => ?_) (fun c1 => ?_)
  · rw [if_pos c1] at H
    refine wp_iload_n (z := 3) (i := 3) (x := x3) 2 (by decide +kernel) rfl rfl ?_
    exact wp_iret (by decide +kernel) rfl (Nat.zero_le _) (Nat.zero_le _) ⟨_, _, _, rfl, rfl, H⟩
  · rw [if_neg c1] at H
    refine wp_aload_n (z := 0) (i := 0) (r := (some h)) 0 (by decide +kernel) rfl rfl ?_
    refine wp_getS (idx := 7) (q := (h + 1)) (by decide +kernel) fl9_7 rfl ok.1 (okr9_0 ok) ?_
    refine wp_iload_n (z := 1) (i := 1) (x := x1) 1 (by decide +kernel) rfl rfl ?_
    refine wp_iload_n (z := 3) (i := 3) (x := x3) 2 (by decide +kernel) rfl rfl ?_
    refine wp_callS (idx := 175) (B2 := B9_placeOf) (As := [.int x1, .int x3]) (st := [.ref (h + 1)]) (by decide +kernel) m9_placeOf ml9_175 k9_placeOf (⟨Nat.le_of_ble_eq_true rfl, Nat.le_of_ble_eq_true rfl⟩ : rOK B9_text B9_placeOf) rfl (Nat.le_of_ble_eq_true rfl) (Nat.le_of_ble_eq_true rfl) ⟨Nat.le_of_ble_eq_true rfl, Nat.le_of_ble_eq_true rfl⟩ rfl (wp_mono (b9_placeOf (Q := (fun r I' L' => r = (v9_placeOf x1 x3) ∧ I = I' ∧ L = L'))  ⟨rfl, rfl, rfl⟩) (fun v9 M9 hq9 => ?_))
    obtain ⟨_, _, _, rfl, rfl, rfl, rfl, rfl⟩ := hq9
    show wp X B9_text 246 [(0, .ref h), (1, .int x1), (3, .int x3), (4, .int x4)] [.int (v9_placeOf x1 x3), .ref (h + 1)] (G, I, L) 0 0 _
    refine wp_iload (i := 4) (x := x4) 3 (by decide +kernel) rfl ?_
    refine wp_iadd (by decide +kernel) ?_
    refine wp_aload_n (z := 0) (i := 0) (r := (some h)) 0 (by decide +kernel) rfl rfl ?_
    refine wp_getS (idx := 17) (q := (h + 3)) (by decide +kernel) fl9_17 rfl ok.1 (okr9_10 ok) ?_
    refine wp_iload (i := 4) (x := x4) 3 (by decide +kernel) rfl ?_
    obtain ⟨o4, H⟩ := H
    refine wp_iald (j := (cl x4)) (by decide +kernel) (oks9_10 ok) o4 rfl ?_
    obtain ⟨o3, H⟩ := H
    refine wp_iast (j := (cl ((v9_placeOf x1 x3) + x4))) (by decide +kernel) (oks9_0 ok) o3 rfl ?_
    refine wp_memI (fun I2 eI2 => ?_)
    replace H := H I2 eI2
    refine wp_iinc (i := 4) (z := 1) (v := 1) (lv' := [(4, .int (x4 + 1)), (0, .ref h), (1, .int x1), (3, .int x3)]) 3 (by decide +kernel) rfl (by decide) (by decide) rfl ?_
    refine wp_goto (off := -32) (tgt := 228) (by decide +kernel) (by decide) ?_
    exact wp_sub [1, 2, 3, 0] rfl H
/-! DeafWallModel.isWall(I)Z -/
set_option maxRecDepth 20000 in
theorem b9_isWall {X : XX} {G : GG} {I : Nat → Nat → Int32} {L : Nat → Nat → Int64} {h : Nat} {x1 : Int32} {Q : Int32 → (Nat → Nat → Int32) → (Nat → Nat → Int64) → Prop} (ok : OK9 G h) (H : p9_isOf I h 0 x1 ∧ (if (v9_isOf I h 0 x1) = (0 : Int32) then (Q 0 I L) else (∀ I2, I2 = up2 I h 11 (v9_placeOf 0 x1) → vp_in (I2 h 11) 4096 ∧ (∀ I3, I3 = up2 I2 h 12 (I2 (h + 1) (cl (I2 h 11))) → vp_in ((I3 h 11) + 1) 4096 ∧ (∀ I4, I4 = up2 I3 h 13 ((I3 h 12) * (I3 (h + 1) (cl ((I3 h 11) + 1)))) → vp_in ((I4 h 11) + 2) 4096 ∧ (∀ I5, I5 = up2 I4 h 14 (I4 (h + 1) (cl ((I4 h 11) + 2))) → vp_in ((I5 h 11) + 3) 4096 ∧ (∀ I6, I6 = up2 I5 h 15 (I5 (h + 1) (cl ((I5 h 11) + 3))) → vp_in ((I6 h 11) + 4) 4096 ∧ (∀ I7, I7 = up2 I6 h 16 (I6 (h + 1) (cl ((I6 h 11) + 4))) → Q 1 I7 L)))))))) : wpI X B9_isWall 0 [(0, .ref h), (1, .int x1)] [] G I L Q := by
  refine wp_aload_n (z := 0) (i := 0) (r := (some h)) 0 (by decide +kernel) rfl rfl ?_
  refine wp_iconst (z := 0) (v := 0) (by decide +kernel) (by decide) ?_
  refine wp_iload_n (z := 1) (i := 1) (x := x1) 1 (by decide +kernel) rfl rfl ?_
  obtain ⟨o14, H⟩ := H
  refine wp_callV (idx := 156) (B2 := B9_isOf) (As := [.int 0, .int x1]) (a := h) (st := []) (by decide +kernel) m9_isOf ml9_156 k9_isOf e9_isOf ck9 ok.1 (⟨Nat.le_of_ble_eq_true rfl, Nat.le_of_ble_eq_true rfl⟩ : rOK B9_isWall B9_isOf) rfl (Nat.le_of_ble_eq_true rfl) (Nat.le_of_ble_eq_true rfl) ⟨Nat.le_of_ble_eq_true rfl, Nat.le_of_ble_eq_true rfl⟩ rfl (wp_mono (b9_isOf (Q := (fun r I' L' => r = (v9_isOf I h 0 x1) ∧ I = I' ∧ L = L')) ok o14 ⟨rfl, rfl, rfl⟩) (fun v9 M9 hq9 => ?_))
  obtain ⟨_, _, _, rfl, rfl, rfl, rfl, rfl⟩ := hq9
  show wp X B9_isWall 6 [(0, .ref h), (1, .int x1)] [.int (v9_isOf I h 0 x1)] (G, I, L) 0 0 _
  refine wp_if_ne (off := 5) (tgt := 11) (by decide +kernel) (by decide) (fun c1 => ?_) (fun c1 => ?_)
  · rw [if_neg c1] at H
    refine wp_aload_n (z := 0) (i := 0) (r := (some h)) 0 (by decide +kernel) rfl rfl ?_
    refine wp_iconst (z := 0) (v := 0) (by decide +kernel) (by decide) ?_
    refine wp_iload_n (z := 1) (i := 1) (x := x1) 1 (by decide +kernel) rfl rfl ?_
    refine wp_callS (idx := 175) (B2 := B9_placeOf) (As := [.int 0, .int x1]) (st := [.ref h]) (by decide +kernel) m9_placeOf ml9_175 k9_placeOf (⟨Nat.le_of_ble_eq_true rfl, Nat.le_of_ble_eq_true rfl⟩ : rOK B9_isWall B9_placeOf) rfl (Nat.le_of_ble_eq_true rfl) (Nat.le_of_ble_eq_true rfl) ⟨Nat.le_of_ble_eq_true rfl, Nat.le_of_ble_eq_true rfl⟩ rfl (wp_mono (b9_placeOf (Q := (fun r I' L' => r = (v9_placeOf 0 x1) ∧ I = I' ∧ L = L'))  ⟨rfl, rfl, rfl⟩) (fun v9 M9 hq9 => ?_))
    obtain ⟨_, _, _, rfl, rfl, rfl, rfl, rfl⟩ := hq9
    show wp X B9_isWall 17 [(0, .ref h), (1, .int x1)] [.int (v9_placeOf 0 x1), .ref h] (G, I, L) 0 0 _
    refine wp_putI (idx := 178) (by decide +kernel) fl9_178 rfl ok.1 ?_
    refine wp_memI (fun I2 eI2 => ?_)
    replace H := H I2 eI2
    refine wp_aload_n (z := 0) (i := 0) (r := (some h)) 0 (by decide +kernel) rfl rfl ?_
    refine wp_aload_n (z := 0) (i := 0) (r := (some h)) 0 (by decide +kernel) rfl rfl ?_
    refine wp_getS (idx := 7) (q := (h + 1)) (by decide +kernel) fl9_7 rfl ok.1 (okr9_0 ok) ?_
    refine wp_aload_n (z := 0) (i := 0) (r := (some h)) 0 (by decide +kernel) rfl rfl ?_
    refine wp_getI (idx := 178) (by decide +kernel) fl9_178 rfl ok.1 ?_
    obtain ⟨o12, H⟩ := H
    refine wp_iald (j := (cl (I2 h 11))) (by decide +kernel) (oks9_0 ok) o12 rfl ?_
    refine wp_putI (idx := 181) (by decide +kernel) fl9_181 rfl ok.1 ?_
    refine wp_memI (fun I3 eI3 => ?_)
    replace H := H I3 eI3
    refine wp_aload_n (z := 0) (i := 0) (r := (some h)) 0 (by decide +kernel) rfl rfl ?_
    refine wp_aload_n (z := 0) (i := 0) (r := (some h)) 0 (by decide +kernel) rfl rfl ?_
    refine wp_getI (idx := 181) (by decide +kernel) fl9_181 rfl ok.1 ?_
    refine wp_aload_n (z := 0) (i := 0) (r := (some h)) 0 (by decide +kernel) rfl rfl ?_
    refine wp_getS (idx := 7) (q := (h + 1)) (by decide +kernel) fl9_7 rfl ok.1 (okr9_0 ok) ?_
    refine wp_aload_n (z := 0) (i := 0) (r := (some h)) 0 (by decide +kernel) rfl rfl ?_
    refine wp_getI (idx := 178) (by decide +kernel) fl9_178 rfl ok.1 ?_
    refine wp_iconst (z := 1) (v := 1) (by decide +kernel) (by decide) ?_
    refine wp_iadd (by decide +kernel) ?_
    obtain ⟨o11, H⟩ := H
    refine wp_iald (j := (cl ((I3 h 11) + 1))) (by decide +kernel) (oks9_0 ok) o11 rfl ?_
    refine wp_imul (by decide +kernel) ?_
    refine wp_putI (idx := 184) (by decide +kernel) fl9_184 rfl ok.1 ?_
    refine wp_memI (fun I4 eI4 => ?_)
    replace H := H I4 eI4
    refine wp_aload_n (z := 0) (i := 0) (r := (some h)) 0 (by decide +kernel) rfl rfl ?_
    refine wp_aload_n (z := 0) (i := 0) (r := (some h)) 0 (by decide +kernel) rfl rfl ?_
    refine wp_getS (idx := 7) (q := (h + 1)) (by decide +kernel) fl9_7 rfl ok.1 (okr9_0 ok) ?_
    refine wp_aload_n (z := 0) (i := 0) (r := (some h)) 0 (by decide +kernel) rfl rfl ?_
    refine wp_getI (idx := 178) (by decide +kernel) fl9_178 rfl ok.1 ?_
    refine wp_iconst (z := 2) (v := 2) (by decide +kernel) (by decide) ?_
    refine wp_iadd (by decide +kernel) ?_
    obtain ⟨o10, H⟩ := H
    refine wp_iald (j := (cl ((I4 h 11) + 2))) (by decide +kernel) (oks9_0 ok) o10 rfl ?_
    refine wp_putI (idx := 187) (by decide +kernel) fl9_187 rfl ok.1 ?_
    refine wp_memI (fun I5 eI5 => ?_)
    replace H := H I5 eI5
    refine wp_aload_n (z := 0) (i := 0) (r := (some h)) 0 (by decide +kernel) rfl rfl ?_
    refine wp_aload_n (z := 0) (i := 0) (r := (some h)) 0 (by decide +kernel) rfl rfl ?_
    refine wp_getS (idx := 7) (q := (h + 1)) (by decide +kernel) fl9_7 rfl ok.1 (okr9_0 ok) ?_
    refine wp_aload_n (z := 0) (i := 0) (r := (some h)) 0 (by decide +kernel) rfl rfl ?_
    refine wp_getI (idx := 178) (by decide +kernel) fl9_178 rfl ok.1 ?_
    refine wp_iconst (z := 3) (v := 3) (by decide +kernel) (by decide) ?_
    refine wp_iadd (by decide +kernel) ?_
    obtain ⟨o9, H⟩ := H
    refine wp_iald (j := (cl ((I5 h 11) + 3))) (by decide +kernel) (oks9_0 ok) o9 rfl ?_
    refine wp_putI (idx := 190) (by decide +kernel) fl9_190 rfl ok.1 ?_
    refine wp_memI (fun I6 eI6 => ?_)
    replace H := H I6 eI6
    refine wp_aload_n (z := 0) (i := 0) (r := (some h)) 0 (by decide +kernel) rfl rfl ?_
    refine wp_aload_n (z := 0) (i := 0) (r := (some h)) 0 (by decide +kernel) rfl rfl ?_
    refine wp_getS (idx := 7) (q := (h + 1)) (by decide +kernel) fl9_7 rfl ok.1 (okr9_0 ok) ?_
    refine wp_aload_n (z := 0) (i := 0) (r := (some h)) 0 (by decide +kernel) rfl rfl ?_
    refine wp_getI (idx := 178) (by decide +kernel) fl9_178 rfl ok.1 ?_
    refine wp_iconst (z := 4) (v := 4) (by decide +kernel) (by decide) ?_
    refine wp_iadd (by decide +kernel) ?_
    obtain ⟨o8, H⟩ := H
    refine wp_iald (j := (cl ((I6 h 11) + 4))) (by decide +kernel) (oks9_0 ok) o8 rfl ?_
    refine wp_putI (idx := 193) (by decide +kernel) fl9_193 rfl ok.1 ?_
    refine wp_memI (fun I7 eI7 => ?_)
    replace H := H I7 eI7
    refine wp_iconst (z := 1) (v := 1) (by decide +kernel) (by decide) ?_
    exact wp_zret (by decide +kernel) rfl (by decide) (Nat.zero_le _) (Nat.zero_le _) ⟨_, _, _, rfl, rfl, H⟩
  · rw [if_pos c1] at H
    refine wp_iconst (z := 0) (v := 0) (by decide +kernel) (by decide) ?_
    exact wp_zret (by decide +kernel) rfl (by decide) (Nat.zero_le _) (Nat.zero_le _) ⟨_, _, _, rfl, rfl, H⟩
/-! DeafWallModel.wall(II)I -/
set_option maxRecDepth 20000 in
theorem b9_wall {X : XX} {G : GG} {I : Nat → Nat → Int32} {L : Nat → Nat → Int64} {h : Nat} {x1 : Int32} {x2 : Int32} {Q : Int32 → (Nat → Nat → Int32) → (Nat → Nat → Int64) → Prop} (ok : OK9 G h) (H : wpI X B9_isWall 0 [(0, .ref h), (1, .int x1)] [] G I L (fun r3 I1 L2 => if r3 = (0 : Int32) then (Q (-1) I1 L2) else (if (v9_isIn x2 0 4) = (0 : Int32) then (∀ u6, u6 = (x2 - x2 / 10 * 10) → if (x2 / 10) = 1 then (if (v9_isFeeler I1 h u6) = (0 : Int32) then (Q (-1) I1 L2) else (p9_cellTold0 I1 h u6 ∧ (Q (v9_cellTold0 I1 h u6) I1 L2))) else (if (x2 / 10) = 2 then (if (v9_isFeeler I1 h u6) = (0 : Int32) then (Q (-1) I1 L2) else (p9_tenderOf I1 h u6 ∧ (Q (v9_tenderOf I1 h u6) I1 L2))) else (if (x2 / 10) = 3 then (if (v9_isTale I1 h u6) = (0 : Int32) then (Q (-1) I1 L2) else (p9_longOf I1 h u6 ∧ (Q (v9_longOf I1 h u6) I1 L2))) else (if (x2 / 10) = 4 then (if (v9_isTale I1 h u6) = (0 : Int32) then (Q (-1) I1 L2) else (vp_in ((((I1 h 11) + 17) + 1) + (2 * u6)) 4096 ∧ (Q (I1 (h + 1) (cl ((((I1 h 11) + 17) + 1) + (2 * u6)))) I1 L2))) else (if x2 < 100 then (Q (-1) I1 L2) else (if (v9_isCell I1 h (x2 - 100)) = (0 : Int32) then (Q (-1) I1 L2) else (p9_deadTold I1 h (x2 - 100) ∧ (Q (v9_deadTold I1 h (x2 - 100)) I1 L2)))))))) else (vp_in ((I1 h 11) + x2) 4096 ∧ (Q (I1 (h + 1) (cl ((I1 h 11) + x2))) I1 L2))))) : wpI X B9_wall 0 [(0, .ref h), (1, .int x1), (2, .int x2)] [] G I L Q := by
  refine wp_aload_n (z := 0) (i := 0) (r := (some h)) 0 (by decide +kernel) rfl rfl ?_
  refine wp_iload_n (z := 1) (i := 1) (x := x1) 1 (by decide +kernel) rfl rfl ?_
  refine wp_callV (idx := 196) (B2 := B9_isWall) (As := [.int x1]) (a := h) (st := []) (by decide +kernel) m9_isWall ml9_196 k9_isWall e9_isWall ck9 ok.1 (⟨Nat.le_of_ble_eq_true rfl, Nat.le_of_ble_eq_true rfl⟩ : rOK B9_wall B9_isWall) rfl (Nat.le_of_ble_eq_true rfl) (Nat.le_of_ble_eq_true rfl) ⟨Nat.le_of_ble_eq_true rfl, Nat.le_of_ble_eq_true rfl⟩ rfl (wp_mono H (fun v9 M9 hq9 => ?_))
  clear H
  obtain ⟨r3, I1, L2, rfl, rfl, H⟩ := hq9
  show wp X B9_wall 5 [(0, .ref h), (1, .int x1), (2, .int x2)] [.int r3] (G, I1, L2) 0 0 _
  refine wp_if_ne (off := 5) (tgt := 10) (by decide +kernel) (by decide) (fun c4 => ?_) (fun c4 => ?_)
  · rw [if_neg c4] at H
    refine wp_iload_n (z := 2) (i := 2) (x := x2) 2 (by decide +kernel) rfl rfl ?_
    refine wp_iconst (z := 0) (v := 0) (by decide +kernel) (by decide) ?_
    refine wp_iconst (z := 4) (v := 4) (by decide +kernel) (by decide) ?_
    refine wp_callS (idx := 121) (B2 := B9_isIn) (As := [.int x2, .int 0, .int 4]) (st := []) (by decide +kernel) m9_isIn ml9_121 k9_isIn (⟨Nat.le_of_ble_eq_true rfl, Nat.le_of_ble_eq_true rfl⟩ : rOK B9_wall B9_isIn) rfl (Nat.le_of_ble_eq_true rfl) (Nat.le_of_ble_eq_true rfl) ⟨Nat.le_of_ble_eq_true rfl, Nat.le_of_ble_eq_true rfl⟩ rfl (wp_mono (b9_isIn (Q := (fun r I' L' => r = (v9_isIn x2 0 4) ∧ I1 = I' ∧ L2 = L'))  ⟨rfl, rfl, rfl⟩) (fun v9 M9 hq9 => ?_))
    obtain ⟨_, _, _, rfl, rfl, rfl, rfl, rfl⟩ := hq9
    show wp X B9_wall 16 [(0, .ref h), (1, .int x1), (2, .int x2)] [.int (v9_isIn x2 0 4)] (G, I1, L2) 0 0 _
    refine wp_if_eq (off := 15) (tgt := 31) (by decide +kernel) (by decide) (fun c5 => ?_) (fun c5 => ?_)
    · rw [if_pos c5] at H
      refine wp_iload_n (z := 2) (i := 2) (x := x2) 2 (by decide +kernel) rfl rfl ?_
      refine wp_bipush (z := 10) (v := 10) (by decide +kernel) (by decide) ?_
      refine wp_irem (by decide +kernel) (by decide) ?_
      refine wp_topi (fun u6 eu6 => ?_)
      replace H := H u6 eu6
      refine wp_istore_n (z := 3) (i := 3) (lv' := [(3, .int u6), (0, .ref h), (1, .int x1), (2, .int x2)]) (by decide +kernel) rfl (by decide) rfl ?_
      refine wp_iload_n (z := 2) (i := 2) (x := x2) 3 (by decide +kernel) rfl rfl ?_
      refine wp_bipush (z := 10) (v := 10) (by decide +kernel) (by decide) ?_
      refine wp_idiv (by decide +kernel) (by decide) ?_
      by_cases c7 : (x2 / 10) = 1
      · rw [if_pos c7] at H
        refine wp_tableIn (dflt := 117) (lo := 1) (hi := 4) (offs := #[32, 50, 68, 86]) (len := 32) (off := 32) (tgt := 72) (by decide +kernel) (by rw [c7]; decide) (by rw [c7]; decide) (by rw [c7]; rfl) (by decide) ?_
        refine wp_aload_n (z := 0) (i := 0) (r := (some h)) 1 (by decide +kernel) rfl rfl ?_
        refine wp_iload_n (z := 3) (i := 3) (x := u6) 0 (by decide +kernel) rfl rfl ?_
        refine wp_callV (idx := 199) (B2 := B9_isFeeler) (As := [.int u6]) (a := h) (st := []) (by decide +kernel) m9_isFeeler ml9_199 k9_isFeeler e9_isFeeler ck9 ok.1 (⟨Nat.le_of_ble_eq_true rfl, Nat.le_of_ble_eq_true rfl⟩ : rOK B9_wall B9_isFeeler) rfl (Nat.le_of_ble_eq_true rfl) (Nat.le_of_ble_eq_true rfl) ⟨Nat.le_of_ble_eq_true rfl, Nat.le_of_ble_eq_true rfl⟩ rfl (wp_mono (b9_isFeeler (Q := (fun r I' L' => r = (v9_isFeeler I1 h u6) ∧ I1 = I' ∧ L2 = L')) ok ⟨rfl, rfl, rfl⟩) (fun v9 M9 hq9 => ?_))
        obtain ⟨_, _, _, rfl, rfl, rfl, rfl, rfl⟩ := hq9
        show wp X B9_wall 77 [(3, .int u6), (0, .ref h), (1, .int x1), (2, .int x2)] [.int (v9_isFeeler I1 h u6)] (G, I1, L2) 0 0 _
        refine wp_if_eq (off := 11) (tgt := 88) (by decide +kernel) (by decide) (fun c8 => ?_) (fun c8 => ?_)
        · rw [if_pos c8] at H
          refine wp_iconst (z := -1) (v := (-1)) (by decide +kernel) (by decide) ?_
          exact wp_iret (by decide +kernel) rfl (Nat.zero_le _) (Nat.zero_le _) ⟨_, _, _, rfl, rfl, H⟩
        · rw [if_neg c8] at H
          refine wp_aload_n (z := 0) (i := 0) (r := (some h)) 1 (by decide +kernel) rfl rfl ?_
          refine wp_iload_n (z := 3) (i := 3) (x := u6) 0 (by decide +kernel) rfl rfl ?_
          obtain ⟨o9, H⟩ := H
          refine wp_callV (idx := 202) (B2 := B9_cellTold0) (As := [.int u6]) (a := h) (st := []) (by decide +kernel) m9_cellTold0 ml9_202 k9_cellTold0 e9_cellTold0 ck9 ok.1 (⟨Nat.le_of_ble_eq_true rfl, Nat.le_of_ble_eq_true rfl⟩ : rOK B9_wall B9_cellTold0) rfl (Nat.le_of_ble_eq_true rfl) (Nat.le_of_ble_eq_true rfl) ⟨Nat.le_of_ble_eq_true rfl, Nat.le_of_ble_eq_true rfl⟩ rfl (wp_mono (b9_cellTold0 (Q := (fun r I' L' => r = (v9_cellTold0 I1 h u6) ∧ I1 = I' ∧ L2 = L')) ok o9 ⟨rfl, rfl, rfl⟩) (fun v9 M9 hq9 => ?_))
          obtain ⟨_, _, _, rfl, rfl, rfl, rfl, rfl⟩ := hq9
          show wp X B9_wall 85 [(3, .int u6), (0, .ref h), (1, .int x1), (2, .int x2)] [.int (v9_cellTold0 I1 h u6)] (G, I1, L2) 0 0 _
          refine wp_goto (off := 4) (tgt := 89) (by decide +kernel) (by decide) ?_
          exact wp_iret (by decide +kernel) rfl (Nat.zero_le _) (Nat.zero_le _) ⟨_, _, _, rfl, rfl, H⟩
      rw [if_neg c7] at H
      by_cases c11 : (x2 / 10) = 2
      · rw [if_pos c11] at H
        refine wp_tableIn (dflt := 117) (lo := 1) (hi := 4) (offs := #[32, 50, 68, 86]) (len := 32) (off := 50) (tgt := 90) (by decide +kernel) (by rw [c11]; decide) (by rw [c11]; decide) (by rw [c11]; rfl) (by decide) ?_
        refine wp_aload_n (z := 0) (i := 0) (r := (some h)) 1 (by decide +kernel) rfl rfl ?_
        refine wp_iload_n (z := 3) (i := 3) (x := u6) 0 (by decide +kernel) rfl rfl ?_
        refine wp_callV (idx := 199) (B2 := B9_isFeeler) (As := [.int u6]) (a := h) (st := []) (by decide +kernel) m9_isFeeler ml9_199 k9_isFeeler e9_isFeeler ck9 ok.1 (⟨Nat.le_of_ble_eq_true rfl, Nat.le_of_ble_eq_true rfl⟩ : rOK B9_wall B9_isFeeler) rfl (Nat.le_of_ble_eq_true rfl) (Nat.le_of_ble_eq_true rfl) ⟨Nat.le_of_ble_eq_true rfl, Nat.le_of_ble_eq_true rfl⟩ rfl (wp_mono (b9_isFeeler (Q := (fun r I' L' => r = (v9_isFeeler I1 h u6) ∧ I1 = I' ∧ L2 = L')) ok ⟨rfl, rfl, rfl⟩) (fun v9 M9 hq9 => ?_))
        obtain ⟨_, _, _, rfl, rfl, rfl, rfl, rfl⟩ := hq9
        show wp X B9_wall 95 [(3, .int u6), (0, .ref h), (1, .int x1), (2, .int x2)] [.int (v9_isFeeler I1 h u6)] (G, I1, L2) 0 0 _
        refine wp_if_eq (off := 11) (tgt := 106) (by decide +kernel) (by decide) (fun c12 => ?_) (fun c12 => ?_)
        · rw [if_pos c12] at H
          refine wp_iconst (z := -1) (v := (-1)) (by decide +kernel) (by decide) ?_
          exact wp_iret (by decide +kernel) rfl (Nat.zero_le _) (Nat.zero_le _) ⟨_, _, _, rfl, rfl, H⟩
        · rw [if_neg c12] at H
          refine wp_aload_n (z := 0) (i := 0) (r := (some h)) 1 (by decide +kernel) rfl rfl ?_
          refine wp_iload_n (z := 3) (i := 3) (x := u6) 0 (by decide +kernel) rfl rfl ?_
          obtain ⟨o13, H⟩ := H
          refine wp_callV (idx := 205) (B2 := B9_tenderOf) (As := [.int u6]) (a := h) (st := []) (by decide +kernel) m9_tenderOf ml9_205 k9_tenderOf e9_tenderOf ck9 ok.1 (⟨Nat.le_of_ble_eq_true rfl, Nat.le_of_ble_eq_true rfl⟩ : rOK B9_wall B9_tenderOf) rfl (Nat.le_of_ble_eq_true rfl) (Nat.le_of_ble_eq_true rfl) ⟨Nat.le_of_ble_eq_true rfl, Nat.le_of_ble_eq_true rfl⟩ rfl (wp_mono (b9_tenderOf (Q := (fun r I' L' => r = (v9_tenderOf I1 h u6) ∧ I1 = I' ∧ L2 = L')) ok o13 ⟨rfl, rfl, rfl⟩) (fun v9 M9 hq9 => ?_))
          obtain ⟨_, _, _, rfl, rfl, rfl, rfl, rfl⟩ := hq9
          show wp X B9_wall 103 [(3, .int u6), (0, .ref h), (1, .int x1), (2, .int x2)] [.int (v9_tenderOf I1 h u6)] (G, I1, L2) 0 0 _
          refine wp_goto (off := 4) (tgt := 107) (by decide +kernel) (by decide) ?_
          exact wp_iret (by decide +kernel) rfl (Nat.zero_le _) (Nat.zero_le _) ⟨_, _, _, rfl, rfl, H⟩
      rw [if_neg c11] at H
      by_cases c15 : (x2 / 10) = 3
      · rw [if_pos c15] at H
        refine wp_tableIn (dflt := 117) (lo := 1) (hi := 4) (offs := #[32, 50, 68, 86]) (len := 32) (off := 68) (tgt := 108) (by decide +kernel) (by rw [c15]; decide) (by rw [c15]; decide) (by rw [c15]; rfl) (by decide) ?_
        refine wp_aload_n (z := 0) (i := 0) (r := (some h)) 1 (by decide +kernel) rfl rfl ?_
        refine wp_iload_n (z := 3) (i := 3) (x := u6) 0 (by decide +kernel) rfl rfl ?_
        refine wp_callV (idx := 208) (B2 := B9_isTale) (As := [.int u6]) (a := h) (st := []) (by decide +kernel) m9_isTale ml9_208 k9_isTale e9_isTale ck9 ok.1 (⟨Nat.le_of_ble_eq_true rfl, Nat.le_of_ble_eq_true rfl⟩ : rOK B9_wall B9_isTale) rfl (Nat.le_of_ble_eq_true rfl) (Nat.le_of_ble_eq_true rfl) ⟨Nat.le_of_ble_eq_true rfl, Nat.le_of_ble_eq_true rfl⟩ rfl (wp_mono (b9_isTale (Q := (fun r I' L' => r = (v9_isTale I1 h u6) ∧ I1 = I' ∧ L2 = L')) ok ⟨rfl, rfl, rfl⟩) (fun v9 M9 hq9 => ?_))
        obtain ⟨_, _, _, rfl, rfl, rfl, rfl, rfl⟩ := hq9
        show wp X B9_wall 113 [(3, .int u6), (0, .ref h), (1, .int x1), (2, .int x2)] [.int (v9_isTale I1 h u6)] (G, I1, L2) 0 0 _
        refine wp_if_eq (off := 11) (tgt := 124) (by decide +kernel) (by decide) (fun c16 => ?_) (fun c16 => ?_)
        · rw [if_pos c16] at H
          refine wp_iconst (z := -1) (v := (-1)) (by decide +kernel) (by decide) ?_
          exact wp_iret (by decide +kernel) rfl (Nat.zero_le _) (Nat.zero_le _) ⟨_, _, _, rfl, rfl, H⟩
        · rw [if_neg c16] at H
          refine wp_aload_n (z := 0) (i := 0) (r := (some h)) 1 (by decide +kernel) rfl rfl ?_
          refine wp_iload_n (z := 3) (i := 3) (x := u6) 0 (by decide +kernel) rfl rfl ?_
          obtain ⟨o17, H⟩ := H
          refine wp_callV (idx := 211) (B2 := B9_longOf) (As := [.int u6]) (a := h) (st := []) (by decide +kernel) m9_longOf ml9_211 k9_longOf e9_longOf ck9 ok.1 (⟨Nat.le_of_ble_eq_true rfl, Nat.le_of_ble_eq_true rfl⟩ : rOK B9_wall B9_longOf) rfl (Nat.le_of_ble_eq_true rfl) (Nat.le_of_ble_eq_true rfl) ⟨Nat.le_of_ble_eq_true rfl, Nat.le_of_ble_eq_true rfl⟩ rfl (wp_mono (b9_longOf (Q := (fun r I' L' => r = (v9_longOf I1 h u6) ∧ I1 = I' ∧ L2 = L')) ok o17 ⟨rfl, rfl, rfl⟩) (fun v9 M9 hq9 => ?_))
          obtain ⟨_, _, _, rfl, rfl, rfl, rfl, rfl⟩ := hq9
          show wp X B9_wall 121 [(3, .int u6), (0, .ref h), (1, .int x1), (2, .int x2)] [.int (v9_longOf I1 h u6)] (G, I1, L2) 0 0 _
          refine wp_goto (off := 4) (tgt := 125) (by decide +kernel) (by decide) ?_
          exact wp_iret (by decide +kernel) rfl (Nat.zero_le _) (Nat.zero_le _) ⟨_, _, _, rfl, rfl, H⟩
      rw [if_neg c15] at H
      by_cases c19 : (x2 / 10) = 4
      · rw [if_pos c19] at H
        refine wp_tableIn (dflt := 117) (lo := 1) (hi := 4) (offs := #[32, 50, 68, 86]) (len := 32) (off := 86) (tgt := 126) (by decide +kernel) (by rw [c19]; decide) (by rw [c19]; decide) (by rw [c19]; rfl) (by decide) ?_
        refine wp_aload_n (z := 0) (i := 0) (r := (some h)) 1 (by decide +kernel) rfl rfl ?_
        refine wp_iload_n (z := 3) (i := 3) (x := u6) 0 (by decide +kernel) rfl rfl ?_
        refine wp_callV (idx := 208) (B2 := B9_isTale) (As := [.int u6]) (a := h) (st := []) (by decide +kernel) m9_isTale ml9_208 k9_isTale e9_isTale ck9 ok.1 (⟨Nat.le_of_ble_eq_true rfl, Nat.le_of_ble_eq_true rfl⟩ : rOK B9_wall B9_isTale) rfl (Nat.le_of_ble_eq_true rfl) (Nat.le_of_ble_eq_true rfl) ⟨Nat.le_of_ble_eq_true rfl, Nat.le_of_ble_eq_true rfl⟩ rfl (wp_mono (b9_isTale (Q := (fun r I' L' => r = (v9_isTale I1 h u6) ∧ I1 = I' ∧ L2 = L')) ok ⟨rfl, rfl, rfl⟩) (fun v9 M9 hq9 => ?_))
        obtain ⟨_, _, _, rfl, rfl, rfl, rfl, rfl⟩ := hq9
        show wp X B9_wall 131 [(3, .int u6), (0, .ref h), (1, .int x1), (2, .int x2)] [.int (v9_isTale I1 h u6)] (G, I1, L2) 0 0 _
        refine wp_if_eq (off := 24) (tgt := 155) (by decide +kernel) (by decide) (fun c20 => ?_) (fun c20 => ?_)
        · rw [if_pos c20] at H
          refine wp_iconst (z := -1) (v := (-1)) (by decide +kernel) (by decide) ?_
          exact wp_iret (by decide +kernel) rfl (Nat.zero_le _) (Nat.zero_le _) ⟨_, _, _, rfl, rfl, H⟩
        · rw [if_neg c20] at H
          refine wp_aload_n (z := 0) (i := 0) (r := (some h)) 1 (by decide +kernel) rfl rfl ?_
          refine wp_getS (idx := 7) (q := (h + 1)) (by decide +kernel) fl9_7 rfl ok.1 (okr9_0 ok) ?_
          refine wp_aload_n (z := 0) (i := 0) (r := (some h)) 1 (by decide +kernel) rfl rfl ?_
          refine wp_getI (idx := 178) (by decide +kernel) fl9_178 rfl ok.1 ?_
          refine wp_bipush (z := 17) (v := 17) (by decide +kernel) (by decide) ?_
          refine wp_iadd (by decide +kernel) ?_
          refine wp_iconst (z := 1) (v := 1) (by decide +kernel) (by decide) ?_
          refine wp_iadd (by decide +kernel) ?_
          refine wp_iconst (z := 2) (v := 2) (by decide +kernel) (by decide) ?_
          refine wp_iload_n (z := 3) (i := 3) (x := u6) 0 (by decide +kernel) rfl rfl ?_
          refine wp_imul (by decide +kernel) ?_
          refine wp_iadd (by decide +kernel) ?_
          obtain ⟨o21, H⟩ := H
          refine wp_iald (j := (cl ((((I1 h 11) + 17) + 1) + (2 * u6)))) (by decide +kernel) (oks9_0 ok) o21 rfl ?_
          refine wp_goto (off := 4) (tgt := 156) (by decide +kernel) (by decide) ?_
          exact wp_iret (by decide +kernel) rfl (Nat.zero_le _) (Nat.zero_le _) ⟨_, _, _, rfl, rfl, H⟩
      rw [if_neg c19] at H
      have qc7 := sw_ne c7 (z := 1) (by decide)
      have qc11 := sw_ne c11 (z := 2) (by decide)
      have qc15 := sw_ne c15 (z := 3) (by decide)
      have qc19 := sw_ne c19 (z := 4) (by decide)
      refine wp_tableOut (dflt := 117) (lo := 1) (hi := 4) (offs := #[32, 50, 68, 86]) (len := 32) (tgt := 157) (by decide +kernel) (by omega) (by decide) ?_
      refine wp_iload_n (z := 2) (i := 2) (x := x2) 3 (by decide +kernel) rfl rfl ?_
      refine wp_bipush (z := 100) (v := 100) (by decide +kernel) (by decide) ?_
      refine wp_icmp_lt (off := 25) (tgt := 185) (by decide +kernel) (by decide) (fun c23 => ?_) (fun c23 => ?_)
      · rw [if_pos c23] at H
        refine wp_iconst (z := -1) (v := (-1)) (by decide +kernel) (by decide) ?_
        exact wp_iret (by decide +kernel) rfl (Nat.zero_le _) (Nat.zero_le _) ⟨_, _, _, rfl, rfl, H⟩
      · rw [if_neg c23] at H
        refine wp_aload_n (z := 0) (i := 0) (r := (some h)) 1 (by decide +kernel) rfl rfl ?_
        refine wp_iload_n (z := 2) (i := 2) (x := x2) 3 (by decide +kernel) rfl rfl ?_
        refine wp_bipush (z := 100) (v := 100) (by decide +kernel) (by decide) ?_
        refine wp_isub (by decide +kernel) ?_
        refine wp_callV (idx := 214) (B2 := B9_isCell) (As := [.int (x2 - 100)]) (a := h) (st := []) (by decide +kernel) m9_isCell ml9_214 k9_isCell e9_isCell ck9 ok.1 (⟨Nat.le_of_ble_eq_true rfl, Nat.le_of_ble_eq_true rfl⟩ : rOK B9_wall B9_isCell) rfl (Nat.le_of_ble_eq_true rfl) (Nat.le_of_ble_eq_true rfl) ⟨Nat.le_of_ble_eq_true rfl, Nat.le_of_ble_eq_true rfl⟩ rfl (wp_mono (b9_isCell (Q := (fun r I' L' => r = (v9_isCell I1 h (x2 - 100)) ∧ I1 = I' ∧ L2 = L')) ok ⟨rfl, rfl, rfl⟩) (fun v9 M9 hq9 => ?_))
        obtain ⟨_, _, _, rfl, rfl, rfl, rfl, rfl⟩ := hq9
        show wp X B9_wall 171 [(3, .int u6), (0, .ref h), (1, .int x1), (2, .int x2)] [.int (v9_isCell I1 h (x2 - 100))] (G, I1, L2) 0 0 _
        refine wp_if_eq (off := 14) (tgt := 185) (by decide +kernel) (by decide) (fun c24 => ?_) (fun c24 => ?_)
        · rw [if_pos c24] at H
          refine wp_iconst (z := -1) (v := (-1)) (by decide +kernel) (by decide) ?_
          exact wp_iret (by decide +kernel) rfl (Nat.zero_le _) (Nat.zero_le _) ⟨_, _, _, rfl, rfl, H⟩
        · rw [if_neg c24] at H
          refine wp_aload_n (z := 0) (i := 0) (r := (some h)) 1 (by decide +kernel) rfl rfl ?_
          refine wp_iload_n (z := 2) (i := 2) (x := x2) 3 (by decide +kernel) rfl rfl ?_
          refine wp_bipush (z := 100) (v := 100) (by decide +kernel) (by decide) ?_
          refine wp_isub (by decide +kernel) ?_
          obtain ⟨o25, H⟩ := H
          refine wp_callV (idx := 217) (B2 := B9_deadTold) (As := [.int (x2 - 100)]) (a := h) (st := []) (by decide +kernel) m9_deadTold ml9_217 k9_deadTold e9_deadTold ck9 ok.1 (⟨Nat.le_of_ble_eq_true rfl, Nat.le_of_ble_eq_true rfl⟩ : rOK B9_wall B9_deadTold) rfl (Nat.le_of_ble_eq_true rfl) (Nat.le_of_ble_eq_true rfl) ⟨Nat.le_of_ble_eq_true rfl, Nat.le_of_ble_eq_true rfl⟩ rfl (wp_mono (b9_deadTold (Q := (fun r I' L' => r = (v9_deadTold I1 h (x2 - 100)) ∧ I1 = I' ∧ L2 = L')) ok o25 ⟨rfl, rfl, rfl⟩) (fun v9 M9 hq9 => ?_))
          obtain ⟨_, _, _, rfl, rfl, rfl, rfl, rfl⟩ := hq9
          show wp X B9_wall 182 [(3, .int u6), (0, .ref h), (1, .int x1), (2, .int x2)] [.int (v9_deadTold I1 h (x2 - 100))] (G, I1, L2) 0 0 _
          refine wp_goto (off := 4) (tgt := 186) (by decide +kernel) (by decide) ?_
          exact wp_iret (by decide +kernel) rfl (Nat.zero_le _) (Nat.zero_le _) ⟨_, _, _, rfl, rfl, H⟩
    · rw [if_neg c5] at H
      refine wp_aload_n (z := 0) (i := 0) (r := (some h)) 0 (by decide +kernel) rfl rfl ?_
      refine wp_getS (idx := 7) (q := (h + 1)) (by decide +kernel) fl9_7 rfl ok.1 (okr9_0 ok) ?_
      refine wp_aload_n (z := 0) (i := 0) (r := (some h)) 0 (by decide +kernel) rfl rfl ?_
      refine wp_getI (idx := 178) (by decide +kernel) fl9_178 rfl ok.1 ?_
      refine wp_iload_n (z := 2) (i := 2) (x := x2) 2 (by decide +kernel) rfl rfl ?_
      refine wp_iadd (by decide +kernel) ?_
      obtain ⟨o27, H⟩ := H
      refine wp_iald (j := (cl ((I1 h 11) + x2))) (by decide +kernel) (oks9_0 ok) o27 rfl ?_
      exact wp_iret (by decide +kernel) rfl (Nat.zero_le _) (Nat.zero_le _) ⟨_, _, _, rfl, rfl, H⟩
  · rw [if_pos c4] at H
    refine wp_iconst (z := -1) (v := (-1)) (by decide +kernel) (by decide) ?_
    exact wp_iret (by decide +kernel) rfl (Nat.zero_le _) (Nat.zero_le _) ⟨_, _, _, rfl, rfl, H⟩
/-! DeafWallModel.begins()V -/
set_option maxRecDepth 20000 in
theorem b9_begins {X : XX} {G : GG} {I : Nat → Nat → Int32} {L : Nat → Nat → Int64} {h : Nat} {Q : (Nat → Nat → Int32) → (Nat → Nat → Int64) → Prop} (ok : OK9 G h) (H : ∀ I1, I1 = up2 I h 17 0 → ∀ I2, I2 = up2 I1 h 18 0 → ∀ I3, I3 = up2 I2 h 19 0 → ∀ I4, I4 = up2 I3 h 20 0 → ∀ I5, I5 = up2 I4 h 21 0 → ∀ I6, I6 = up2 I5 h 22 0 → wpV X B9_begins 32 [(0, .ref h), (1, .int 0)] [] G I6 L Q) : wpV X B9_begins 0 [(0, .ref h)] [] G I L Q := by
  refine wp_aload_n (z := 0) (i := 0) (r := (some h)) 0 (by decide +kernel) rfl rfl ?_
  refine wp_iconst (z := 0) (v := 0) (by decide +kernel) (by decide) ?_
  refine wp_putI (idx := 220) (by decide +kernel) fl9_220 rfl ok.1 ?_
  refine wp_memI (fun I1 eI1 => ?_)
  replace H := H I1 eI1
  refine wp_aload_n (z := 0) (i := 0) (r := (some h)) 0 (by decide +kernel) rfl rfl ?_
  refine wp_iconst (z := 0) (v := 0) (by decide +kernel) (by decide) ?_
  refine wp_putI (idx := 223) (by decide +kernel) fl9_223 rfl ok.1 ?_
  refine wp_memI (fun I2 eI2 => ?_)
  replace H := H I2 eI2
  refine wp_aload_n (z := 0) (i := 0) (r := (some h)) 0 (by decide +kernel) rfl rfl ?_
  refine wp_iconst (z := 0) (v := 0) (by decide +kernel) (by decide) ?_
  refine wp_putI (idx := 226) (by decide +kernel) fl9_226 rfl ok.1 ?_
  refine wp_memI (fun I3 eI3 => ?_)
  replace H := H I3 eI3
  refine wp_aload_n (z := 0) (i := 0) (r := (some h)) 0 (by decide +kernel) rfl rfl ?_
  refine wp_iconst (z := 0) (v := 0) (by decide +kernel) (by decide) ?_
  refine wp_putI (idx := 229) (by decide +kernel) fl9_229 rfl ok.1 ?_
  refine wp_memI (fun I4 eI4 => ?_)
  replace H := H I4 eI4
  refine wp_aload_n (z := 0) (i := 0) (r := (some h)) 0 (by decide +kernel) rfl rfl ?_
  refine wp_iconst (z := 0) (v := 0) (by decide +kernel) (by decide) ?_
  refine wp_putI (idx := 232) (by decide +kernel) fl9_232 rfl ok.1 ?_
  refine wp_memI (fun I5 eI5 => ?_)
  replace H := H I5 eI5
  refine wp_aload_n (z := 0) (i := 0) (r := (some h)) 0 (by decide +kernel) rfl rfl ?_
  refine wp_iconst (z := 0) (v := 0) (by decide +kernel) (by decide) ?_
  refine wp_putI (idx := 235) (by decide +kernel) fl9_235 rfl ok.1 ?_
  refine wp_memI (fun I6 eI6 => ?_)
  replace H := H I6 eI6
  refine wp_iconst (z := 0) (v := 0) (by decide +kernel) (by decide) ?_
  refine wp_istore_n (z := 1) (i := 1) (lv' := [(1, .int 0), (0, .ref h)]) (by decide +kernel) rfl (by decide) rfl ?_
  exact wp_sub [1, 0] rfl H
set_option maxRecDepth 20000 in
theorem b9_begins_32 {X : XX} {G : GG} {I : Nat → Nat → Int32} {L : Nat → Nat → Int64} {h : Nat} {x1 : Int32} {Q : (Nat → Nat → Int32) → (Nat → Nat → Int64) → Prop} (ok : OK9 G h) (H : if 32 ≤ x1 then (wpV X B9_begins 64 [(0, .ref h), (1, .int 0)] [] G I L Q) else (p9_deadTold I h x1 ∧ (vp_in x1 32 ∧ (∀ I2, I2 = up2 I (h + 4) (cl x1) (v9_deadTold I h x1) → vp_in x1 32 ∧ (∀ I3, I3 = up2 I2 (h + 5) (cl x1) 0 → wpV X B9_begins 32 [(0, .ref h), (1, .int (x1 + 1))] [] G I3 L Q))))) : wpV X B9_begins 32 [(0, .ref h), (1, .int x1)] [] G I L Q := by
  refine wp_iload_n (z := 1) (i := 1) (x := x1) 1 (by decide +kernel) rfl rfl ?_
  refine wp_bipush (z := 32) (v := 32) (by decide +kernel) (by decide) ?_
  refine wp_icmp_ge (off := 27) (tgt := 62) (by decide +kernel) (by decide) (fun c1 => ?_) (fun c1 => ?_)
  · rw [if_pos c1] at H
    refine wp_iconst (z := 0) (v := 0) (by decide +kernel) (by decide) ?_
    refine wp_istore_n (z := 1) (i := 1) (lv' := [(1, .int 0), (0, .ref h)]) (by decide +kernel) rfl (by decide) rfl ?_
    exact wp_sub [1, 0] rfl H
  · rw [if_neg c1] at H
    refine wp_aload_n (z := 0) (i := 0) (r := (some h)) 0 (by decide +kernel) rfl rfl ?_
    refine wp_getS (idx := 20) (q := (h + 4)) (by decide +kernel) fl9_20 rfl ok.1 (okr9_23 ok) ?_
    refine wp_iload_n (z := 1) (i := 1) (x := x1) 1 (by decide +kernel) rfl rfl ?_
    refine wp_aload_n (z := 0) (i := 0) (r := (some h)) 0 (by decide +kernel) rfl rfl ?_
    refine wp_iload_n (z := 1) (i := 1) (x := x1) 1 (by decide +kernel) rfl rfl ?_
    obtain ⟨o6, H⟩ := H
    refine wp_callV (idx := 217) (B2 := B9_deadTold) (As := [.int x1]) (a := h) (st := [.int x1, .ref (h + 4)]) (by decide +kernel) m9_deadTold ml9_217 k9_deadTold e9_deadTold ck9 ok.1 (⟨Nat.le_of_ble_eq_true rfl, Nat.le_of_ble_eq_true rfl⟩ : rOK B9_begins B9_deadTold) rfl (Nat.le_of_ble_eq_true rfl) (Nat.le_of_ble_eq_true rfl) ⟨Nat.le_of_ble_eq_true rfl, Nat.le_of_ble_eq_true rfl⟩ rfl (wp_mono (b9_deadTold (Q := (fun r I' L' => r = (v9_deadTold I h x1) ∧ I = I' ∧ L = L')) ok o6 ⟨rfl, rfl, rfl⟩) (fun v9 M9 hq9 => ?_))
    obtain ⟨_, _, _, rfl, rfl, rfl, rfl, rfl⟩ := hq9
    show wp X B9_begins 48 [(0, .ref h), (1, .int x1)] [.int (v9_deadTold I h x1), .int x1, .ref (h + 4)] (G, I, L) 0 0 _
    obtain ⟨o5, H⟩ := H
    refine wp_iast (j := (cl x1)) (by decide +kernel) (oks9_23 ok) o5 rfl ?_
    refine wp_memI (fun I2 eI2 => ?_)
    replace H := H I2 eI2
    refine wp_aload_n (z := 0) (i := 0) (r := (some h)) 0 (by decide +kernel) rfl rfl ?_
    refine wp_getS (idx := 23) (q := (h + 5)) (by decide +kernel) fl9_23 rfl ok.1 (okr9_24 ok) ?_
    refine wp_iload_n (z := 1) (i := 1) (x := x1) 1 (by decide +kernel) rfl rfl ?_
    refine wp_iconst (z := 0) (v := 0) (by decide +kernel) (by decide) ?_
    obtain ⟨o4, H⟩ := H
    refine wp_iast (j := (cl x1)) (by decide +kernel) (oks9_24 ok) o4 rfl ?_
    refine wp_memI (fun I3 eI3 => ?_)
    replace H := H I3 eI3
    refine wp_iinc (i := 1) (z := 1) (v := 1) (lv' := [(1, .int (x1 + 1)), (0, .ref h)]) 1 (by decide +kernel) rfl (by decide) (by decide) rfl ?_
    refine wp_goto (off := -27) (tgt := 32) (by decide +kernel) (by decide) ?_
    exact wp_sub [1, 0] rfl H
set_option maxRecDepth 20000 in
theorem b9_begins_64 {X : XX} {G : GG} {I : Nat → Nat → Int32} {L : Nat → Nat → Int64} {h : Nat} {x1 : Int32} {Q : (Nat → Nat → Int32) → (Nat → Nat → Int64) → Prop} (ok : OK9 G h) (H : if 6 ≤ x1 then (Q I L) else (p9_cellTold0 I h x1 ∧ (vp_in x1 6 ∧ (∀ I2, I2 = up2 I (h + 7) (cl x1) (v9_cellTold0 I h x1) → vp_in x1 6 ∧ (∀ I3, I3 = up2 I2 (h + 8) (cl x1) 0 → vp_in x1 6 ∧ (∀ I4, I4 = up2 I3 (h + 9) (cl x1) 0 → vp_in x1 6 ∧ (∀ I5, I5 = up2 I4 (h + 10) (cl x1) 0 → wpV X B9_begins 64 [(0, .ref h), (1, .int (x1 + 1))] [] G I5 L Q))))))) : wpV X B9_begins 64 [(0, .ref h), (1, .int x1)] [] G I L Q := by
  refine wp_iload_n (z := 1) (i := 1) (x := x1) 1 (by decide +kernel) rfl rfl ?_
  refine wp_bipush (z := 6) (v := 6) (by decide +kernel) (by decide) ?_
  refine wp_icmp_ge (off := 41) (tgt := 108) (by decide +kernel) (by decide) (fun c1 => ?_) (fun c1 => ?_)
  · rw [if_pos c1] at H
    exact wp_vret (by decide +kernel) rfl (Nat.zero_le _) (Nat.zero_le _) ⟨_, _, rfl, rfl, H⟩
  · rw [if_neg c1] at H
    refine wp_aload_n (z := 0) (i := 0) (r := (some h)) 0 (by decide +kernel) rfl rfl ?_
    refine wp_getS (idx := 29) (q := (h + 7)) (by decide +kernel) fl9_29 rfl ok.1 (okr9_26 ok) ?_
    refine wp_iload_n (z := 1) (i := 1) (x := x1) 1 (by decide +kernel) rfl rfl ?_
    refine wp_aload_n (z := 0) (i := 0) (r := (some h)) 0 (by decide +kernel) rfl rfl ?_
    refine wp_iload_n (z := 1) (i := 1) (x := x1) 1 (by decide +kernel) rfl rfl ?_
    obtain ⟨o10, H⟩ := H
    refine wp_callV (idx := 202) (B2 := B9_cellTold0) (As := [.int x1]) (a := h) (st := [.int x1, .ref (h + 7)]) (by decide +kernel) m9_cellTold0 ml9_202 k9_cellTold0 e9_cellTold0 ck9 ok.1 (⟨Nat.le_of_ble_eq_true rfl, Nat.le_of_ble_eq_true rfl⟩ : rOK B9_begins B9_cellTold0) rfl (Nat.le_of_ble_eq_true rfl) (Nat.le_of_ble_eq_true rfl) ⟨Nat.le_of_ble_eq_true rfl, Nat.le_of_ble_eq_true rfl⟩ rfl (wp_mono (b9_cellTold0 (Q := (fun r I' L' => r = (v9_cellTold0 I h x1) ∧ I = I' ∧ L = L')) ok o10 ⟨rfl, rfl, rfl⟩) (fun v9 M9 hq9 => ?_))
    obtain ⟨_, _, _, rfl, rfl, rfl, rfl, rfl⟩ := hq9
    show wp X B9_begins 80 [(0, .ref h), (1, .int x1)] [.int (v9_cellTold0 I h x1), .int x1, .ref (h + 7)] (G, I, L) 0 0 _
    obtain ⟨o9, H⟩ := H
    refine wp_iast (j := (cl x1)) (by decide +kernel) (oks9_26 ok) o9 rfl ?_
    refine wp_memI (fun I2 eI2 => ?_)
    replace H := H I2 eI2
    refine wp_aload_n (z := 0) (i := 0) (r := (some h)) 0 (by decide +kernel) rfl rfl ?_
    refine wp_getS (idx := 32) (q := (h + 8)) (by decide +kernel) fl9_32 rfl ok.1 (okr9_27 ok) ?_
    refine wp_iload_n (z := 1) (i := 1) (x := x1) 1 (by decide +kernel) rfl rfl ?_
    refine wp_iconst (z := 0) (v := 0) (by decide +kernel) (by decide) ?_
    obtain ⟨o8, H⟩ := H
    refine wp_iast (j := (cl x1)) (by decide +kernel) (oks9_27 ok) o8 rfl ?_
    refine wp_memI (fun I3 eI3 => ?_)
    replace H := H I3 eI3
    refine wp_aload_n (z := 0) (i := 0) (r := (some h)) 0 (by decide +kernel) rfl rfl ?_
    refine wp_getS (idx := 35) (q := (h + 9)) (by decide +kernel) fl9_35 rfl ok.1 (okr9_28 ok) ?_
    refine wp_iload_n (z := 1) (i := 1) (x := x1) 1 (by decide +kernel) rfl rfl ?_
    refine wp_iconst (z := 0) (v := 0) (by decide +kernel) (by decide) ?_
    obtain ⟨o7, H⟩ := H
    refine wp_iast (j := (cl x1)) (by decide +kernel) (oks9_28 ok) o7 rfl ?_
    refine wp_memI (fun I4 eI4 => ?_)
    replace H := H I4 eI4
    refine wp_aload_n (z := 0) (i := 0) (r := (some h)) 0 (by decide +kernel) rfl rfl ?_
    refine wp_getS (idx := 38) (q := (h + 10)) (by decide +kernel) fl9_38 rfl ok.1 (okr9_29 ok) ?_
    refine wp_iload_n (z := 1) (i := 1) (x := x1) 1 (by decide +kernel) rfl rfl ?_
    refine wp_iconst (z := 0) (v := 0) (by decide +kernel) (by decide) ?_
    obtain ⟨o6, H⟩ := H
    refine wp_iast (j := (cl x1)) (by decide +kernel) (oks9_29 ok) o6 rfl ?_
    refine wp_memI (fun I5 eI5 => ?_)
    replace H := H I5 eI5
    refine wp_iinc (i := 1) (z := 1) (v := 1) (lv' := [(1, .int (x1 + 1)), (0, .ref h)]) 1 (by decide +kernel) rfl (by decide) (by decide) rfl ?_
    refine wp_goto (off := -41) (tgt := 64) (by decide +kernel) (by decide) ?_
    exact wp_sub [1, 0] rfl H
/-! DeafWallModel.comes(I)I -/
set_option maxRecDepth 20000 in
theorem b9_comes {X : XX} {G : GG} {I : Nat → Nat → Int32} {L : Nat → Nat → Int64} {h : Nat} {x1 : Int32} {Q : Int32 → (Nat → Nat → Int32) → (Nat → Nat → Int64) → Prop} (ok : OK9 G h) (H : wpI X B9_comes 4 [(0, .ref h), (1, .int x1), (2, .int 0), (3, .int 0)] [] G I L Q) : wpI X B9_comes 0 [(0, .ref h), (1, .int x1)] [] G I L Q := by
  refine wp_iconst (z := 0) (v := 0) (by decide +kernel) (by decide) ?_
  refine wp_istore_n (z := 2) (i := 2) (lv' := [(2, .int 0), (0, .ref h), (1, .int x1)]) (by decide +kernel) rfl (by decide) rfl ?_
  refine wp_iconst (z := 0) (v := 0) (by decide +kernel) (by decide) ?_
  refine wp_istore_n (z := 3) (i := 3) (lv' := [(3, .int 0), (2, .int 0), (0, .ref h), (1, .int x1)]) (by decide +kernel) rfl (by decide) rfl ?_
  exact wp_sub [2, 3, 1, 0] rfl H
set_option maxRecDepth 20000 in
theorem b9_comes_4 {X : XX} {G : GG} {I : Nat → Nat → Int32} {L : Nat → Nat → Int64} {h : Nat} {x1 : Int32} {x2 : Int32} {x3 : Int32} {Q : Int32 → (Nat → Nat → Int32) → (Nat → Nat → Int64) → Prop} (ok : OK9 G h) (H : if (I h 13) ≤ x3 then (vp_in x1 32 ∧ (∀ u2, u2 = (x2 - (I (h + 4) (cl x1))) → if u2 ≤ (0 : Int32) then (Q 0 I L) else (Q u2 I L))) else (p9_areBeside I h x3 x1 ∧ (if (v9_areBeside I h x3 x1) = (0 : Int32) then (wpI X B9_comes 4 [(0, .ref h), (1, .int x1), (2, .int x2), (3, .int (x3 + 1))] [] G I L Q) else (vp_in x3 32 ∧ (if (I (h + 6) (cl x3)) ≤ x2 then (wpI X B9_comes 4 [(0, .ref h), (1, .int x1), (2, .int x2), (3, .int (x3 + 1))] [] G I L Q) else (vp_in x3 32 ∧ (∀ u7, u7 = (I (h + 6) (cl x3)) → wpI X B9_comes 4 [(0, .ref h), (1, .int x1), (2, .int u7), (3, .int (x3 + 1))] [] G I L Q))))))) : wpI X B9_comes 4 [(0, .ref h), (1, .int x1), (2, .int x2), (3, .int x3)] [] G I L Q := by
  refine wp_iload_n (z := 3) (i := 3) (x := x3) 3 (by decide +kernel) rfl rfl ?_
  refine wp_aload_n (z := 0) (i := 0) (r := (some h)) 0 (by decide +kernel) rfl rfl ?_
  refine wp_getI (idx := 184) (by decide +kernel) fl9_184 rfl ok.1 ?_
  refine wp_icmp_ge (off := 35) (tgt := 44) (by decide +kernel) (by decide) (fun c1 => ?_) (fun c1 => ?_)
  · rw [if_pos c1] at H
    refine wp_iload_n (z := 2) (i := 2) (x := x2) 2 (by decide +kernel) rfl rfl ?_
    refine wp_aload_n (z := 0) (i := 0) (r := (some h)) 0 (by decide +kernel) rfl rfl ?_
    refine wp_getS (idx := 20) (q := (h + 4)) (by decide +kernel) fl9_20 rfl ok.1 (okr9_23 ok) ?_
    refine wp_iload_n (z := 1) (i := 1) (x := x1) 1 (by decide +kernel) rfl rfl ?_
    obtain ⟨o4, H⟩ := H
    refine wp_iald (j := (cl x1)) (by decide +kernel) (oks9_23 ok) o4 rfl ?_
    refine wp_isub (by decide +kernel) ?_
    refine wp_topi (fun u2 eu2 => ?_)
    replace H := H u2 eu2
    refine wp_istore_n (z := 2) (i := 2) (lv' := [(2, .int u2), (0, .ref h), (1, .int x1), (3, .int x3)]) (by decide +kernel) rfl (by decide) rfl ?_
    refine wp_iload_n (z := 2) (i := 2) (x := u2) 0 (by decide +kernel) rfl rfl ?_
    refine wp_if_le (off := 7) (tgt := 61) (by decide +kernel) (by decide) (fun c3 => ?_) (fun c3 => ?_)
    · rw [if_pos c3] at H
      refine wp_iconst (z := 0) (v := 0) (by decide +kernel) (by decide) ?_
      exact wp_iret (by decide +kernel) rfl (Nat.zero_le _) (Nat.zero_le _) ⟨_, _, _, rfl, rfl, H⟩
    · rw [if_neg c3] at H
      refine wp_iload_n (z := 2) (i := 2) (x := u2) 0 (by decide +kernel) rfl rfl ?_
      refine wp_goto (off := 4) (tgt := 62) (by decide +kernel) (by decide) ?_
      exact wp_iret (by decide +kernel) rfl (Nat.zero_le _) (Nat.zero_le _) ⟨_, _, _, rfl, rfl, H⟩
  · rw [if_neg c1] at H
    refine wp_aload_n (z := 0) (i := 0) (r := (some h)) 0 (by decide +kernel) rfl rfl ?_
    refine wp_iload_n (z := 3) (i := 3) (x := x3) 3 (by decide +kernel) rfl rfl ?_
    refine wp_iload_n (z := 1) (i := 1) (x := x1) 1 (by decide +kernel) rfl rfl ?_
    obtain ⟨o10, H⟩ := H
    refine wp_callV (idx := 238) (B2 := B9_areBeside) (As := [.int x3, .int x1]) (a := h) (st := []) (by decide +kernel) m9_areBeside ml9_238 k9_areBeside e9_areBeside ck9 ok.1 (⟨Nat.le_of_ble_eq_true rfl, Nat.le_of_ble_eq_true rfl⟩ : rOK B9_comes B9_areBeside) rfl (Nat.le_of_ble_eq_true rfl) (Nat.le_of_ble_eq_true rfl) ⟨Nat.le_of_ble_eq_true rfl, Nat.le_of_ble_eq_true rfl⟩ rfl (wp_mono (b9_areBeside (Q := (fun r I' L' => r = (v9_areBeside I h x3 x1) ∧ I = I' ∧ L = L')) ok o10 ⟨rfl, rfl, rfl⟩) (fun v9 M9 hq9 => ?_))
    obtain ⟨_, _, _, rfl, rfl, rfl, rfl, rfl⟩ := hq9
    show wp X B9_comes 18 [(0, .ref h), (1, .int x1), (2, .int x2), (3, .int x3)] [.int (v9_areBeside I h x3 x1)] (G, I, L) 0 0 _
    refine wp_if_eq (off := 20) (tgt := 38) (by decide +kernel) (by decide) (fun c5 => ?_) (fun c5 => ?_)
    · rw [if_pos c5] at H
      refine wp_iinc (i := 3) (z := 1) (v := 1) (lv' := [(3, .int (x3 + 1)), (0, .ref h), (1, .int x1), (2, .int x2)]) 3 (by decide +kernel) rfl (by decide) (by decide) rfl ?_
      refine wp_goto (off := -37) (tgt := 4) (by decide +kernel) (by decide) ?_
      exact wp_sub [1, 2, 3, 0] rfl H
    · rw [if_neg c5] at H
      refine wp_aload_n (z := 0) (i := 0) (r := (some h)) 0 (by decide +kernel) rfl rfl ?_
      refine wp_getS (idx := 26) (q := (h + 6)) (by decide +kernel) fl9_26 rfl ok.1 (okr9_25 ok) ?_
      refine wp_iload_n (z := 3) (i := 3) (x := x3) 3 (by decide +kernel) rfl rfl ?_
      obtain ⟨o9, H⟩ := H
      refine wp_iald (j := (cl x3)) (by decide +kernel) (oks9_25 ok) o9 rfl ?_
      refine wp_iload_n (z := 2) (i := 2) (x := x2) 2 (by decide +kernel) rfl rfl ?_
      refine wp_icmp_le (off := 10) (tgt := 38) (by decide +kernel) (by decide) (fun c6 => ?_) (fun c6 => ?_)
      · rw [if_pos c6] at H
        refine wp_iinc (i := 3) (z := 1) (v := 1) (lv' := [(3, .int (x3 + 1)), (0, .ref h), (1, .int x1), (2, .int x2)]) 3 (by decide +kernel) rfl (by decide) (by decide) rfl ?_
        refine wp_goto (off := -37) (tgt := 4) (by decide +kernel) (by decide) ?_
        exact wp_sub [1, 2, 3, 0] rfl H
      · rw [if_neg c6] at H
        refine wp_aload_n (z := 0) (i := 0) (r := (some h)) 0 (by decide +kernel) rfl rfl ?_
        refine wp_getS (idx := 26) (q := (h + 6)) (by decide +kernel) fl9_26 rfl ok.1 (okr9_25 ok) ?_
        refine wp_iload_n (z := 3) (i := 3) (x := x3) 3 (by decide +kernel) rfl rfl ?_
        obtain ⟨o8, H⟩ := H
        refine wp_iald (j := (cl x3)) (by decide +kernel) (oks9_25 ok) o8 rfl ?_
        refine wp_topi (fun u7 eu7 => ?_)
        replace H := H u7 eu7
        refine wp_istore_n (z := 2) (i := 2) (lv' := [(2, .int u7), (0, .ref h), (1, .int x1), (3, .int x3)]) (by decide +kernel) rfl (by decide) rfl ?_
        refine wp_iinc (i := 3) (z := 1) (v := 1) (lv' := [(3, .int (x3 + 1)), (2, .int u7), (0, .ref h), (1, .int x1)]) 3 (by decide +kernel) rfl (by decide) (by decide) rfl ?_
        refine wp_goto (off := -37) (tgt := 4) (by decide +kernel) (by decide) ?_
        exact wp_sub [2, 3, 1, 0] rfl H
/-! DeafWallModel.isToldNow(II)Z -/
set_option maxRecDepth 20000 in
theorem b9_isToldNow {X : XX} {G : GG} {I : Nat → Nat → Int32} {L : Nat → Nat → Int64} {h : Nat} {x1 : Int32} {x2 : Int32} {Q : Int32 → (Nat → Nat → Int32) → (Nat → Nat → Int64) → Prop} (ok : OK9 G h) (H : p9_longOf I h x2 ∧ (if (I h 17) < (v9_longOf I h x2) then (wpI X B9_isToldNow 21 [(0, .ref h), (1, .int x1), (2, .int x2), (3, .int 0), (4, .int 0)] [] G I L Q) else (wpI X B9_isToldNow 21 [(0, .ref h), (1, .int x1), (2, .int x2), (3, .int 1), (4, .int 0)] [] G I L Q))) : wpI X B9_isToldNow 0 [(0, .ref h), (1, .int x1), (2, .int x2)] [] G I L Q := by
  refine wp_aload_n (z := 0) (i := 0) (r := (some h)) 0 (by decide +kernel) rfl rfl ?_
  refine wp_iload_n (z := 2) (i := 2) (x := x2) 2 (by decide +kernel) rfl rfl ?_
  obtain ⟨o2, H⟩ := H
  refine wp_callV (idx := 211) (B2 := B9_longOf) (As := [.int x2]) (a := h) (st := []) (by decide +kernel) m9_longOf ml9_211 k9_longOf e9_longOf ck9 ok.1 (⟨Nat.le_of_ble_eq_true rfl, Nat.le_of_ble_eq_true rfl⟩ : rOK B9_isToldNow B9_longOf) rfl (Nat.le_of_ble_eq_true rfl) (Nat.le_of_ble_eq_true rfl) ⟨Nat.le_of_ble_eq_true rfl, Nat.le_of_ble_eq_true rfl⟩ rfl (wp_mono (b9_longOf (Q := (fun r I' L' => r = (v9_longOf I h x2) ∧ I = I' ∧ L = L')) ok o2 ⟨rfl, rfl, rfl⟩) (fun v9 M9 hq9 => ?_))
  obtain ⟨_, _, _, rfl, rfl, rfl, rfl, rfl⟩ := hq9
  show wp X B9_isToldNow 5 [(0, .ref h), (1, .int x1), (2, .int x2)] [.int (v9_longOf I h x2)] (G, I, L) 0 0 _
  refine wp_aload_n (z := 0) (i := 0) (r := (some h)) 0 (by decide +kernel) rfl rfl ?_
  refine wp_getI (idx := 220) (by decide +kernel) fl9_220 rfl ok.1 ?_
  refine wp_icmp_gt (off := 7) (tgt := 16) (by decide +kernel) (by decide) (fun c1 => ?_) (fun c1 => ?_)
  · rw [if_pos c1] at H
    refine wp_iconst (z := 0) (v := 0) (by decide +kernel) (by decide) ?_
    refine wp_istore_n (z := 3) (i := 3) (lv' := [(3, .int 0), (0, .ref h), (1, .int x1), (2, .int x2)]) (by decide +kernel) rfl (by decide) rfl ?_
    refine wp_iconst (z := 0) (v := 0) (by decide +kernel) (by decide) ?_
    refine wp_istore (i := 4) (lv' := [(4, .int 0), (3, .int 0), (0, .ref h), (1, .int x1), (2, .int x2)]) (by decide +kernel) (by decide) rfl ?_
    exact wp_sub [2, 3, 4, 1, 0] rfl H
  · rw [if_neg c1] at H
    refine wp_iconst (z := 1) (v := 1) (by decide +kernel) (by decide) ?_
    refine wp_goto (off := 4) (tgt := 17) (by decide +kernel) (by decide) ?_
    refine wp_istore_n (z := 3) (i := 3) (lv' := [(3, .int 1), (0, .ref h), (1, .int x1), (2, .int x2)]) (by decide +kernel) rfl (by decide) rfl ?_
    refine wp_iconst (z := 0) (v := 0) (by decide +kernel) (by decide) ?_
    refine wp_istore (i := 4) (lv' := [(4, .int 0), (3, .int 1), (0, .ref h), (1, .int x1), (2, .int x2)]) (by decide +kernel) (by decide) rfl ?_
    exact wp_sub [2, 3, 4, 1, 0] rfl H
set_option maxRecDepth 20000 in
theorem b9_isToldNow_21 {X : XX} {G : GG} {I : Nat → Nat → Int32} {L : Nat → Nat → Int64} {h : Nat} {x1 : Int32} {x2 : Int32} {x3 : Int32} {x4 : Int32} {Q : Int32 → (Nat → Nat → Int32) → (Nat → Nat → Int64) → Prop} (ok : OK9 G h) (H : p9_longOf I h x2 ∧ (if (v9_longOf I h x2) ≤ x4 then ((x3 = 0 ∨ x3 = 1) ∧ (Q x3 I L)) else (if x3 = (0 : Int32) then ((x3 = 0 ∨ x3 = 1) ∧ (Q x3 I L)) else (vp_in x1 6 ∧ (p9_longOf I h x2 ∧ (p9_markOf I h x2 x4 ∧ (if (((I (h + 8) (cl x1)) >>> ((((v9_longOf I h x2) - 1) - x4) &&& 31)) &&& 1) = (v9_markOf I h x2 x4) then (wpI X B9_isToldNow 21 [(0, .ref h), (1, .int x1), (2, .int x2), (3, .int 1), (4, .int (x4 + 1))] [] G I L Q) else (wpI X B9_isToldNow 21 [(0, .ref h), (1, .int x1), (2, .int x2), (3, .int 0), (4, .int (x4 + 1))] [] G I L Q)))))))) : wpI X B9_isToldNow 21 [(0, .ref h), (1, .int x1), (2, .int x2), (3, .int x3), (4, .int x4)] [] G I L Q := by
  refine wp_iload (i := 4) (x := x4) 4 (by decide +kernel) rfl ?_
  refine wp_aload_n (z := 0) (i := 0) (r := (some h)) 0 (by decide +kernel) rfl rfl ?_
  refine wp_iload_n (z := 2) (i := 2) (x := x2) 2 (by decide +kernel) rfl rfl ?_
  obtain ⟨o9, H⟩ := H
  refine wp_callV (idx := 211) (B2 := B9_longOf) (As := [.int x2]) (a := h) (st := [.int x4]) (by decide +kernel) m9_longOf ml9_211 k9_longOf e9_longOf ck9 ok.1 (⟨Nat.le_of_ble_eq_true rfl, Nat.le_of_ble_eq_true rfl⟩ : rOK B9_isToldNow B9_longOf) rfl (Nat.le_of_ble_eq_true rfl) (Nat.le_of_ble_eq_true rfl) ⟨Nat.le_of_ble_eq_true rfl, Nat.le_of_ble_eq_true rfl⟩ rfl (wp_mono (b9_longOf (Q := (fun r I' L' => r = (v9_longOf I h x2) ∧ I = I' ∧ L = L')) ok o9 ⟨rfl, rfl, rfl⟩) (fun v9 M9 hq9 => ?_))
  obtain ⟨_, _, _, rfl, rfl, rfl, rfl, rfl⟩ := hq9
  show wp X B9_isToldNow 28 [(0, .ref h), (1, .int x1), (2, .int x2), (3, .int x3), (4, .int x4)] [.int (v9_longOf I h x2), .int x4] (G, I, L) 0 0 _
  refine wp_icmp_ge (off := 48) (tgt := 76) (by decide +kernel) (by decide) (fun c1 => ?_) (fun c1 => ?_)
  · rw [if_pos c1] at H
    refine wp_iload_n (z := 3) (i := 3) (x := x3) 3 (by decide +kernel) rfl rfl ?_
    obtain ⟨o2, H⟩ := H
    exact wp_zret (by decide +kernel) rfl o2 (Nat.zero_le _) (Nat.zero_le _) ⟨_, _, _, rfl, rfl, H⟩
  · rw [if_neg c1] at H
    refine wp_iload_n (z := 3) (i := 3) (x := x3) 3 (by decide +kernel) rfl rfl ?_
    refine wp_if_eq (off := 44) (tgt := 76) (by decide +kernel) (by decide) (fun c3 => ?_) (fun c3 => ?_)
    · rw [if_pos c3] at H
      refine wp_iload_n (z := 3) (i := 3) (x := x3) 3 (by decide +kernel) rfl rfl ?_
      obtain ⟨o4, H⟩ := H
      exact wp_zret (by decide +kernel) rfl o4 (Nat.zero_le _) (Nat.zero_le _) ⟨_, _, _, rfl, rfl, H⟩
    · rw [if_neg c3] at H
      refine wp_aload_n (z := 0) (i := 0) (r := (some h)) 0 (by decide +kernel) rfl rfl ?_
      refine wp_getS (idx := 32) (q := (h + 8)) (by decide +kernel) fl9_32 rfl ok.1 (okr9_27 ok) ?_
      refine wp_iload_n (z := 1) (i := 1) (x := x1) 1 (by decide +kernel) rfl rfl ?_
      obtain ⟨o8, H⟩ := H
      refine wp_iald (j := (cl x1)) (by decide +kernel) (oks9_27 ok) o8 rfl ?_
      refine wp_aload_n (z := 0) (i := 0) (r := (some h)) 0 (by decide +kernel) rfl rfl ?_
      refine wp_iload_n (z := 2) (i := 2) (x := x2) 2 (by decide +kernel) rfl rfl ?_
      obtain ⟨o7, H⟩ := H
      refine wp_callV (idx := 211) (B2 := B9_longOf) (As := [.int x2]) (a := h) (st := [.int (I (h + 8) (cl x1))]) (by decide +kernel) m9_longOf ml9_211 k9_longOf e9_longOf ck9 ok.1 (⟨Nat.le_of_ble_eq_true rfl, Nat.le_of_ble_eq_true rfl⟩ : rOK B9_isToldNow B9_longOf) rfl (Nat.le_of_ble_eq_true rfl) (Nat.le_of_ble_eq_true rfl) ⟨Nat.le_of_ble_eq_true rfl, Nat.le_of_ble_eq_true rfl⟩ rfl (wp_mono (b9_longOf (Q := (fun r I' L' => r = (v9_longOf I h x2) ∧ I = I' ∧ L = L')) ok o7 ⟨rfl, rfl, rfl⟩) (fun v9 M9 hq9 => ?_))
      obtain ⟨_, _, _, rfl, rfl, rfl, rfl, rfl⟩ := hq9
      show wp X B9_isToldNow 46 [(0, .ref h), (1, .int x1), (2, .int x2), (3, .int x3), (4, .int x4)] [.int (v9_longOf I h x2), .int (I (h + 8) (cl x1))] (G, I, L) 0 0 _
      refine wp_iconst (z := 1) (v := 1) (by decide +kernel) (by decide) ?_
      refine wp_isub (by decide +kernel) ?_
      refine wp_iload (i := 4) (x := x4) 4 (by decide +kernel) rfl ?_
      refine wp_isub (by decide +kernel) ?_
      refine wp_ishr (by decide +kernel) ?_
      refine wp_iconst (z := 1) (v := 1) (by decide +kernel) (by decide) ?_
      refine wp_iand (by decide +kernel) ?_
      refine wp_aload_n (z := 0) (i := 0) (r := (some h)) 0 (by decide +kernel) rfl rfl ?_
      refine wp_iload_n (z := 2) (i := 2) (x := x2) 2 (by decide +kernel) rfl rfl ?_
      refine wp_iload (i := 4) (x := x4) 4 (by decide +kernel) rfl ?_
      obtain ⟨o6, H⟩ := H
      refine wp_callV (idx := 241) (B2 := B9_markOf) (As := [.int x2, .int x4]) (a := h) (st := [.int (((I (h + 8) (cl x1)) >>> ((((v9_longOf I h x2) - 1) - x4) &&& 31)) &&& 1)]) (by decide +kernel) m9_markOf ml9_241 k9_markOf e9_markOf ck9 ok.1 (⟨Nat.le_of_ble_eq_true rfl, Nat.le_of_ble_eq_true rfl⟩ : rOK B9_isToldNow B9_markOf) rfl (Nat.le_of_ble_eq_true rfl) (Nat.le_of_ble_eq_true rfl) ⟨Nat.le_of_ble_eq_true rfl, Nat.le_of_ble_eq_true rfl⟩ rfl (wp_mono (b9_markOf (Q := (fun r I' L' => r = (v9_markOf I h x2 x4) ∧ I = I' ∧ L = L')) ok o6 ⟨rfl, rfl, rfl⟩) (fun v9 M9 hq9 => ?_))
      obtain ⟨_, _, _, rfl, rfl, rfl, rfl, rfl⟩ := hq9
      show wp X B9_isToldNow 61 [(0, .ref h), (1, .int x1), (2, .int x2), (3, .int x3), (4, .int x4)] [.int (v9_markOf I h x2 x4), .int (((I (h + 8) (cl x1)) >>> ((((v9_longOf I h x2) - 1) - x4) &&& 31)) &&& 1)] (G, I, L) 0 0 _
      refine wp_icmp_ne (off := 7) (tgt := 68) (by decide +kernel) (by decide) (fun c5 => ?_) (fun c5 => ?_)
      · rw [if_neg c5] at H
        refine wp_iconst (z := 0) (v := 0) (by decide +kernel) (by decide) ?_
        refine wp_istore_n (z := 3) (i := 3) (lv' := [(3, .int 0), (0, .ref h), (1, .int x1), (2, .int x2), (4, .int x4)]) (by decide +kernel) rfl (by decide) rfl ?_
        refine wp_iinc (i := 4) (z := 1) (v := 1) (lv' := [(4, .int (x4 + 1)), (3, .int 0), (0, .ref h), (1, .int x1), (2, .int x2)]) 4 (by decide +kernel) rfl (by decide) (by decide) rfl ?_
        refine wp_goto (off := -52) (tgt := 21) (by decide +kernel) (by decide) ?_
        exact wp_sub [2, 3, 4, 1, 0] rfl H
      · rw [if_pos c5] at H
        refine wp_iconst (z := 1) (v := 1) (by decide +kernel) (by decide) ?_
        refine wp_goto (off := 4) (tgt := 69) (by decide +kernel) (by decide) ?_
        refine wp_istore_n (z := 3) (i := 3) (lv' := [(3, .int 1), (0, .ref h), (1, .int x1), (2, .int x2), (4, .int x4)]) (by decide +kernel) rfl (by decide) rfl ?_
        refine wp_iinc (i := 4) (z := 1) (v := 1) (lv' := [(4, .int (x4 + 1)), (3, .int 1), (0, .ref h), (1, .int x1), (2, .int x2)]) 4 (by decide +kernel) rfl (by decide) (by decide) rfl ?_
        refine wp_goto (off := -52) (tgt := 21) (by decide +kernel) (by decide) ?_
        exact wp_sub [2, 3, 4, 1, 0] rfl H
