/-! DeafWallModel.feed(IIIII)I -/
set_option maxRecDepth 20000 in
theorem b9_feed {X : XX} {G : GG} {I : Nat → Nat → Int32} {L : Nat → Nat → Int64} {h : Nat} {x1 : Int32} {x2 : Int32} {x3 : Int32} {x4 : Int32} {x5 : Int32} {Q : Int32 → (Nat → Nat → Int32) → (Nat → Nat → Int64) → Prop} (ok : OK9 G h) (H : if ((I (h + 1) 4) + 20) ≤ 600 then (wpI X B9_feed 20 [(0, .ref h), (1, .int x1), (2, .int x2), (3, .int x3), (4, .int x4), (5, .int x5), (6, .int 0)] [] G I L Q) else (Q (-1) I L)) : wpI X B9_feed 0 [(0, .ref h), (1, .int x1), (2, .int x2), (3, .int x3), (4, .int x4), (5, .int x5)] [] G I L Q := by
  refine wp_aload_n (z := 0) (i := 0) (r := (some h)) 0 (by decide +kernel) rfl rfl ?_
  refine wp_getS (idx := 7) (q := (h + 1)) (by decide +kernel) fl9_7 rfl ok.1 (okr9_0 ok) ?_
  refine wp_iconst (z := 4) (v := 4) (by decide +kernel) (by decide) ?_
  refine wp_iald (j := 4) (by decide +kernel) (oks9_0 ok) (vin_c (by decide)) (by decide) ?_
  refine wp_bipush (z := 20) (v := 20) (by decide +kernel) (by decide) ?_
  refine wp_iadd (by decide +kernel) ?_
  refine wp_sipush (z := 600) (v := 600) (by decide +kernel) (by decide) ?_
  refine wp_icmp_le (off := 5) (tgt := 17) (by decide +kernel) (by decide) (fun c1 => ?_) (fun c1 => ?_)
  · rw [if_pos c1] at H
    refine wp_iconst (z := 0) (v := 0) (by decide +kernel) (by decide) ?_
    refine wp_istore (i := 6) (lv' := [(6, .int 0), (0, .ref h), (1, .int x1), (2, .int x2), (3, .int x3), (4, .int x4), (5, .int x5)]) (by decide +kernel) (by decide) rfl ?_
    exact wp_sub [1, 2, 3, 4, 5, 6, 0] rfl H
  · rw [if_neg c1] at H
    refine wp_iconst (z := -1) (v := (-1)) (by decide +kernel) (by decide) ?_
    exact wp_iret (by decide +kernel) rfl (Nat.zero_le _) (Nat.zero_le _) ⟨_, _, _, rfl, rfl, H⟩
set_option maxRecDepth 20000 in
theorem b9_feed_20 {X : XX} {G : GG} {I : Nat → Nat → Int32} {L : Nat → Nat → Int64} {h : Nat} {x1 : Int32} {x2 : Int32} {x3 : Int32} {x4 : Int32} {x5 : Int32} {x6 : Int32} {Q : Int32 → (Nat → Nat → Int32) → (Nat → Nat → Int64) → Prop} (ok : OK9 G h) (H : if 20 ≤ x6 then (Q (I (h + 1) 4) I L) else (if 4 ≤ x6 then (if 8 ≤ x6 then (if 12 ≤ x6 then (if 16 ≤ x6 then (wpI X B9_feed 73 [(0, .ref h), (1, .int x1), (2, .int x2), (3, .int x3), (4, .int x4), (5, .int x5), (6, .int x6)] [.int x5] G I L Q) else (wpI X B9_feed 73 [(0, .ref h), (1, .int x1), (2, .int x2), (3, .int x3), (4, .int x4), (5, .int x5), (6, .int x6)] [.int x4] G I L Q)) else (wpI X B9_feed 73 [(0, .ref h), (1, .int x1), (2, .int x2), (3, .int x3), (4, .int x4), (5, .int x5), (6, .int x6)] [.int x3] G I L Q)) else (wpI X B9_feed 73 [(0, .ref h), (1, .int x1), (2, .int x2), (3, .int x3), (4, .int x4), (5, .int x5), (6, .int x6)] [.int x2] G I L Q)) else (wpI X B9_feed 73 [(0, .ref h), (1, .int x1), (2, .int x2), (3, .int x3), (4, .int x4), (5, .int x5), (6, .int x6)] [.int x1] G I L Q))) : wpI X B9_feed 20 [(0, .ref h), (1, .int x1), (2, .int x2), (3, .int x3), (4, .int x4), (5, .int x5), (6, .int x6)] [] G I L Q := by
  refine wp_iload (i := 6) (x := x6) 6 (by decide +kernel) rfl ?_
  refine wp_bipush (z := 20) (v := 20) (by decide +kernel) (by decide) ?_
  refine wp_icmp_ge (off := 98) (tgt := 122) (by decide +kernel) (by decide) (fun c1 => ?_) (fun c1 => ?_)
  · rw [if_pos c1] at H
    refine wp_aload_n (z := 0) (i := 0) (r := (some h)) 0 (by decide +kernel) rfl rfl ?_
    refine wp_getS (idx := 7) (q := (h + 1)) (by decide +kernel) fl9_7 rfl ok.1 (okr9_0 ok) ?_
    refine wp_iconst (z := 4) (v := 4) (by decide +kernel) (by decide) ?_
    refine wp_iald (j := 4) (by decide +kernel) (oks9_0 ok) (vin_c (by decide)) (by decide) ?_
    exact wp_iret (by decide +kernel) rfl (Nat.zero_le _) (Nat.zero_le _) ⟨_, _, _, rfl, rfl, H⟩
  · rw [if_neg c1] at H
    refine wp_iload (i := 6) (x := x6) 6 (by decide +kernel) rfl ?_
    refine wp_iconst (z := 4) (v := 4) (by decide +kernel) (by decide) ?_
    refine wp_icmp_ge (off := 7) (tgt := 37) (by decide +kernel) (by decide) (fun c2 => ?_) (fun c2 => ?_)
    · rw [if_pos c2] at H
      refine wp_iload (i := 6) (x := x6) 6 (by decide +kernel) rfl ?_
      refine wp_bipush (z := 8) (v := 8) (by decide +kernel) (by decide) ?_
      refine wp_icmp_ge (off := 7) (tgt := 48) (by decide +kernel) (by decide) (fun c3 => ?_) (fun c3 => ?_)
      · rw [if_pos c3] at H
        refine wp_iload (i := 6) (x := x6) 6 (by decide +kernel) rfl ?_
        refine wp_bipush (z := 12) (v := 12) (by decide +kernel) (by decide) ?_
        refine wp_icmp_ge (off := 7) (tgt := 59) (by decide +kernel) (by decide) (fun c4 => ?_) (fun c4 => ?_)
        · rw [if_pos c4] at H
          refine wp_iload (i := 6) (x := x6) 6 (by decide +kernel) rfl ?_
          refine wp_bipush (z := 16) (v := 16) (by decide +kernel) (by decide) ?_
          refine wp_icmp_ge (off := 8) (tgt := 71) (by decide +kernel) (by decide) (fun c5 => ?_) (fun c5 => ?_)
          · rw [if_pos c5] at H
            refine wp_iload (i := 5) (x := x5) 5 (by decide +kernel) rfl ?_
            exact wp_sub [0, 1, 2, 3, 4, 5, 6] rfl H
          · rw [if_neg c5] at H
            refine wp_iload (i := 4) (x := x4) 4 (by decide +kernel) rfl ?_
            refine wp_goto (off := 5) (tgt := 73) (by decide +kernel) (by decide) ?_
            exact wp_sub [0, 1, 2, 3, 4, 5, 6] rfl H
        · rw [if_neg c4] at H
          refine wp_iload_n (z := 3) (i := 3) (x := x3) 3 (by decide +kernel) rfl rfl ?_
          refine wp_goto (off := 17) (tgt := 73) (by decide +kernel) (by decide) ?_
          exact wp_sub [0, 1, 2, 3, 4, 5, 6] rfl H
      · rw [if_neg c3] at H
        refine wp_iload_n (z := 2) (i := 2) (x := x2) 2 (by decide +kernel) rfl rfl ?_
        refine wp_goto (off := 28) (tgt := 73) (by decide +kernel) (by decide) ?_
        exact wp_sub [0, 1, 2, 3, 4, 5, 6] rfl H
    · rw [if_neg c2] at H
      refine wp_iload_n (z := 1) (i := 1) (x := x1) 1 (by decide +kernel) rfl rfl ?_
      refine wp_goto (off := 39) (tgt := 73) (by decide +kernel) (by decide) ?_
      exact wp_sub [0, 1, 2, 3, 4, 5, 6] rfl H
set_option maxRecDepth 20000 in
theorem b9_feed_73 {X : XX} {G : GG} {I : Nat → Nat → Int32} {L : Nat → Nat → Int64} {h : Nat} {x1 : Int32} {x2 : Int32} {x3 : Int32} {x4 : Int32} {x5 : Int32} {x6 : Int32} {z0 : Int32} {Q : Int32 → (Nat → Nat → Int32) → (Nat → Nat → Int64) → Prop} (ok : OK9 G h) (H : vp_in (10 + (I (h + 1) 4)) 4096 ∧ (∀ I1, I1 = up2 I (h + 1) (cl (10 + (I (h + 1) 4))) ((z0 >>> ((24 - (8 * (x6 - x6 / 4 * 4))) &&& 31)) &&& 255) → ∀ I2, I2 = up2 I1 (h + 1) 4 ((I1 (h + 1) 4) + 1) → wpI X B9_feed 20 [(0, .ref h), (1, .int x1), (2, .int x2), (3, .int x3), (4, .int x4), (5, .int x5), (6, .int (x6 + 1))] [] G I2 L Q)) : wpI X B9_feed 73 [(0, .ref h), (1, .int x1), (2, .int x2), (3, .int x3), (4, .int x4), (5, .int x5), (6, .int x6)] [.int z0] G I L Q := by
  refine wp_istore (i := 7) (lv' := [(7, .int z0), (0, .ref h), (1, .int x1), (2, .int x2), (3, .int x3), (4, .int x4), (5, .int x5), (6, .int x6)]) (by decide +kernel) (by decide) rfl ?_
  refine wp_aload_n (z := 0) (i := 0) (r := (some h)) 1 (by decide +kernel) rfl rfl ?_
  refine wp_getS (idx := 7) (q := (h + 1)) (by decide +kernel) fl9_7 rfl ok.1 (okr9_0 ok) ?_
  refine wp_bipush (z := 10) (v := 10) (by decide +kernel) (by decide) ?_
  refine wp_aload_n (z := 0) (i := 0) (r := (some h)) 1 (by decide +kernel) rfl rfl ?_
  refine wp_getS (idx := 7) (q := (h + 1)) (by decide +kernel) fl9_7 rfl ok.1 (okr9_0 ok) ?_
  refine wp_iconst (z := 4) (v := 4) (by decide +kernel) (by decide) ?_
  refine wp_iald (j := 4) (by decide +kernel) (oks9_0 ok) (vin_c (by decide)) (by decide) ?_
  refine wp_iadd (by decide +kernel) ?_
  refine wp_iload (i := 7) (x := z0) 0 (by decide +kernel) rfl ?_
  refine wp_bipush (z := 24) (v := 24) (by decide +kernel) (by decide) ?_
  refine wp_bipush (z := 8) (v := 8) (by decide +kernel) (by decide) ?_
  refine wp_iload (i := 6) (x := x6) 7 (by decide +kernel) rfl ?_
  refine wp_iconst (z := 4) (v := 4) (by decide +kernel) (by decide) ?_
  refine wp_irem (by decide +kernel) (by decide) ?_
  refine wp_imul (by decide +kernel) ?_
  refine wp_isub (by decide +kernel) ?_
  refine wp_ishr (by decide +kernel) ?_
  refine wp_sipush (z := 255) (v := 255) (by decide +kernel) (by decide) ?_
  refine wp_iand (by decide +kernel) ?_
  obtain ⟨o3, H⟩ := H
  refine wp_iast (j := (cl (10 + (I (h + 1) 4)))) (by decide +kernel) (oks9_0 ok) o3 rfl ?_
  refine wp_memI (fun I1 eI1 => ?_)
  replace H := H I1 eI1
  refine wp_aload_n (z := 0) (i := 0) (r := (some h)) 1 (by decide +kernel) rfl rfl ?_
  refine wp_getS (idx := 7) (q := (h + 1)) (by decide +kernel) fl9_7 rfl ok.1 (okr9_0 ok) ?_
  refine wp_iconst (z := 4) (v := 4) (by decide +kernel) (by decide) ?_
  refine wp_dup2 (by decide +kernel) rfl rfl ?_
  refine wp_iald (j := 4) (by decide +kernel) (oks9_0 ok) (vin_c (by decide)) (by decide) ?_
  refine wp_iconst (z := 1) (v := 1) (by decide +kernel) (by decide) ?_
  refine wp_iadd (by decide +kernel) ?_
  refine wp_iast (j := 4) (by decide +kernel) (oks9_0 ok) (vin_c (by decide)) (by decide) ?_
  refine wp_memI (fun I2 eI2 => ?_)
  replace H := H I2 eI2
  refine wp_iinc (i := 6) (z := 1) (v := 1) (lv' := [(6, .int (x6 + 1)), (7, .int z0), (0, .ref h), (1, .int x1), (2, .int x2), (3, .int x3), (4, .int x4), (5, .int x5)]) 7 (by decide +kernel) rfl (by decide) (by decide) rfl ?_
  refine wp_goto (off := -99) (tgt := 20) (by decide +kernel) (by decide) ?_
  exact wp_sub [2, 3, 4, 5, 6, 7, 0] rfl H
/-! DeafWallModel.end(I)I -/
set_option maxRecDepth 20000 in
theorem b9_end {X : XX} {G : GG} {I : Nat → Nat → Int32} {L : Nat → Nat → Int64} {h : Nat} {x1 : Int32} {Q : Int32 → (Nat → Nat → Int32) → (Nat → Nat → Int64) → Prop} (ok : OK9 G h) (H : if x1 < (0 : Int32) then (Q (-1) I L) else (if x1 ≤ (I (h + 1) 4) then (∀ I3, I3 = up2 I (h + 1) 4 x1 → Q x1 I3 L) else (Q (-1) I L))) : wpI X B9_end 0 [(0, .ref h), (1, .int x1)] [] G I L Q := by
  refine wp_iload_n (z := 1) (i := 1) (x := x1) 1 (by decide +kernel) rfl rfl ?_
  refine wp_if_lt (off := 13) (tgt := 14) (by decide +kernel) (by decide) (fun c1 => ?_) (fun c1 => ?_)
  · rw [if_pos c1] at H
    refine wp_iconst (z := -1) (v := (-1)) (by decide +kernel) (by decide) ?_
    exact wp_iret (by decide +kernel) rfl (Nat.zero_le _) (Nat.zero_le _) ⟨_, _, _, rfl, rfl, H⟩
  · rw [if_neg c1] at H
    refine wp_iload_n (z := 1) (i := 1) (x := x1) 1 (by decide +kernel) rfl rfl ?_
    refine wp_aload_n (z := 0) (i := 0) (r := (some h)) 0 (by decide +kernel) rfl rfl ?_
    refine wp_getS (idx := 7) (q := (h + 1)) (by decide +kernel) fl9_7 rfl ok.1 (okr9_0 ok) ?_
    refine wp_iconst (z := 4) (v := 4) (by decide +kernel) (by decide) ?_
    refine wp_iald (j := 4) (by decide +kernel) (oks9_0 ok) (vin_c (by decide)) (by decide) ?_
    refine wp_icmp_le (off := 5) (tgt := 16) (by decide +kernel) (by decide) (fun c2 => ?_) (fun c2 => ?_)
    · rw [if_pos c2] at H
      refine wp_aload_n (z := 0) (i := 0) (r := (some h)) 0 (by decide +kernel) rfl rfl ?_
      refine wp_getS (idx := 7) (q := (h + 1)) (by decide +kernel) fl9_7 rfl ok.1 (okr9_0 ok) ?_
      refine wp_iconst (z := 4) (v := 4) (by decide +kernel) (by decide) ?_
      refine wp_iload_n (z := 1) (i := 1) (x := x1) 1 (by decide +kernel) rfl rfl ?_
      refine wp_iast (j := 4) (by decide +kernel) (oks9_0 ok) (vin_c (by decide)) (by decide) ?_
      refine wp_memI (fun I3 eI3 => ?_)
      replace H := H I3 eI3
      refine wp_iload_n (z := 1) (i := 1) (x := x1) 1 (by decide +kernel) rfl rfl ?_
      exact wp_iret (by decide +kernel) rfl (Nat.zero_le _) (Nat.zero_le _) ⟨_, _, _, rfl, rfl, H⟩
    · rw [if_neg c2] at H
      refine wp_iconst (z := -1) (v := (-1)) (by decide +kernel) (by decide) ?_
      exact wp_iret (by decide +kernel) rfl (Nat.zero_le _) (Nat.zero_le _) ⟨_, _, _, rfl, rfl, H⟩
/-! DeafWallModel.advance()V -/
set_option maxRecDepth 20000 in
theorem b9_advance {X : XX} {G : GG} {I : Nat → Nat → Int32} {L : Nat → Nat → Int64} {h : Nat} {Q : (Nat → Nat → Int32) → (Nat → Nat → Int64) → Prop} (ok : OK9 G h) (H : p9_byteAt I h (I h 3) ∧ (if (v9_byteAt I h (I h 3)) = 10 then (∀ I2, I2 = up2 I h 3 ((I h 3) + 1) → wpV X B9_advance 0 [(0, .ref h)] [] G I2 L Q) else (p9_byteAt I h (I h 3) ∧ (if (v9_byteAt I h (I h 3)) = 32 then (∀ I16, I16 = up2 I h 3 ((I h 3) + 1) → wpV X B9_advance 0 [(0, .ref h)] [] G I16 L Q) else (∀ I4, I4 = up2 I h 4 (I h 3) → p9_byteAt I4 h (I4 h 3) ∧ (∀ u5, u5 = (v9_byteAt I4 h (I4 h 3)) → if (0 : Int32) ≤ u5 then (if (v9_isLetter u5) = (0 : Int32) then (if (v9_isDigit u5) = (0 : Int32) then (∀ I9, I9 = up2 I4 h 3 ((I4 h 3) + 1) → if u5 = 59 then (∀ I12, I12 = up2 I9 h 5 2 → Q I12 L) else (∀ I11, I11 = up2 I9 h 5 4 → Q I11 L)) else (∀ I13, I13 = up2 I4 h 6 0 → wpV X B9_advance 198 [(0, .ref h)] [] G I13 L Q)) else (wpV X B9_advance 77 [(0, .ref h), (2, .long 0)] [] G I4 L Q)) else (∀ I14, I14 = up2 I4 h 5 0 → Q I14 L))))))) : wpV X B9_advance 0 [(0, .ref h)] [] G I L Q := by
  refine wp_aload_n (z := 0) (i := 0) (r := (some h)) 0 (by decide +kernel) rfl rfl ?_
  refine wp_aload_n (z := 0) (i := 0) (r := (some h)) 0 (by decide +kernel) rfl rfl ?_
  refine wp_getI (idx := 80) (by decide +kernel) fl9_80 rfl ok.1 ?_
  obtain ⟨o18, H⟩ := H
  refine wp_callV (idx := 83) (B2 := B9_byteAt) (As := [.int (I h 3)]) (a := h) (st := []) (by decide +kernel) m9_byteAt ml9_83 k9_byteAt e9_byteAt ck9 ok.1 (⟨Nat.le_of_ble_eq_true rfl, Nat.le_of_ble_eq_true rfl⟩ : rOK B9_advance B9_byteAt) rfl (Nat.le_of_ble_eq_true rfl) (Nat.le_of_ble_eq_true rfl) ⟨Nat.le_of_ble_eq_true rfl, Nat.le_of_ble_eq_true rfl⟩ rfl (wp_mono (b9_byteAt (Q := (fun r I' L' => r = (v9_byteAt I h (I h 3)) ∧ I = I' ∧ L = L')) ok o18 ⟨rfl, rfl, rfl⟩) (fun v9 M9 hq9 => ?_))
  obtain ⟨_, _, _, rfl, rfl, rfl, rfl, rfl⟩ := hq9
  show wp X B9_advance 8 [(0, .ref h)] [.int (v9_byteAt I h (I h 3))] (G, I, L) 0 0 _
  refine wp_bipush (z := 10) (v := 10) (by decide +kernel) (by decide) ?_
  refine wp_icmp_eq (off := 16) (tgt := 26) (by decide +kernel) (by decide) (fun c1 => ?_) (fun c1 => ?_)
  · rw [if_pos c1] at H
    refine wp_aload_n (z := 0) (i := 0) (r := (some h)) 0 (by decide +kernel) rfl rfl ?_
    refine wp_dup (by decide +kernel) rfl ?_
    refine wp_getI (idx := 80) (by decide +kernel) fl9_80 rfl ok.1 ?_
    refine wp_iconst (z := 1) (v := 1) (by decide +kernel) (by decide) ?_
    refine wp_iadd (by decide +kernel) ?_
    refine wp_putI (idx := 80) (by decide +kernel) fl9_80 rfl ok.1 ?_
    refine wp_memI (fun I2 eI2 => ?_)
    replace H := H I2 eI2
    refine wp_goto (off := -36) (tgt := 0) (by decide +kernel) (by decide) ?_
    exact wp_sub [0] rfl H
  · rw [if_neg c1] at H
    refine wp_aload_n (z := 0) (i := 0) (r := (some h)) 0 (by decide +kernel) rfl rfl ?_
    refine wp_aload_n (z := 0) (i := 0) (r := (some h)) 0 (by decide +kernel) rfl rfl ?_
    refine wp_getI (idx := 80) (by decide +kernel) fl9_80 rfl ok.1 ?_
    obtain ⟨o17, H⟩ := H
    refine wp_callV (idx := 83) (B2 := B9_byteAt) (As := [.int (I h 3)]) (a := h) (st := []) (by decide +kernel) m9_byteAt ml9_83 k9_byteAt e9_byteAt ck9 ok.1 (⟨Nat.le_of_ble_eq_true rfl, Nat.le_of_ble_eq_true rfl⟩ : rOK B9_advance B9_byteAt) rfl (Nat.le_of_ble_eq_true rfl) (Nat.le_of_ble_eq_true rfl) ⟨Nat.le_of_ble_eq_true rfl, Nat.le_of_ble_eq_true rfl⟩ rfl (wp_mono (b9_byteAt (Q := (fun r I' L' => r = (v9_byteAt I h (I h 3)) ∧ I = I' ∧ L = L')) ok o17 ⟨rfl, rfl, rfl⟩) (fun v9 M9 hq9 => ?_))
    obtain ⟨_, _, _, rfl, rfl, rfl, rfl, rfl⟩ := hq9
    show wp X B9_advance 21 [(0, .ref h)] [.int (v9_byteAt I h (I h 3))] (G, I, L) 0 0 _
    refine wp_bipush (z := 32) (v := 32) (by decide +kernel) (by decide) ?_
    refine wp_icmp_ne (off := 16) (tgt := 39) (by decide +kernel) (by decide) (fun c3 => ?_) (fun c3 => ?_)
    · rw [if_neg c3] at H
      refine wp_aload_n (z := 0) (i := 0) (r := (some h)) 0 (by decide +kernel) rfl rfl ?_
      refine wp_aload_n (z := 0) (i := 0) (r := (some h)) 0 (by decide +kernel) rfl rfl ?_
      refine wp_getI (idx := 80) (by decide +kernel) fl9_80 rfl ok.1 ?_
      refine wp_putI (idx := 87) (by decide +kernel) fl9_87 rfl ok.1 ?_
      refine wp_memI (fun I4 eI4 => ?_)
      replace H := H I4 eI4
      refine wp_aload_n (z := 0) (i := 0) (r := (some h)) 0 (by decide +kernel) rfl rfl ?_
      refine wp_aload_n (z := 0) (i := 0) (r := (some h)) 0 (by decide +kernel) rfl rfl ?_
      refine wp_getI (idx := 80) (by decide +kernel) fl9_80 rfl ok.1 ?_
      obtain ⟨o15, H⟩ := H
      refine wp_callV (idx := 83) (B2 := B9_byteAt) (As := [.int (I4 h 3)]) (a := h) (st := []) (by decide +kernel) m9_byteAt ml9_83 k9_byteAt e9_byteAt ck9 ok.1 (⟨Nat.le_of_ble_eq_true rfl, Nat.le_of_ble_eq_true rfl⟩ : rOK B9_advance B9_byteAt) rfl (Nat.le_of_ble_eq_true rfl) (Nat.le_of_ble_eq_true rfl) ⟨Nat.le_of_ble_eq_true rfl, Nat.le_of_ble_eq_true rfl⟩ rfl (wp_mono (b9_byteAt (Q := (fun r I' L' => r = (v9_byteAt I4 h (I4 h 3)) ∧ I4 = I' ∧ L = L')) ok o15 ⟨rfl, rfl, rfl⟩) (fun v9 M9 hq9 => ?_))
      obtain ⟨_, _, _, rfl, rfl, rfl, rfl, rfl⟩ := hq9
      show wp X B9_advance 55 [(0, .ref h)] [.int (v9_byteAt I4 h (I4 h 3))] (G, I4, L) 0 0 _
      refine wp_topi (fun u5 eu5 => ?_)
      replace H := H u5 eu5
      refine wp_istore_n (z := 1) (i := 1) (lv' := [(1, .int u5), (0, .ref h)]) (by decide +kernel) rfl (by decide) rfl ?_
      refine wp_iload_n (z := 1) (i := 1) (x := u5) 0 (by decide +kernel) rfl rfl ?_
      refine wp_if_ge (off := 11) (tgt := 68) (by decide +kernel) (by decide) (fun c6 => ?_) (fun c6 => ?_)
      · rw [if_pos c6] at H
        refine wp_iload_n (z := 1) (i := 1) (x := u5) 0 (by decide +kernel) rfl rfl ?_
        refine wp_callS (idx := 93) (B2 := B9_isLetter) (As := [.int u5]) (st := []) (by decide +kernel) m9_isLetter ml9_93 k9_isLetter (⟨Nat.le_of_ble_eq_true rfl, Nat.le_of_ble_eq_true rfl⟩ : rOK B9_advance B9_isLetter) rfl (Nat.le_of_ble_eq_true rfl) (Nat.le_of_ble_eq_true rfl) ⟨Nat.le_of_ble_eq_true rfl, Nat.le_of_ble_eq_true rfl⟩ rfl (wp_mono (b9_isLetter (Q := (fun r I' L' => r = (v9_isLetter u5) ∧ I4 = I' ∧ L = L'))  ⟨rfl, rfl, rfl⟩) (fun v9 M9 hq9 => ?_))
        obtain ⟨_, _, _, rfl, rfl, rfl, rfl, rfl⟩ := hq9
        show wp X B9_advance 72 [(1, .int u5), (0, .ref h)] [.int (v9_isLetter u5)] (G, I4, L) 0 0 _
        refine wp_if_eq (off := 114) (tgt := 186) (by decide +kernel) (by decide) (fun c7 => ?_) (fun c7 => ?_)
        · rw [if_pos c7] at H
          refine wp_iload_n (z := 1) (i := 1) (x := u5) 0 (by decide +kernel) rfl rfl ?_
          refine wp_callS (idx := 108) (B2 := B9_isDigit) (As := [.int u5]) (st := []) (by decide +kernel) m9_isDigit ml9_108 k9_isDigit (⟨Nat.le_of_ble_eq_true rfl, Nat.le_of_ble_eq_true rfl⟩ : rOK B9_advance B9_isDigit) rfl (Nat.le_of_ble_eq_true rfl) (Nat.le_of_ble_eq_true rfl) ⟨Nat.le_of_ble_eq_true rfl, Nat.le_of_ble_eq_true rfl⟩ rfl (wp_mono (b9_isDigit (Q := (fun r I' L' => r = (v9_isDigit u5) ∧ I4 = I' ∧ L = L'))  ⟨rfl, rfl, rfl⟩) (fun v9 M9 hq9 => ?_))
          obtain ⟨_, _, _, rfl, rfl, rfl, rfl, rfl⟩ := hq9
          show wp X B9_advance 190 [(1, .int u5), (0, .ref h)] [.int (v9_isDigit u5)] (G, I4, L) 0 0 _
          refine wp_if_eq (off := 96) (tgt := 286) (by decide +kernel) (by decide) (fun c8 => ?_) (fun c8 => ?_)
          · rw [if_pos c8] at H
            refine wp_aload_n (z := 0) (i := 0) (r := (some h)) 1 (by decide +kernel) rfl rfl ?_
            refine wp_dup (by decide +kernel) rfl ?_
            refine wp_getI (idx := 80) (by decide +kernel) fl9_80 rfl ok.1 ?_
            refine wp_iconst (z := 1) (v := 1) (by decide +kernel) (by decide) ?_
            refine wp_iadd (by decide +kernel) ?_
            refine wp_putI (idx := 80) (by decide +kernel) fl9_80 rfl ok.1 ?_
            refine wp_memI (fun I9 eI9 => ?_)
            replace H := H I9 eI9
            refine wp_aload_n (z := 0) (i := 0) (r := (some h)) 1 (by decide +kernel) rfl rfl ?_
            refine wp_iload_n (z := 1) (i := 1) (x := u5) 0 (by decide +kernel) rfl rfl ?_
            refine wp_bipush (z := 59) (v := 59) (by decide +kernel) (by decide) ?_
            refine wp_icmp_ne (off := 7) (tgt := 307) (by decide +kernel) (by decide) (fun c10 => ?_) (fun c10 => ?_)
            · rw [if_neg c10] at H
              refine wp_iconst (z := 4) (v := 4) (by decide +kernel) (by decide) ?_
              refine wp_putI (idx := 90) (by decide +kernel) fl9_90 rfl ok.1 ?_
              refine wp_memI (fun I11 eI11 => ?_)
              replace H := H I11 eI11
              exact wp_vret (by decide +kernel) rfl (Nat.zero_le _) (Nat.zero_le _) ⟨_, _, rfl, rfl, H⟩
            · rw [if_pos c10] at H
              refine wp_iconst (z := 2) (v := 2) (by decide +kernel) (by decide) ?_
              refine wp_goto (off := 4) (tgt := 308) (by decide +kernel) (by decide) ?_
              refine wp_putI (idx := 90) (by decide +kernel) fl9_90 rfl ok.1 ?_
              refine wp_memI (fun I12 eI12 => ?_)
              replace H := H I12 eI12
              exact wp_vret (by decide +kernel) rfl (Nat.zero_le _) (Nat.zero_le _) ⟨_, _, rfl, rfl, H⟩
          · rw [if_neg c8] at H
            refine wp_aload_n (z := 0) (i := 0) (r := (some h)) 1 (by decide +kernel) rfl rfl ?_
            refine wp_iconst (z := 0) (v := 0) (by decide +kernel) (by decide) ?_
            refine wp_putI (idx := 111) (by decide +kernel) fl9_111 rfl ok.1 ?_
            refine wp_memI (fun I13 eI13 => ?_)
            replace H := H I13 eI13
            exact wp_sub [1] rfl H
        · rw [if_neg c7] at H
          refine wp_lconst (z := 0) (v := 0) (by decide +kernel) (by decide) ?_
          refine wp_lstore_n (z := 2) (i := 2) (lv' := [(2, .long 0), (1, .int u5), (0, .ref h)]) (by decide +kernel) rfl (by decide) rfl ?_
          exact wp_sub [2, 0] rfl H
      · rw [if_neg c6] at H
        refine wp_aload_n (z := 0) (i := 0) (r := (some h)) 1 (by decide +kernel) rfl rfl ?_
        refine wp_iconst (z := 0) (v := 0) (by decide +kernel) (by decide) ?_
        refine wp_putI (idx := 90) (by decide +kernel) fl9_90 rfl ok.1 ?_
        refine wp_memI (fun I14 eI14 => ?_)
        replace H := H I14 eI14
        refine wp_goto (off := 246) (tgt := 311) (by decide +kernel) (by decide) ?_
        exact wp_vret (by decide +kernel) rfl (Nat.zero_le _) (Nat.zero_le _) ⟨_, _, rfl, rfl, H⟩
    · rw [if_pos c3] at H
      refine wp_aload_n (z := 0) (i := 0) (r := (some h)) 0 (by decide +kernel) rfl rfl ?_
      refine wp_dup (by decide +kernel) rfl ?_
      refine wp_getI (idx := 80) (by decide +kernel) fl9_80 rfl ok.1 ?_
      refine wp_iconst (z := 1) (v := 1) (by decide +kernel) (by decide) ?_
      refine wp_iadd (by decide +kernel) ?_
      refine wp_putI (idx := 80) (by decide +kernel) fl9_80 rfl ok.1 ?_
      refine wp_memI (fun I16 eI16 => ?_)
      replace H := H I16 eI16
      refine wp_goto (off := -36) (tgt := 0) (by decide +kernel) (by decide) ?_
      exact wp_sub [0] rfl H
set_option maxRecDepth 20000 in
theorem b9_advance_77 {X : XX} {G : GG} {I : Nat → Nat → Int32} {L : Nat → Nat → Int64} {h : Nat} {x2 : Int64} {Q : (Nat → Nat → Int32) → (Nat → Nat → Int64) → Prop} (ok : OK9 G h) (H : p9_byteAt I h (I h 3) ∧ (if (v9_isLetter (v9_byteAt I h (I h 3))) = (0 : Int32) then (if ((I h 3) - (I h 4)) ≤ 8 then (∀ I3, I3 = up2 I h 7 (v9_wordOf x2) → if (I3 h 7) = 99 then (∀ I6, I6 = up2 I3 h 5 4 → Q I6 L) else (∀ I5, I5 = up2 I3 h 5 3 → Q I5 L)) else (∀ I7, I7 = up2 I h 7 99 → if (I7 h 7) = 99 then (∀ I10, I10 = up2 I7 h 5 4 → Q I10 L) else (∀ I9, I9 = up2 I7 h 5 3 → Q I9 L))) else (if 8 ≤ ((I h 3) - (I h 4)) then (∀ I12, I12 = up2 I h 3 ((I h 3) + 1) → wpV X B9_advance 77 [(0, .ref h), (2, .long x2)] [] G I12 L Q) else (p9_byteAt I h (I h 3) ∧ (∀ u13, u13 = (((32 * x2) + (Int32.toInt64 (v9_byteAt I h (I h 3)))) - 96) → ∀ I14, I14 = up2 I h 3 ((I h 3) + 1) → wpV X B9_advance 77 [(0, .ref h), (2, .long u13)] [] G I14 L Q))))) : wpV X B9_advance 77 [(0, .ref h), (2, .long x2)] [] G I L Q := by
  refine wp_aload_n (z := 0) (i := 0) (r := (some h)) 0 (by decide +kernel) rfl rfl ?_
  refine wp_aload_n (z := 0) (i := 0) (r := (some h)) 0 (by decide +kernel) rfl rfl ?_
  refine wp_getI (idx := 80) (by decide +kernel) fl9_80 rfl ok.1 ?_
  obtain ⟨o16, H⟩ := H
  refine wp_callV (idx := 83) (B2 := B9_byteAt) (As := [.int (I h 3)]) (a := h) (st := []) (by decide +kernel) m9_byteAt ml9_83 k9_byteAt e9_byteAt ck9 ok.1 (⟨Nat.le_of_ble_eq_true rfl, Nat.le_of_ble_eq_true rfl⟩ : rOK B9_advance B9_byteAt) rfl (Nat.le_of_ble_eq_true rfl) (Nat.le_of_ble_eq_true rfl) ⟨Nat.le_of_ble_eq_true rfl, Nat.le_of_ble_eq_true rfl⟩ rfl (wp_mono (b9_byteAt (Q := (fun r I' L' => r = (v9_byteAt I h (I h 3)) ∧ I = I' ∧ L = L')) ok o16 ⟨rfl, rfl, rfl⟩) (fun v9 M9 hq9 => ?_))
  obtain ⟨_, _, _, rfl, rfl, rfl, rfl, rfl⟩ := hq9
  show wp X B9_advance 85 [(0, .ref h), (2, .long x2)] [.int (v9_byteAt I h (I h 3))] (G, I, L) 0 0 _
  refine wp_callS (idx := 93) (B2 := B9_isLetter) (As := [.int (v9_byteAt I h (I h 3))]) (st := []) (by decide +kernel) m9_isLetter ml9_93 k9_isLetter (⟨Nat.le_of_ble_eq_true rfl, Nat.le_of_ble_eq_true rfl⟩ : rOK B9_advance B9_isLetter) rfl (Nat.le_of_ble_eq_true rfl) (Nat.le_of_ble_eq_true rfl) ⟨Nat.le_of_ble_eq_true rfl, Nat.le_of_ble_eq_true rfl⟩ rfl (wp_mono (b9_isLetter (Q := (fun r I' L' => r = (v9_isLetter (v9_byteAt I h (I h 3))) ∧ I = I' ∧ L = L'))  ⟨rfl, rfl, rfl⟩) (fun v9 M9 hq9 => ?_))
  obtain ⟨_, _, _, rfl, rfl, rfl, rfl, rfl⟩ := hq9
  show wp X B9_advance 88 [(0, .ref h), (2, .long x2)] [.int (v9_isLetter (v9_byteAt I h (I h 3)))] (G, I, L) 0 0 _
  refine wp_if_eq (off := 50) (tgt := 138) (by decide +kernel) (by decide) (fun c1 => ?_) (fun c1 => ?_)
  · rw [if_pos c1] at H
    refine wp_aload_n (z := 0) (i := 0) (r := (some h)) 0 (by decide +kernel) rfl rfl ?_
    refine wp_aload_n (z := 0) (i := 0) (r := (some h)) 0 (by decide +kernel) rfl rfl ?_
    refine wp_getI (idx := 80) (by decide +kernel) fl9_80 rfl ok.1 ?_
    refine wp_aload_n (z := 0) (i := 0) (r := (some h)) 0 (by decide +kernel) rfl rfl ?_
    refine wp_getI (idx := 87) (by decide +kernel) fl9_87 rfl ok.1 ?_
    refine wp_isub (by decide +kernel) ?_
    refine wp_bipush (z := 8) (v := 8) (by decide +kernel) (by decide) ?_
    refine wp_icmp_le (off := 8) (tgt := 158) (by decide +kernel) (by decide) (fun c2 => ?_) (fun c2 => ?_)
    · rw [if_pos c2] at H
      refine wp_lload_n (z := 2) (i := 2) (x := x2) 1 (by decide +kernel) rfl rfl ?_
      refine wp_callS (idx := 101) (B2 := B9_wordOf) (As := [.long x2]) (st := [.ref h]) (by decide +kernel) m9_wordOf ml9_101 k9_wordOf (⟨Nat.le_of_ble_eq_true rfl, Nat.le_of_ble_eq_true rfl⟩ : rOK B9_advance B9_wordOf) rfl (Nat.le_of_ble_eq_true rfl) (Nat.le_of_ble_eq_true rfl) ⟨Nat.le_of_ble_eq_true rfl, Nat.le_of_ble_eq_true rfl⟩ rfl (wp_mono (b9_wordOf (Q := (fun r I' L' => r = (v9_wordOf x2) ∧ I = I' ∧ L = L'))  ⟨rfl, rfl, rfl⟩) (fun v9 M9 hq9 => ?_))
      obtain ⟨_, _, _, rfl, rfl, rfl, rfl, rfl⟩ := hq9
      show wp X B9_advance 162 [(0, .ref h), (2, .long x2)] [.int (v9_wordOf x2), .ref h] (G, I, L) 0 0 _
      refine wp_putI (idx := 105) (by decide +kernel) fl9_105 rfl ok.1 ?_
      refine wp_memI (fun I3 eI3 => ?_)
      replace H := H I3 eI3
      refine wp_aload_n (z := 0) (i := 0) (r := (some h)) 0 (by decide +kernel) rfl rfl ?_
      refine wp_aload_n (z := 0) (i := 0) (r := (some h)) 0 (by decide +kernel) rfl rfl ?_
      refine wp_getI (idx := 105) (by decide +kernel) fl9_105 rfl ok.1 ?_
      refine wp_bipush (z := 99) (v := 99) (by decide +kernel) (by decide) ?_
      refine wp_icmp_ne (off := 7) (tgt := 179) (by decide +kernel) (by decide) (fun c4 => ?_) (fun c4 => ?_)
      · rw [if_neg c4] at H
        refine wp_iconst (z := 3) (v := 3) (by decide +kernel) (by decide) ?_
        refine wp_putI (idx := 90) (by decide +kernel) fl9_90 rfl ok.1 ?_
        refine wp_memI (fun I5 eI5 => ?_)
        replace H := H I5 eI5
        refine wp_goto (off := 128) (tgt := 311) (by decide +kernel) (by decide) ?_
        exact wp_vret (by decide +kernel) rfl (Nat.zero_le _) (Nat.zero_le _) ⟨_, _, rfl, rfl, H⟩
      · rw [if_pos c4] at H
        refine wp_iconst (z := 4) (v := 4) (by decide +kernel) (by decide) ?_
        refine wp_goto (off := 4) (tgt := 180) (by decide +kernel) (by decide) ?_
        refine wp_putI (idx := 90) (by decide +kernel) fl9_90 rfl ok.1 ?_
        refine wp_memI (fun I6 eI6 => ?_)
        replace H := H I6 eI6
        refine wp_goto (off := 128) (tgt := 311) (by decide +kernel) (by decide) ?_
        exact wp_vret (by decide +kernel) rfl (Nat.zero_le _) (Nat.zero_le _) ⟨_, _, rfl, rfl, H⟩
    · rw [if_neg c2] at H
      refine wp_bipush (z := 99) (v := 99) (by decide +kernel) (by decide) ?_
      refine wp_goto (off := 7) (tgt := 162) (by decide +kernel) (by decide) ?_
      refine wp_putI (idx := 105) (by decide +kernel) fl9_105 rfl ok.1 ?_
      refine wp_memI (fun I7 eI7 => ?_)
      replace H := H I7 eI7
      refine wp_aload_n (z := 0) (i := 0) (r := (some h)) 0 (by decide +kernel) rfl rfl ?_
      refine wp_aload_n (z := 0) (i := 0) (r := (some h)) 0 (by decide +kernel) rfl rfl ?_
      refine wp_getI (idx := 105) (by decide +kernel) fl9_105 rfl ok.1 ?_
      refine wp_bipush (z := 99) (v := 99) (by decide +kernel) (by decide) ?_
      refine wp_icmp_ne (off := 7) (tgt := 179) (by decide +kernel) (by decide) (fun c8 => ?_) (fun c8 => ?_)
      · rw [if_neg c8] at H
        refine wp_iconst (z := 3) (v := 3) (by decide +kernel) (by decide) ?_
        refine wp_putI (idx := 90) (by decide +kernel) fl9_90 rfl ok.1 ?_
        refine wp_memI (fun I9 eI9 => ?_)
        replace H := H I9 eI9
        refine wp_goto (off := 128) (tgt := 311) (by decide +kernel) (by decide) ?_
        exact wp_vret (by decide +kernel) rfl (Nat.zero_le _) (Nat.zero_le _) ⟨_, _, rfl, rfl, H⟩
      · rw [if_pos c8] at H
        refine wp_iconst (z := 4) (v := 4) (by decide +kernel) (by decide) ?_
        refine wp_goto (off := 4) (tgt := 180) (by decide +kernel) (by decide) ?_
        refine wp_putI (idx := 90) (by decide +kernel) fl9_90 rfl ok.1 ?_
        refine wp_memI (fun I10 eI10 => ?_)
        replace H := H I10 eI10
        refine wp_goto (off := 128) (tgt := 311) (by decide +kernel) (by decide) ?_
        exact wp_vret (by decide +kernel) rfl (Nat.zero_le _) (Nat.zero_le _) ⟨_, _, rfl, rfl, H⟩
  · rw [if_neg c1] at H
    refine wp_aload_n (z := 0) (i := 0) (r := (some h)) 0 (by decide +kernel) rfl rfl ?_
    refine wp_getI (idx := 80) (by decide +kernel) fl9_80 rfl ok.1 ?_
    refine wp_aload_n (z := 0) (i := 0) (r := (some h)) 0 (by decide +kernel) rfl rfl ?_
    refine wp_getI (idx := 87) (by decide +kernel) fl9_87 rfl ok.1 ?_
    refine wp_isub (by decide +kernel) ?_
    refine wp_bipush (z := 8) (v := 8) (by decide +kernel) (by decide) ?_
    refine wp_icmp_ge (off := 23) (tgt := 125) (by decide +kernel) (by decide) (fun c11 => ?_) (fun c11 => ?_)
    · rw [if_pos c11] at H
      refine wp_aload_n (z := 0) (i := 0) (r := (some h)) 0 (by decide +kernel) rfl rfl ?_
      refine wp_dup (by decide +kernel) rfl ?_
      refine wp_getI (idx := 80) (by decide +kernel) fl9_80 rfl ok.1 ?_
      refine wp_iconst (z := 1) (v := 1) (by decide +kernel) (by decide) ?_
      refine wp_iadd (by decide +kernel) ?_
      refine wp_putI (idx := 80) (by decide +kernel) fl9_80 rfl ok.1 ?_
      refine wp_memI (fun I12 eI12 => ?_)
      replace H := H I12 eI12
      refine wp_goto (off := -58) (tgt := 77) (by decide +kernel) (by decide) ?_
      exact wp_sub [0, 1] rfl H
    · rw [if_neg c11] at H
      refine wp_ldc2 (idx := 97) (v := 32) (by decide +kernel) (in_g (List.mem_of_getElem? (i := 1309) (by decide +kernel)) rfl) ?_
      refine wp_lload_n (z := 2) (i := 2) (x := x2) 1 (by decide +kernel) rfl rfl ?_
      refine wp_lmul (by decide +kernel) ?_
      refine wp_aload_n (z := 0) (i := 0) (r := (some h)) 0 (by decide +kernel) rfl rfl ?_
      refine wp_aload_n (z := 0) (i := 0) (r := (some h)) 0 (by decide +kernel) rfl rfl ?_
      refine wp_getI (idx := 80) (by decide +kernel) fl9_80 rfl ok.1 ?_
      obtain ⟨o15, H⟩ := H
      refine wp_callV (idx := 83) (B2 := B9_byteAt) (As := [.int (I h 3)]) (a := h) (st := [.long (32 * x2)]) (by decide +kernel) m9_byteAt ml9_83 k9_byteAt e9_byteAt ck9 ok.1 (⟨Nat.le_of_ble_eq_true rfl, Nat.le_of_ble_eq_true rfl⟩ : rOK B9_advance B9_byteAt) rfl (Nat.le_of_ble_eq_true rfl) (Nat.le_of_ble_eq_true rfl) ⟨Nat.le_of_ble_eq_true rfl, Nat.le_of_ble_eq_true rfl⟩ rfl (wp_mono (b9_byteAt (Q := (fun r I' L' => r = (v9_byteAt I h (I h 3)) ∧ I = I' ∧ L = L')) ok o15 ⟨rfl, rfl, rfl⟩) (fun v9 M9 hq9 => ?_))
      obtain ⟨_, _, _, rfl, rfl, rfl, rfl, rfl⟩ := hq9
      show wp X B9_advance 118 [(0, .ref h), (2, .long x2)] [.int (v9_byteAt I h (I h 3)), .long (32 * x2)] (G, I, L) 0 0 _
      refine wp_i2l (by decide +kernel) ?_
      refine wp_ladd (by decide +kernel) ?_
      refine wp_ldc2 (idx := 99) (v := 96) (by decide +kernel) (in_g (List.mem_of_getElem? (i := 1310) (by decide +kernel)) rfl) ?_
      refine wp_lsub (by decide +kernel) ?_
      refine wp_topl (fun u13 eu13 => ?_)
      replace H := H u13 eu13
      refine wp_lstore_n (z := 2) (i := 2) (lv' := [(2, .long u13), (0, .ref h)]) (by decide +kernel) rfl (by decide) rfl ?_
      refine wp_aload_n (z := 0) (i := 0) (r := (some h)) 1 (by decide +kernel) rfl rfl ?_
      refine wp_dup (by decide +kernel) rfl ?_
      refine wp_getI (idx := 80) (by decide +kernel) fl9_80 rfl ok.1 ?_
      refine wp_iconst (z := 1) (v := 1) (by decide +kernel) (by decide) ?_
      refine wp_iadd (by decide +kernel) ?_
      refine wp_putI (idx := 80) (by decide +kernel) fl9_80 rfl ok.1 ?_
      refine wp_memI (fun I14 eI14 => ?_)
      replace H := H I14 eI14
      refine wp_goto (off := -58) (tgt := 77) (by decide +kernel) (by decide) ?_
      exact wp_sub [1, 0] rfl H
set_option maxRecDepth 20000 in
theorem b9_advance_198 {X : XX} {G : GG} {I : Nat → Nat → Int32} {L : Nat → Nat → Int64} {h : Nat} {Q : (Nat → Nat → Int32) → (Nat → Nat → Int64) → Prop} (ok : OK9 G h) (H : p9_byteAt I h (I h 3) ∧ (if (v9_isDigit (v9_byteAt I h (I h 3))) = (0 : Int32) then (if ((I h 3) - (I h 4)) ≤ 2 then (∀ I3, I3 = up2 I h 5 1 → Q I3 L) else (∀ I4, I4 = up2 I h 5 4 → Q I4 L)) else (if 2 ≤ ((I h 3) - (I h 4)) then (∀ I6, I6 = up2 I h 3 ((I h 3) + 1) → wpV X B9_advance 198 [(0, .ref h)] [] G I6 L Q) else (p9_byteAt I h (I h 3) ∧ (∀ I7, I7 = up2 I h 6 (((10 * (I h 6)) + (v9_byteAt I h (I h 3))) - 48) → ∀ I8, I8 = up2 I7 h 3 ((I7 h 3) + 1) → wpV X B9_advance 198 [(0, .ref h)] [] G I8 L Q))))) : wpV X B9_advance 198 [(0, .ref h)] [] G I L Q := by
  refine wp_aload_n (z := 0) (i := 0) (r := (some h)) 0 (by decide +kernel) rfl rfl ?_
  refine wp_aload_n (z := 0) (i := 0) (r := (some h)) 0 (by decide +kernel) rfl rfl ?_
  refine wp_getI (idx := 80) (by decide +kernel) fl9_80 rfl ok.1 ?_
  obtain ⟨o10, H⟩ := H
  refine wp_callV (idx := 83) (B2 := B9_byteAt) (As := [.int (I h 3)]) (a := h) (st := []) (by decide +kernel) m9_byteAt ml9_83 k9_byteAt e9_byteAt ck9 ok.1 (⟨Nat.le_of_ble_eq_true rfl, Nat.le_of_ble_eq_true rfl⟩ : rOK B9_advance B9_byteAt) rfl (Nat.le_of_ble_eq_true rfl) (Nat.le_of_ble_eq_true rfl) ⟨Nat.le_of_ble_eq_true rfl, Nat.le_of_ble_eq_true rfl⟩ rfl (wp_mono (b9_byteAt (Q := (fun r I' L' => r = (v9_byteAt I h (I h 3)) ∧ I = I' ∧ L = L')) ok o10 ⟨rfl, rfl, rfl⟩) (fun v9 M9 hq9 => ?_))
  obtain ⟨_, _, _, rfl, rfl, rfl, rfl, rfl⟩ := hq9
  show wp X B9_advance 206 [(0, .ref h)] [.int (v9_byteAt I h (I h 3))] (G, I, L) 0 0 _
  refine wp_callS (idx := 108) (B2 := B9_isDigit) (As := [.int (v9_byteAt I h (I h 3))]) (st := []) (by decide +kernel) m9_isDigit ml9_108 k9_isDigit (⟨Nat.le_of_ble_eq_true rfl, Nat.le_of_ble_eq_true rfl⟩ : rOK B9_advance B9_isDigit) rfl (Nat.le_of_ble_eq_true rfl) (Nat.le_of_ble_eq_true rfl) ⟨Nat.le_of_ble_eq_true rfl, Nat.le_of_ble_eq_true rfl⟩ rfl (wp_mono (b9_isDigit (Q := (fun r I' L' => r = (v9_isDigit (v9_byteAt I h (I h 3))) ∧ I = I' ∧ L = L'))  ⟨rfl, rfl, rfl⟩) (fun v9 M9 hq9 => ?_))
  obtain ⟨_, _, _, rfl, rfl, rfl, rfl, rfl⟩ := hq9
  show wp X B9_advance 209 [(0, .ref h)] [.int (v9_isDigit (v9_byteAt I h (I h 3)))] (G, I, L) 0 0 _
  refine wp_if_eq (off := 52) (tgt := 261) (by decide +kernel) (by decide) (fun c1 => ?_) (fun c1 => ?_)
  · rw [if_pos c1] at H
    refine wp_aload_n (z := 0) (i := 0) (r := (some h)) 0 (by decide +kernel) rfl rfl ?_
    refine wp_aload_n (z := 0) (i := 0) (r := (some h)) 0 (by decide +kernel) rfl rfl ?_
    refine wp_getI (idx := 80) (by decide +kernel) fl9_80 rfl ok.1 ?_
    refine wp_aload_n (z := 0) (i := 0) (r := (some h)) 0 (by decide +kernel) rfl rfl ?_
    refine wp_getI (idx := 87) (by decide +kernel) fl9_87 rfl ok.1 ?_
    refine wp_isub (by decide +kernel) ?_
    refine wp_iconst (z := 2) (v := 2) (by decide +kernel) (by decide) ?_
    refine wp_icmp_le (off := 7) (tgt := 279) (by decide +kernel) (by decide) (fun c2 => ?_) (fun c2 => ?_)
    · rw [if_pos c2] at H
      refine wp_iconst (z := 1) (v := 1) (by decide +kernel) (by decide) ?_
      refine wp_putI (idx := 90) (by decide +kernel) fl9_90 rfl ok.1 ?_
      refine wp_memI (fun I3 eI3 => ?_)
      replace H := H I3 eI3
      refine wp_goto (off := 28) (tgt := 311) (by decide +kernel) (by decide) ?_
      exact wp_vret (by decide +kernel) rfl (Nat.zero_le _) (Nat.zero_le _) ⟨_, _, rfl, rfl, H⟩
    · rw [if_neg c2] at H
      refine wp_iconst (z := 4) (v := 4) (by decide +kernel) (by decide) ?_
      refine wp_goto (off := 4) (tgt := 280) (by decide +kernel) (by decide) ?_
      refine wp_putI (idx := 90) (by decide +kernel) fl9_90 rfl ok.1 ?_
      refine wp_memI (fun I4 eI4 => ?_)
      replace H := H I4 eI4
      refine wp_goto (off := 28) (tgt := 311) (by decide +kernel) (by decide) ?_
      exact wp_vret (by decide +kernel) rfl (Nat.zero_le _) (Nat.zero_le _) ⟨_, _, rfl, rfl, H⟩
  · rw [if_neg c1] at H
    refine wp_aload_n (z := 0) (i := 0) (r := (some h)) 0 (by decide +kernel) rfl rfl ?_
    refine wp_getI (idx := 80) (by decide +kernel) fl9_80 rfl ok.1 ?_
    refine wp_aload_n (z := 0) (i := 0) (r := (some h)) 0 (by decide +kernel) rfl rfl ?_
    refine wp_getI (idx := 87) (by decide +kernel) fl9_87 rfl ok.1 ?_
    refine wp_isub (by decide +kernel) ?_
    refine wp_iconst (z := 2) (v := 2) (by decide +kernel) (by decide) ?_
    refine wp_icmp_ge (off := 26) (tgt := 248) (by decide +kernel) (by decide) (fun c5 => ?_) (fun c5 => ?_)
    · rw [if_pos c5] at H
      refine wp_aload_n (z := 0) (i := 0) (r := (some h)) 0 (by decide +kernel) rfl rfl ?_
      refine wp_dup (by decide +kernel) rfl ?_
      refine wp_getI (idx := 80) (by decide +kernel) fl9_80 rfl ok.1 ?_
      refine wp_iconst (z := 1) (v := 1) (by decide +kernel) (by decide) ?_
      refine wp_iadd (by decide +kernel) ?_
      refine wp_putI (idx := 80) (by decide +kernel) fl9_80 rfl ok.1 ?_
      refine wp_memI (fun I6 eI6 => ?_)
      replace H := H I6 eI6
      refine wp_goto (off := -60) (tgt := 198) (by decide +kernel) (by decide) ?_
      exact wp_sub [0] rfl H
    · rw [if_neg c5] at H
      refine wp_aload_n (z := 0) (i := 0) (r := (some h)) 0 (by decide +kernel) rfl rfl ?_
      refine wp_bipush (z := 10) (v := 10) (by decide +kernel) (by decide) ?_
      refine wp_aload_n (z := 0) (i := 0) (r := (some h)) 0 (by decide +kernel) rfl rfl ?_
      refine wp_getI (idx := 111) (by decide +kernel) fl9_111 rfl ok.1 ?_
      refine wp_imul (by decide +kernel) ?_
      refine wp_aload_n (z := 0) (i := 0) (r := (some h)) 0 (by decide +kernel) rfl rfl ?_
      refine wp_aload_n (z := 0) (i := 0) (r := (some h)) 0 (by decide +kernel) rfl rfl ?_
      refine wp_getI (idx := 80) (by decide +kernel) fl9_80 rfl ok.1 ?_
      obtain ⟨o9, H⟩ := H
      refine wp_callV (idx := 83) (B2 := B9_byteAt) (As := [.int (I h 3)]) (a := h) (st := [.int (10 * (I h 6)), .ref h]) (by decide +kernel) m9_byteAt ml9_83 k9_byteAt e9_byteAt ck9 ok.1 (⟨Nat.le_of_ble_eq_true rfl, Nat.le_of_ble_eq_true rfl⟩ : rOK B9_advance B9_byteAt) rfl (Nat.le_of_ble_eq_true rfl) (Nat.le_of_ble_eq_true rfl) ⟨Nat.le_of_ble_eq_true rfl, Nat.le_of_ble_eq_true rfl⟩ rfl (wp_mono (b9_byteAt (Q := (fun r I' L' => r = (v9_byteAt I h (I h 3)) ∧ I = I' ∧ L = L')) ok o9 ⟨rfl, rfl, rfl⟩) (fun v9 M9 hq9 => ?_))
      obtain ⟨_, _, _, rfl, rfl, rfl, rfl, rfl⟩ := hq9
      show wp X B9_advance 241 [(0, .ref h)] [.int (v9_byteAt I h (I h 3)), .int (10 * (I h 6)), .ref h] (G, I, L) 0 0 _
      refine wp_iadd (by decide +kernel) ?_
      refine wp_bipush (z := 48) (v := 48) (by decide +kernel) (by decide) ?_
      refine wp_isub (by decide +kernel) ?_
      refine wp_putI (idx := 111) (by decide +kernel) fl9_111 rfl ok.1 ?_
      refine wp_memI (fun I7 eI7 => ?_)
      replace H := H I7 eI7
      refine wp_aload_n (z := 0) (i := 0) (r := (some h)) 0 (by decide +kernel) rfl rfl ?_
      refine wp_dup (by decide +kernel) rfl ?_
      refine wp_getI (idx := 80) (by decide +kernel) fl9_80 rfl ok.1 ?_
      refine wp_iconst (z := 1) (v := 1) (by decide +kernel) (by decide) ?_
      refine wp_iadd (by decide +kernel) ?_
      refine wp_putI (idx := 80) (by decide +kernel) fl9_80 rfl ok.1 ?_
      refine wp_memI (fun I8 eI8 => ?_)
      replace H := H I8 eI8
      refine wp_goto (off := -60) (tgt := 198) (by decide +kernel) (by decide) ?_
      exact wp_sub [0] rfl H
/-! DeafWallModel.ends()V -/
set_option maxRecDepth 20000 in
theorem b9_ends {X : XX} {G : GG} {I : Nat → Nat → Int32} {L : Nat → Nat → Int64} {h : Nat} {Q : (Nat → Nat → Int32) → (Nat → Nat → Int64) → Prop} (ok : OK9 G h) (H : if (I h 8) = (0 : Int32) then (∀ I2, I2 = up2 I h 8 1 → ∀ I3, I3 = up2 I2 (h + 1) 5 1 → ∀ I4, I4 = up2 I3 (h + 1) 6 (I3 h 4) → Q I4 L) else (Q I L)) : wpV X B9_ends 0 [(0, .ref h)] [] G I L Q := by
  refine wp_aload_n (z := 0) (i := 0) (r := (some h)) 0 (by decide +kernel) rfl rfl ?_
  refine wp_getI (idx := 114) (by decide +kernel) fl9_114 rfl ok.1 ?_
  refine wp_if_eq (off := 4) (tgt := 8) (by decide +kernel) (by decide) (fun c1 => ?_) (fun c1 => ?_)
  · rw [if_pos c1] at H
    refine wp_aload_n (z := 0) (i := 0) (r := (some h)) 0 (by decide +kernel) rfl rfl ?_
    refine wp_iconst (z := 1) (v := 1) (by decide +kernel) (by decide) ?_
    refine wp_putZ (idx := 114) (by decide +kernel) fl9_114 rfl ok.1 (by decide) ?_
    refine wp_memI (fun I2 eI2 => ?_)
    replace H := H I2 eI2
    refine wp_aload_n (z := 0) (i := 0) (r := (some h)) 0 (by decide +kernel) rfl rfl ?_
    refine wp_getS (idx := 7) (q := (h + 1)) (by decide +kernel) fl9_7 rfl ok.1 (okr9_0 ok) ?_
    refine wp_iconst (z := 5) (v := 5) (by decide +kernel) (by decide) ?_
    refine wp_iconst (z := 1) (v := 1) (by decide +kernel) (by decide) ?_
    refine wp_iast (j := 5) (by decide +kernel) (oks9_0 ok) (vin_c (by decide)) (by decide) ?_
    refine wp_memI (fun I3 eI3 => ?_)
    replace H := H I3 eI3
    refine wp_aload_n (z := 0) (i := 0) (r := (some h)) 0 (by decide +kernel) rfl rfl ?_
    refine wp_getS (idx := 7) (q := (h + 1)) (by decide +kernel) fl9_7 rfl ok.1 (okr9_0 ok) ?_
    refine wp_bipush (z := 6) (v := 6) (by decide +kernel) (by decide) ?_
    refine wp_aload_n (z := 0) (i := 0) (r := (some h)) 0 (by decide +kernel) rfl rfl ?_
    refine wp_getI (idx := 87) (by decide +kernel) fl9_87 rfl ok.1 ?_
    refine wp_iast (j := 6) (by decide +kernel) (oks9_0 ok) (vin_c (by decide)) (by decide) ?_
    refine wp_memI (fun I4 eI4 => ?_)
    replace H := H I4 eI4
    exact wp_vret (by decide +kernel) rfl (Nat.zero_le _) (Nat.zero_le _) ⟨_, _, rfl, rfl, H⟩
  · rw [if_neg c1] at H
    exact wp_vret (by decide +kernel) rfl (Nat.zero_le _) (Nat.zero_le _) ⟨_, _, rfl, rfl, H⟩
/-! DeafWallModel.also(II)V -/
set_option maxRecDepth 20000 in
theorem b9_also {X : XX} {G : GG} {I : Nat → Nat → Int32} {L : Nat → Nat → Int64} {h : Nat} {x1 : Int32} {x2 : Int32} {Q : (Nat → Nat → Int32) → (Nat → Nat → Int64) → Prop} (ok : OK9 G h) (H : if (I h 8) = (0 : Int32) then (if (I (h + 1) 5) = (0 : Int32) then (∀ I3, I3 = up2 I (h + 1) 5 x1 → ∀ I4, I4 = up2 I3 (h + 1) 6 x2 → Q I4 L) else (if (I (h + 1) 6) < x2 then (Q I L) else (if (I (h + 1) 6) = x2 then (if x1 < (I (h + 1) 5) then (∀ I10, I10 = up2 I (h + 1) 5 x1 → ∀ I11, I11 = up2 I10 (h + 1) 6 x2 → Q I11 L) else (Q I L)) else (∀ I7, I7 = up2 I (h + 1) 5 x1 → ∀ I8, I8 = up2 I7 (h + 1) 6 x2 → Q I8 L)))) else (Q I L)) : wpV X B9_also 0 [(0, .ref h), (1, .int x1), (2, .int x2)] [] G I L Q := by
  refine wp_aload_n (z := 0) (i := 0) (r := (some h)) 0 (by decide +kernel) rfl rfl ?_
  refine wp_getI (idx := 114) (by decide +kernel) fl9_114 rfl ok.1 ?_
  refine wp_if_ne (off := 44) (tgt := 48) (by decide +kernel) (by decide) (fun c1 => ?_) (fun c1 => ?_)
  · rw [if_neg c1] at H
    exact wp_vret (by decide +kernel) rfl (Nat.zero_le _) (Nat.zero_le _) ⟨_, _, rfl, rfl, H⟩
  · rw [if_pos c1] at H
    refine wp_aload_n (z := 0) (i := 0) (r := (some h)) 0 (by decide +kernel) rfl rfl ?_
    refine wp_getS (idx := 7) (q := (h + 1)) (by decide +kernel) fl9_7 rfl ok.1 (okr9_0 ok) ?_
    refine wp_iconst (z := 5) (v := 5) (by decide +kernel) (by decide) ?_
    refine wp_iald (j := 5) (by decide +kernel) (oks9_0 ok) (vin_c (by decide)) (by decide) ?_
    refine wp_if_eq (off := 36) (tgt := 49) (by decide +kernel) (by decide) (fun c2 => ?_) (fun c2 => ?_)
    · rw [if_pos c2] at H
      refine wp_aload_n (z := 0) (i := 0) (r := (some h)) 0 (by decide +kernel) rfl rfl ?_
      refine wp_getS (idx := 7) (q := (h + 1)) (by decide +kernel) fl9_7 rfl ok.1 (okr9_0 ok) ?_
      refine wp_iconst (z := 5) (v := 5) (by decide +kernel) (by decide) ?_
      refine wp_iload_n (z := 1) (i := 1) (x := x1) 1 (by decide +kernel) rfl rfl ?_
      refine wp_iast (j := 5) (by decide +kernel) (oks9_0 ok) (vin_c (by decide)) (by decide) ?_
      refine wp_memI (fun I3 eI3 => ?_)
      replace H := H I3 eI3
      refine wp_aload_n (z := 0) (i := 0) (r := (some h)) 0 (by decide +kernel) rfl rfl ?_
      refine wp_getS (idx := 7) (q := (h + 1)) (by decide +kernel) fl9_7 rfl ok.1 (okr9_0 ok) ?_
      refine wp_bipush (z := 6) (v := 6) (by decide +kernel) (by decide) ?_
      refine wp_iload_n (z := 2) (i := 2) (x := x2) 2 (by decide +kernel) rfl rfl ?_
      refine wp_iast (j := 6) (by decide +kernel) (oks9_0 ok) (vin_c (by decide)) (by decide) ?_
      refine wp_memI (fun I4 eI4 => ?_)
      replace H := H I4 eI4
      exact wp_vret (by decide +kernel) rfl (Nat.zero_le _) (Nat.zero_le _) ⟨_, _, rfl, rfl, H⟩
    · rw [if_neg c2] at H
      refine wp_aload_n (z := 0) (i := 0) (r := (some h)) 0 (by decide +kernel) rfl rfl ?_
      refine wp_getS (idx := 7) (q := (h + 1)) (by decide +kernel) fl9_7 rfl ok.1 (okr9_0 ok) ?_
      refine wp_bipush (z := 6) (v := 6) (by decide +kernel) (by decide) ?_
      refine wp_iald (j := 6) (by decide +kernel) (oks9_0 ok) (vin_c (by decide)) (by decide) ?_
      refine wp_iload_n (z := 2) (i := 2) (x := x2) 2 (by decide +kernel) rfl rfl ?_
      refine wp_icmp_lt (off := 24) (tgt := 48) (by decide +kernel) (by decide) (fun c5 => ?_) (fun c5 => ?_)
      · rw [if_pos c5] at H
        exact wp_vret (by decide +kernel) rfl (Nat.zero_le _) (Nat.zero_le _) ⟨_, _, rfl, rfl, H⟩
      · rw [if_neg c5] at H
        refine wp_aload_n (z := 0) (i := 0) (r := (some h)) 0 (by decide +kernel) rfl rfl ?_
        refine wp_getS (idx := 7) (q := (h + 1)) (by decide +kernel) fl9_7 rfl ok.1 (okr9_0 ok) ?_
        refine wp_bipush (z := 6) (v := 6) (by decide +kernel) (by decide) ?_
        refine wp_iald (j := 6) (by decide +kernel) (oks9_0 ok) (vin_c (by decide)) (by decide) ?_
        refine wp_iload_n (z := 2) (i := 2) (x := x2) 2 (by decide +kernel) rfl rfl ?_
        refine wp_icmp_ne (off := 14) (tgt := 49) (by decide +kernel) (by decide) (fun c6 => ?_) (fun c6 => ?_)
        · rw [if_neg c6] at H
          refine wp_aload_n (z := 0) (i := 0) (r := (some h)) 0 (by decide +kernel) rfl rfl ?_
          refine wp_getS (idx := 7) (q := (h + 1)) (by decide +kernel) fl9_7 rfl ok.1 (okr9_0 ok) ?_
          refine wp_iconst (z := 5) (v := 5) (by decide +kernel) (by decide) ?_
          refine wp_iload_n (z := 1) (i := 1) (x := x1) 1 (by decide +kernel) rfl rfl ?_
          refine wp_iast (j := 5) (by decide +kernel) (oks9_0 ok) (vin_c (by decide)) (by decide) ?_
          refine wp_memI (fun I7 eI7 => ?_)
          replace H := H I7 eI7
          refine wp_aload_n (z := 0) (i := 0) (r := (some h)) 0 (by decide +kernel) rfl rfl ?_
          refine wp_getS (idx := 7) (q := (h + 1)) (by decide +kernel) fl9_7 rfl ok.1 (okr9_0 ok) ?_
          refine wp_bipush (z := 6) (v := 6) (by decide +kernel) (by decide) ?_
          refine wp_iload_n (z := 2) (i := 2) (x := x2) 2 (by decide +kernel) rfl rfl ?_
          refine wp_iast (j := 6) (by decide +kernel) (oks9_0 ok) (vin_c (by decide)) (by decide) ?_
          refine wp_memI (fun I8 eI8 => ?_)
          replace H := H I8 eI8
          exact wp_vret (by decide +kernel) rfl (Nat.zero_le _) (Nat.zero_le _) ⟨_, _, rfl, rfl, H⟩
        · rw [if_pos c6] at H
          refine wp_aload_n (z := 0) (i := 0) (r := (some h)) 0 (by decide +kernel) rfl rfl ?_
          refine wp_getS (idx := 7) (q := (h + 1)) (by decide +kernel) fl9_7 rfl ok.1 (okr9_0 ok) ?_
          refine wp_iconst (z := 5) (v := 5) (by decide +kernel) (by decide) ?_
          refine wp_iald (j := 5) (by decide +kernel) (oks9_0 ok) (vin_c (by decide)) (by decide) ?_
          refine wp_iload_n (z := 1) (i := 1) (x := x1) 1 (by decide +kernel) rfl rfl ?_
          refine wp_icmp_gt (off := 4) (tgt := 49) (by decide +kernel) (by decide) (fun c9 => ?_) (fun c9 => ?_)
          · rw [if_pos c9] at H
            refine wp_aload_n (z := 0) (i := 0) (r := (some h)) 0 (by decide +kernel) rfl rfl ?_
            refine wp_getS (idx := 7) (q := (h + 1)) (by decide +kernel) fl9_7 rfl ok.1 (okr9_0 ok) ?_
            refine wp_iconst (z := 5) (v := 5) (by decide +kernel) (by decide) ?_
            refine wp_iload_n (z := 1) (i := 1) (x := x1) 1 (by decide +kernel) rfl rfl ?_
            refine wp_iast (j := 5) (by decide +kernel) (oks9_0 ok) (vin_c (by decide)) (by decide) ?_
            refine wp_memI (fun I10 eI10 => ?_)
            replace H := H I10 eI10
            refine wp_aload_n (z := 0) (i := 0) (r := (some h)) 0 (by decide +kernel) rfl rfl ?_
            refine wp_getS (idx := 7) (q := (h + 1)) (by decide +kernel) fl9_7 rfl ok.1 (okr9_0 ok) ?_
            refine wp_bipush (z := 6) (v := 6) (by decide +kernel) (by decide) ?_
            refine wp_iload_n (z := 2) (i := 2) (x := x2) 2 (by decide +kernel) rfl rfl ?_
            refine wp_iast (j := 6) (by decide +kernel) (oks9_0 ok) (vin_c (by decide)) (by decide) ?_
            refine wp_memI (fun I11 eI11 => ?_)
            replace H := H I11 eI11
            exact wp_vret (by decide +kernel) rfl (Nat.zero_le _) (Nat.zero_le _) ⟨_, _, rfl, rfl, H⟩
          · rw [if_neg c9] at H
            exact wp_vret (by decide +kernel) rfl (Nat.zero_le _) (Nat.zero_le _) ⟨_, _, rfl, rfl, H⟩
/-! DeafWallModel.numbered(II)I -/
set_option maxRecDepth 20000 in
theorem b9_numbered {X : XX} {G : GG} {I : Nat → Nat → Int32} {L : Nat → Nat → Int64} {h : Nat} {x1 : Int32} {x2 : Int32} {Q : Int32 → (Nat → Nat → Int32) → (Nat → Nat → Int64) → Prop} (ok : OK9 G h) (H : if (I h 8) = (0 : Int32) then (if (I h 5) = 1 then (if (v9_isIn (I h 6) x1 x2) = (0 : Int32) then (wpV X B9_also 0 [(0, .ref h), (1, .int 2), (2, .int (I h 4))] [] G I L (fun I11 L12 => wpV X B9_advance 0 [(0, .ref h)] [] G I11 L12 (fun I14 L15 => if (v9_isIn (I h 6) x1 x2) = (0 : Int32) then (Q x1 I14 L15) else (Q (I h 6) I14 L15)))) else (wpV X B9_advance 0 [(0, .ref h)] [] G I L (fun I7 L8 => if (v9_isIn (I h 6) x1 x2) = (0 : Int32) then (Q x1 I7 L8) else (Q (I h 6) I7 L8)))) else (wpV X B9_ends 0 [(0, .ref h)] [] G I L (fun I18 L19 => Q x1 I18 L19))) else (wpV X B9_ends 0 [(0, .ref h)] [] G I L (fun I2 L3 => Q x1 I2 L3))) : wpI X B9_numbered 0 [(0, .ref h), (1, .int x1), (2, .int x2)] [] G I L Q := by
  refine wp_aload_n (z := 0) (i := 0) (r := (some h)) 0 (by decide +kernel) rfl rfl ?_
  refine wp_getI (idx := 114) (by decide +kernel) fl9_114 rfl ok.1 ?_
  refine wp_if_ne (off := 11) (tgt := 15) (by decide +kernel) (by decide) (fun c1 => ?_) (fun c1 => ?_)
  · rw [if_neg c1] at H
    refine wp_aload_n (z := 0) (i := 0) (r := (some h)) 0 (by decide +kernel) rfl rfl ?_
    refine wp_callV (idx := 118) (B2 := B9_ends) (As := []) (a := h) (st := []) (by decide +kernel) m9_ends ml9_118 k9_ends e9_ends ck9 ok.1 (⟨Nat.le_of_ble_eq_true rfl, Nat.le_of_ble_eq_true rfl⟩ : rOK B9_numbered B9_ends) rfl (Nat.le_of_ble_eq_true rfl) (Nat.le_of_ble_eq_true rfl) ⟨Nat.le_of_ble_eq_true rfl, Nat.le_of_ble_eq_true rfl⟩ rfl (wp_mono H (fun v9 M9 hq9 => ?_))
    clear H
    obtain ⟨I2, L3, rfl, rfl, H⟩ := hq9
    show wp X B9_numbered 19 [(0, .ref h), (1, .int x1), (2, .int x2)] [] (G, I2, L3) 0 0 _
    refine wp_iload_n (z := 1) (i := 1) (x := x1) 1 (by decide +kernel) rfl rfl ?_
    exact wp_iret (by decide +kernel) rfl (Nat.zero_le _) (Nat.zero_le _) ⟨_, _, _, rfl, rfl, H⟩
  · rw [if_pos c1] at H
    refine wp_aload_n (z := 0) (i := 0) (r := (some h)) 0 (by decide +kernel) rfl rfl ?_
    refine wp_getI (idx := 90) (by decide +kernel) fl9_90 rfl ok.1 ?_
    refine wp_iconst (z := 1) (v := 1) (by decide +kernel) (by decide) ?_
    refine wp_icmp_eq (off := 9) (tgt := 21) (by decide +kernel) (by decide) (fun c5 => ?_) (fun c5 => ?_)
    · rw [if_pos c5] at H
      refine wp_aload_n (z := 0) (i := 0) (r := (some h)) 0 (by decide +kernel) rfl rfl ?_
      refine wp_getI (idx := 111) (by decide +kernel) fl9_111 rfl ok.1 ?_
      refine wp_istore_n (z := 3) (i := 3) (lv' := [(3, .int (I h 6)), (0, .ref h), (1, .int x1), (2, .int x2)]) (by decide +kernel) rfl (by decide) rfl ?_
      refine wp_iload_n (z := 3) (i := 3) (x := (I h 6)) 0 (by decide +kernel) rfl rfl ?_
      refine wp_iload_n (z := 1) (i := 1) (x := x1) 2 (by decide +kernel) rfl rfl ?_
      refine wp_iload_n (z := 2) (i := 2) (x := x2) 3 (by decide +kernel) rfl rfl ?_
      refine wp_callS (idx := 121) (B2 := B9_isIn) (As := [.int (I h 6), .int x1, .int x2]) (st := []) (by decide +kernel) m9_isIn ml9_121 k9_isIn (⟨Nat.le_of_ble_eq_true rfl, Nat.le_of_ble_eq_true rfl⟩ : rOK B9_numbered B9_isIn) rfl (Nat.le_of_ble_eq_true rfl) (Nat.le_of_ble_eq_true rfl) ⟨Nat.le_of_ble_eq_true rfl, Nat.le_of_ble_eq_true rfl⟩ rfl (wp_mono (b9_isIn (Q := (fun r I' L' => r = (v9_isIn (I h 6) x1 x2) ∧ I = I' ∧ L = L'))  ⟨rfl, rfl, rfl⟩) (fun v9 M9 hq9 => ?_))
      obtain ⟨_, _, _, rfl, rfl, rfl, rfl, rfl⟩ := hq9
      show wp X B9_numbered 32 [(3, .int (I h 6)), (0, .ref h), (1, .int x1), (2, .int x2)] [.int (v9_isIn (I h 6) x1 x2)] (G, I, L) 0 0 _
      refine wp_if_ne (off := 12) (tgt := 44) (by decide +kernel) (by decide) (fun c6 => ?_) (fun c6 => ?_)
      · rw [if_neg c6] at H
        refine wp_aload_n (z := 0) (i := 0) (r := (some h)) 1 (by decide +kernel) rfl rfl ?_
        refine wp_callV (idx := 129) (B2 := B9_advance) (As := []) (a := h) (st := []) (by decide +kernel) m9_advance ml9_129 k9_advance e9_advance ck9 ok.1 (⟨Nat.le_of_ble_eq_true rfl, Nat.le_of_ble_eq_true rfl⟩ : rOK B9_numbered B9_advance) rfl (Nat.le_of_ble_eq_true rfl) (Nat.le_of_ble_eq_true rfl) ⟨Nat.le_of_ble_eq_true rfl, Nat.le_of_ble_eq_true rfl⟩ rfl (wp_mono H (fun v9 M9 hq9 => ?_))
        clear H
        obtain ⟨I7, L8, rfl, rfl, H⟩ := hq9
        show wp X B9_numbered 48 [(3, .int (I h 6)), (0, .ref h), (1, .int x1), (2, .int x2)] [] (G, I7, L8) 0 0 _
        refine wp_iload_n (z := 3) (i := 3) (x := (I h 6)) 0 (by decide +kernel) rfl rfl ?_
        refine wp_iload_n (z := 1) (i := 1) (x := x1) 2 (by decide +kernel) rfl rfl ?_
        refine wp_iload_n (z := 2) (i := 2) (x := x2) 3 (by decide +kernel) rfl rfl ?_
        refine wp_callS (idx := 121) (B2 := B9_isIn) (As := [.int (I h 6), .int x1, .int x2]) (st := []) (by decide +kernel) m9_isIn ml9_121 k9_isIn (⟨Nat.le_of_ble_eq_true rfl, Nat.le_of_ble_eq_true rfl⟩ : rOK B9_numbered B9_isIn) rfl (Nat.le_of_ble_eq_true rfl) (Nat.le_of_ble_eq_true rfl) ⟨Nat.le_of_ble_eq_true rfl, Nat.le_of_ble_eq_true rfl⟩ rfl (wp_mono (b9_isIn (Q := (fun r I' L' => r = (v9_isIn (I h 6) x1 x2) ∧ I7 = I' ∧ L8 = L'))  ⟨rfl, rfl, rfl⟩) (fun v9 M9 hq9 => ?_))
        obtain ⟨_, _, _, rfl, rfl, rfl, rfl, rfl⟩ := hq9
        show wp X B9_numbered 54 [(3, .int (I h 6)), (0, .ref h), (1, .int x1), (2, .int x2)] [.int (v9_isIn (I h 6) x1 x2)] (G, I7, L8) 0 0 _
        refine wp_if_eq (off := 7) (tgt := 61) (by decide +kernel) (by decide) (fun c10 => ?_) (fun c10 => ?_)
        · rw [if_pos c10] at H
          refine wp_iload_n (z := 1) (i := 1) (x := x1) 2 (by decide +kernel) rfl rfl ?_
          exact wp_iret (by decide +kernel) rfl (Nat.zero_le _) (Nat.zero_le _) ⟨_, _, _, rfl, rfl, H⟩
        · rw [if_neg c10] at H
          refine wp_iload_n (z := 3) (i := 3) (x := (I h 6)) 0 (by decide +kernel) rfl rfl ?_
          refine wp_goto (off := 4) (tgt := 62) (by decide +kernel) (by decide) ?_
          exact wp_iret (by decide +kernel) rfl (Nat.zero_le _) (Nat.zero_le _) ⟨_, _, _, rfl, rfl, H⟩
      · rw [if_pos c6] at H
        refine wp_aload_n (z := 0) (i := 0) (r := (some h)) 1 (by decide +kernel) rfl rfl ?_
        refine wp_iconst (z := 2) (v := 2) (by decide +kernel) (by decide) ?_
        refine wp_aload_n (z := 0) (i := 0) (r := (some h)) 1 (by decide +kernel) rfl rfl ?_
        refine wp_getI (idx := 87) (by decide +kernel) fl9_87 rfl ok.1 ?_
        refine wp_callV (idx := 125) (B2 := B9_also) (As := [.int 2, .int (I h 4)]) (a := h) (st := []) (by decide +kernel) m9_also ml9_125 k9_also e9_also ck9 ok.1 (⟨Nat.le_of_ble_eq_true rfl, Nat.le_of_ble_eq_true rfl⟩ : rOK B9_numbered B9_also) rfl (Nat.le_of_ble_eq_true rfl) (Nat.le_of_ble_eq_true rfl) ⟨Nat.le_of_ble_eq_true rfl, Nat.le_of_ble_eq_true rfl⟩ rfl (wp_mono H (fun v9 M9 hq9 => ?_))
        clear H
        obtain ⟨I11, L12, rfl, rfl, H⟩ := hq9
        show wp X B9_numbered 44 [(3, .int (I h 6)), (0, .ref h), (1, .int x1), (2, .int x2)] [] (G, I11, L12) 0 0 _
        refine wp_aload_n (z := 0) (i := 0) (r := (some h)) 1 (by decide +kernel) rfl rfl ?_
        refine wp_callV (idx := 129) (B2 := B9_advance) (As := []) (a := h) (st := []) (by decide +kernel) m9_advance ml9_129 k9_advance e9_advance ck9 ok.1 (⟨Nat.le_of_ble_eq_true rfl, Nat.le_of_ble_eq_true rfl⟩ : rOK B9_numbered B9_advance) rfl (Nat.le_of_ble_eq_true rfl) (Nat.le_of_ble_eq_true rfl) ⟨Nat.le_of_ble_eq_true rfl, Nat.le_of_ble_eq_true rfl⟩ rfl (wp_mono H (fun v9 M9 hq9 => ?_))
        clear H
        obtain ⟨I14, L15, rfl, rfl, H⟩ := hq9
        show wp X B9_numbered 48 [(3, .int (I h 6)), (0, .ref h), (1, .int x1), (2, .int x2)] [] (G, I14, L15) 0 0 _
        refine wp_iload_n (z := 3) (i := 3) (x := (I h 6)) 0 (by decide +kernel) rfl rfl ?_
        refine wp_iload_n (z := 1) (i := 1) (x := x1) 2 (by decide +kernel) rfl rfl ?_
        refine wp_iload_n (z := 2) (i := 2) (x := x2) 3 (by decide +kernel) rfl rfl ?_
        refine wp_callS (idx := 121) (B2 := B9_isIn) (As := [.int (I h 6), .int x1, .int x2]) (st := []) (by decide +kernel) m9_isIn ml9_121 k9_isIn (⟨Nat.le_of_ble_eq_true rfl, Nat.le_of_ble_eq_true rfl⟩ : rOK B9_numbered B9_isIn) rfl (Nat.le_of_ble_eq_true rfl) (Nat.le_of_ble_eq_true rfl) ⟨Nat.le_of_ble_eq_true rfl, Nat.le_of_ble_eq_true rfl⟩ rfl (wp_mono (b9_isIn (Q := (fun r I' L' => r = (v9_isIn (I h 6) x1 x2) ∧ I14 = I' ∧ L15 = L'))  ⟨rfl, rfl, rfl⟩) (fun v9 M9 hq9 => ?_))
        obtain ⟨_, _, _, rfl, rfl, rfl, rfl, rfl⟩ := hq9
        show wp X B9_numbered 54 [(3, .int (I h 6)), (0, .ref h), (1, .int x1), (2, .int x2)] [.int (v9_isIn (I h 6) x1 x2)] (G, I14, L15) 0 0 _
        refine wp_if_eq (off := 7) (tgt := 61) (by decide +kernel) (by decide) (fun c17 => ?_) (fun c17 => ?_)
        · rw [if_pos c17] at H
          refine wp_iload_n (z := 1) (i := 1) (x := x1) 2 (by decide +kernel) rfl rfl ?_
          exact wp_iret (by decide +kernel) rfl (Nat.zero_le _) (Nat.zero_le _) ⟨_, _, _, rfl, rfl, H⟩
        · rw [if_neg c17] at H
          refine wp_iload_n (z := 3) (i := 3) (x := (I h 6)) 0 (by decide +kernel) rfl rfl ?_
          refine wp_goto (off := 4) (tgt := 62) (by decide +kernel) (by decide) ?_
          exact wp_iret (by decide +kernel) rfl (Nat.zero_le _) (Nat.zero_le _) ⟨_, _, _, rfl, rfl, H⟩
    · rw [if_neg c5] at H
      refine wp_aload_n (z := 0) (i := 0) (r := (some h)) 0 (by decide +kernel) rfl rfl ?_
      refine wp_callV (idx := 118) (B2 := B9_ends) (As := []) (a := h) (st := []) (by decide +kernel) m9_ends ml9_118 k9_ends e9_ends ck9 ok.1 (⟨Nat.le_of_ble_eq_true rfl, Nat.le_of_ble_eq_true rfl⟩ : rOK B9_numbered B9_ends) rfl (Nat.le_of_ble_eq_true rfl) (Nat.le_of_ble_eq_true rfl) ⟨Nat.le_of_ble_eq_true rfl, Nat.le_of_ble_eq_true rfl⟩ rfl (wp_mono H (fun v9 M9 hq9 => ?_))
      clear H
      obtain ⟨I18, L19, rfl, rfl, H⟩ := hq9
      show wp X B9_numbered 19 [(0, .ref h), (1, .int x1), (2, .int x2)] [] (G, I18, L19) 0 0 _
      refine wp_iload_n (z := 1) (i := 1) (x := x1) 1 (by decide +kernel) rfl rfl ?_
      exact wp_iret (by decide +kernel) rfl (Nat.zero_le _) (Nat.zero_le _) ⟨_, _, _, rfl, rfl, H⟩
/-! DeafWallModel.wordIn(II)I -/
set_option maxRecDepth 20000 in
theorem b9_wordIn {X : XX} {G : GG} {I : Nat → Nat → Int32} {L : Nat → Nat → Int64} {h : Nat} {x1 : Int32} {x2 : Int32} {Q : Int32 → (Nat → Nat → Int32) → (Nat → Nat → Int64) → Prop} (ok : OK9 G h) (H : if (I h 8) = (0 : Int32) then (if (I h 5) = 3 then (if (v9_isIn (I h 7) x1 x2) = (0 : Int32) then (wpV X B9_ends 0 [(0, .ref h)] [] G I L (fun I13 L14 => Q 0 I13 L14)) else (wpV X B9_advance 0 [(0, .ref h)] [] G I L (fun I10 L11 => Q (I h 7) I10 L11))) else (wpV X B9_ends 0 [(0, .ref h)] [] G I L (fun I6 L7 => Q 0 I6 L7))) else (wpV X B9_ends 0 [(0, .ref h)] [] G I L (fun I2 L3 => Q 0 I2 L3))) : wpI X B9_wordIn 0 [(0, .ref h), (1, .int x1), (2, .int x2)] [] G I L Q := by
  refine wp_aload_n (z := 0) (i := 0) (r := (some h)) 0 (by decide +kernel) rfl rfl ?_
  refine wp_getI (idx := 114) (by decide +kernel) fl9_114 rfl ok.1 ?_
  refine wp_if_ne (off := 23) (tgt := 27) (by decide +kernel) (by decide) (fun c1 => ?_) (fun c1 => ?_)
  · rw [if_neg c1] at H
    refine wp_aload_n (z := 0) (i := 0) (r := (some h)) 0 (by decide +kernel) rfl rfl ?_
    refine wp_callV (idx := 118) (B2 := B9_ends) (As := []) (a := h) (st := []) (by decide +kernel) m9_ends ml9_118 k9_ends e9_ends ck9 ok.1 (⟨Nat.le_of_ble_eq_true rfl, Nat.le_of_ble_eq_true rfl⟩ : rOK B9_wordIn B9_ends) rfl (Nat.le_of_ble_eq_true rfl) (Nat.le_of_ble_eq_true rfl) ⟨Nat.le_of_ble_eq_true rfl, Nat.le_of_ble_eq_true rfl⟩ rfl (wp_mono H (fun v9 M9 hq9 => ?_))
    clear H
    obtain ⟨I2, L3, rfl, rfl, H⟩ := hq9
    show wp X B9_wordIn 31 [(0, .ref h), (1, .int x1), (2, .int x2)] [] (G, I2, L3) 0 0 _
    refine wp_iconst (z := 0) (v := 0) (by decide +kernel) (by decide) ?_
    exact wp_iret (by decide +kernel) rfl (Nat.zero_le _) (Nat.zero_le _) ⟨_, _, _, rfl, rfl, H⟩
  · rw [if_pos c1] at H
    refine wp_aload_n (z := 0) (i := 0) (r := (some h)) 0 (by decide +kernel) rfl rfl ?_
    refine wp_getI (idx := 90) (by decide +kernel) fl9_90 rfl ok.1 ?_
    refine wp_iconst (z := 3) (v := 3) (by decide +kernel) (by decide) ?_
    refine wp_icmp_ne (off := 15) (tgt := 27) (by decide +kernel) (by decide) (fun c5 => ?_) (fun c5 => ?_)
    · rw [if_neg c5] at H
      refine wp_aload_n (z := 0) (i := 0) (r := (some h)) 0 (by decide +kernel) rfl rfl ?_
      refine wp_callV (idx := 118) (B2 := B9_ends) (As := []) (a := h) (st := []) (by decide +kernel) m9_ends ml9_118 k9_ends e9_ends ck9 ok.1 (⟨Nat.le_of_ble_eq_true rfl, Nat.le_of_ble_eq_true rfl⟩ : rOK B9_wordIn B9_ends) rfl (Nat.le_of_ble_eq_true rfl) (Nat.le_of_ble_eq_true rfl) ⟨Nat.le_of_ble_eq_true rfl, Nat.le_of_ble_eq_true rfl⟩ rfl (wp_mono H (fun v9 M9 hq9 => ?_))
      clear H
      obtain ⟨I6, L7, rfl, rfl, H⟩ := hq9
      show wp X B9_wordIn 31 [(0, .ref h), (1, .int x1), (2, .int x2)] [] (G, I6, L7) 0 0 _
      refine wp_iconst (z := 0) (v := 0) (by decide +kernel) (by decide) ?_
      exact wp_iret (by decide +kernel) rfl (Nat.zero_le _) (Nat.zero_le _) ⟨_, _, _, rfl, rfl, H⟩
    · rw [if_pos c5] at H
      refine wp_aload_n (z := 0) (i := 0) (r := (some h)) 0 (by decide +kernel) rfl rfl ?_
      refine wp_getI (idx := 105) (by decide +kernel) fl9_105 rfl ok.1 ?_
      refine wp_iload_n (z := 1) (i := 1) (x := x1) 1 (by decide +kernel) rfl rfl ?_
      refine wp_iload_n (z := 2) (i := 2) (x := x2) 2 (by decide +kernel) rfl rfl ?_
      refine wp_callS (idx := 121) (B2 := B9_isIn) (As := [.int (I h 7), .int x1, .int x2]) (st := []) (by decide +kernel) m9_isIn ml9_121 k9_isIn (⟨Nat.le_of_ble_eq_true rfl, Nat.le_of_ble_eq_true rfl⟩ : rOK B9_wordIn B9_isIn) rfl (Nat.le_of_ble_eq_true rfl) (Nat.le_of_ble_eq_true rfl) ⟨Nat.le_of_ble_eq_true rfl, Nat.le_of_ble_eq_true rfl⟩ rfl (wp_mono (b9_isIn (Q := (fun r I' L' => r = (v9_isIn (I h 7) x1 x2) ∧ I = I' ∧ L = L'))  ⟨rfl, rfl, rfl⟩) (fun v9 M9 hq9 => ?_))
      obtain ⟨_, _, _, rfl, rfl, rfl, rfl, rfl⟩ := hq9
      show wp X B9_wordIn 24 [(0, .ref h), (1, .int x1), (2, .int x2)] [.int (v9_isIn (I h 7) x1 x2)] (G, I, L) 0 0 _
      refine wp_if_ne (off := 9) (tgt := 33) (by decide +kernel) (by decide) (fun c9 => ?_) (fun c9 => ?_)
      · rw [if_neg c9] at H
        refine wp_aload_n (z := 0) (i := 0) (r := (some h)) 0 (by decide +kernel) rfl rfl ?_
        refine wp_getI (idx := 105) (by decide +kernel) fl9_105 rfl ok.1 ?_
        refine wp_istore_n (z := 3) (i := 3) (lv' := [(3, .int (I h 7)), (0, .ref h), (1, .int x1), (2, .int x2)]) (by decide +kernel) rfl (by decide) rfl ?_
        refine wp_aload_n (z := 0) (i := 0) (r := (some h)) 1 (by decide +kernel) rfl rfl ?_
        refine wp_callV (idx := 129) (B2 := B9_advance) (As := []) (a := h) (st := []) (by decide +kernel) m9_advance ml9_129 k9_advance e9_advance ck9 ok.1 (⟨Nat.le_of_ble_eq_true rfl, Nat.le_of_ble_eq_true rfl⟩ : rOK B9_wordIn B9_advance) rfl (Nat.le_of_ble_eq_true rfl) (Nat.le_of_ble_eq_true rfl) ⟨Nat.le_of_ble_eq_true rfl, Nat.le_of_ble_eq_true rfl⟩ rfl (wp_mono H (fun v9 M9 hq9 => ?_))
        clear H
        obtain ⟨I10, L11, rfl, rfl, H⟩ := hq9
        show wp X B9_wordIn 42 [(3, .int (I h 7)), (0, .ref h), (1, .int x1), (2, .int x2)] [] (G, I10, L11) 0 0 _
        refine wp_iload_n (z := 3) (i := 3) (x := (I h 7)) 0 (by decide +kernel) rfl rfl ?_
        exact wp_iret (by decide +kernel) rfl (Nat.zero_le _) (Nat.zero_le _) ⟨_, _, _, rfl, rfl, H⟩
      · rw [if_pos c9] at H
        refine wp_aload_n (z := 0) (i := 0) (r := (some h)) 0 (by decide +kernel) rfl rfl ?_
        refine wp_callV (idx := 118) (B2 := B9_ends) (As := []) (a := h) (st := []) (by decide +kernel) m9_ends ml9_118 k9_ends e9_ends ck9 ok.1 (⟨Nat.le_of_ble_eq_true rfl, Nat.le_of_ble_eq_true rfl⟩ : rOK B9_wordIn B9_ends) rfl (Nat.le_of_ble_eq_true rfl) (Nat.le_of_ble_eq_true rfl) ⟨Nat.le_of_ble_eq_true rfl, Nat.le_of_ble_eq_true rfl⟩ rfl (wp_mono H (fun v9 M9 hq9 => ?_))
        clear H
        obtain ⟨I13, L14, rfl, rfl, H⟩ := hq9
        show wp X B9_wordIn 31 [(0, .ref h), (1, .int x1), (2, .int x2)] [] (G, I13, L14) 0 0 _
        refine wp_iconst (z := 0) (v := 0) (by decide +kernel) (by decide) ?_
        exact wp_iret (by decide +kernel) rfl (Nat.zero_le _) (Nat.zero_le _) ⟨_, _, _, rfl, rfl, H⟩
/-! DeafWallModel.endsLine()V -/
set_option maxRecDepth 20000 in
theorem b9_endsLine {X : XX} {G : GG} {I : Nat → Nat → Int32} {L : Nat → Nat → Int64} {h : Nat} {Q : (Nat → Nat → Int32) → (Nat → Nat → Int64) → Prop} (ok : OK9 G h) (H : if (I h 8) = (0 : Int32) then (if (I h 5) = 2 then (wpV X B9_advance 0 [(0, .ref h)] [] G I L (fun I9 L10 => Q I9 L10)) else (wpV X B9_ends 0 [(0, .ref h)] [] G I L (fun I6 L7 => Q I6 L7))) else (wpV X B9_ends 0 [(0, .ref h)] [] G I L (fun I2 L3 => Q I2 L3))) : wpV X B9_endsLine 0 [(0, .ref h)] [] G I L Q := by
  refine wp_aload_n (z := 0) (i := 0) (r := (some h)) 0 (by decide +kernel) rfl rfl ?_
  refine wp_getI (idx := 114) (by decide +kernel) fl9_114 rfl ok.1 ?_
  refine wp_if_ne (off := 18) (tgt := 22) (by decide +kernel) (by decide) (fun c1 => ?_) (fun c1 => ?_)
  · rw [if_neg c1] at H
    refine wp_aload_n (z := 0) (i := 0) (r := (some h)) 0 (by decide +kernel) rfl rfl ?_
    refine wp_callV (idx := 118) (B2 := B9_ends) (As := []) (a := h) (st := []) (by decide +kernel) m9_ends ml9_118 k9_ends e9_ends ck9 ok.1 (⟨Nat.le_of_ble_eq_true rfl, Nat.le_of_ble_eq_true rfl⟩ : rOK B9_endsLine B9_ends) rfl (Nat.le_of_ble_eq_true rfl) (Nat.le_of_ble_eq_true rfl) ⟨Nat.le_of_ble_eq_true rfl, Nat.le_of_ble_eq_true rfl⟩ rfl (wp_mono H (fun v9 M9 hq9 => ?_))
    clear H
    obtain ⟨I2, L3, rfl, rfl, H⟩ := hq9
    show wp X B9_endsLine 26 [(0, .ref h)] [] (G, I2, L3) 0 0 _
    exact wp_vret (by decide +kernel) rfl (Nat.zero_le _) (Nat.zero_le _) ⟨_, _, rfl, rfl, H⟩
  · rw [if_pos c1] at H
    refine wp_aload_n (z := 0) (i := 0) (r := (some h)) 0 (by decide +kernel) rfl rfl ?_
    refine wp_getI (idx := 90) (by decide +kernel) fl9_90 rfl ok.1 ?_
    refine wp_iconst (z := 2) (v := 2) (by decide +kernel) (by decide) ?_
    refine wp_icmp_ne (off := 10) (tgt := 22) (by decide +kernel) (by decide) (fun c5 => ?_) (fun c5 => ?_)
    · rw [if_neg c5] at H
      refine wp_aload_n (z := 0) (i := 0) (r := (some h)) 0 (by decide +kernel) rfl rfl ?_
      refine wp_callV (idx := 118) (B2 := B9_ends) (As := []) (a := h) (st := []) (by decide +kernel) m9_ends ml9_118 k9_ends e9_ends ck9 ok.1 (⟨Nat.le_of_ble_eq_true rfl, Nat.le_of_ble_eq_true rfl⟩ : rOK B9_endsLine B9_ends) rfl (Nat.le_of_ble_eq_true rfl) (Nat.le_of_ble_eq_true rfl) ⟨Nat.le_of_ble_eq_true rfl, Nat.le_of_ble_eq_true rfl⟩ rfl (wp_mono H (fun v9 M9 hq9 => ?_))
      clear H
      obtain ⟨I6, L7, rfl, rfl, H⟩ := hq9
      show wp X B9_endsLine 26 [(0, .ref h)] [] (G, I6, L7) 0 0 _
      exact wp_vret (by decide +kernel) rfl (Nat.zero_le _) (Nat.zero_le _) ⟨_, _, rfl, rfl, H⟩
    · rw [if_pos c5] at H
      refine wp_aload_n (z := 0) (i := 0) (r := (some h)) 0 (by decide +kernel) rfl rfl ?_
      refine wp_callV (idx := 129) (B2 := B9_advance) (As := []) (a := h) (st := []) (by decide +kernel) m9_advance ml9_129 k9_advance e9_advance ck9 ok.1 (⟨Nat.le_of_ble_eq_true rfl, Nat.le_of_ble_eq_true rfl⟩ : rOK B9_endsLine B9_advance) rfl (Nat.le_of_ble_eq_true rfl) (Nat.le_of_ble_eq_true rfl) ⟨Nat.le_of_ble_eq_true rfl, Nat.le_of_ble_eq_true rfl⟩ rfl (wp_mono H (fun v9 M9 hq9 => ?_))
      clear H
      obtain ⟨I9, L10, rfl, rfl, H⟩ := hq9
      show wp X B9_endsLine 19 [(0, .ref h)] [] (G, I9, L10) 0 0 _
      refine wp_goto (off := 7) (tgt := 26) (by decide +kernel) (by decide) ?_
      exact wp_vret (by decide +kernel) rfl (Nat.zero_le _) (Nat.zero_le _) ⟨_, _, rfl, rfl, H⟩
/-! DeafWallModel.cellTold()I -/
set_option maxRecDepth 20000 in
theorem b9_cellTold {X : XX} {G : GG} {I : Nat → Nat → Int32} {L : Nat → Nat → Int64} {h : Nat} {Q : Int32 → (Nat → Nat → Int32) → (Nat → Nat → Int64) → Prop} (ok : OK9 G h) (H : wpI X B9_numbered 0 [(0, .ref h), (1, .int 0), (2, .int 31)] [] G I L (fun r3 I1 L2 => if r3 ≤ (I1 h 9) then (∀ I5, I5 = up2 I1 h 9 (I1 h 9) → Q r3 I5 L2) else (∀ I6, I6 = up2 I1 h 9 r3 → Q r3 I6 L2))) : wpI X B9_cellTold 0 [(0, .ref h)] [] G I L Q := by
  refine wp_aload_n (z := 0) (i := 0) (r := (some h)) 0 (by decide +kernel) rfl rfl ?_
  refine wp_iconst (z := 0) (v := 0) (by decide +kernel) (by decide) ?_
  refine wp_bipush (z := 31) (v := 31) (by decide +kernel) (by decide) ?_
  refine wp_callV (idx := 132) (B2 := B9_numbered) (As := [.int 0, .int 31]) (a := h) (st := []) (by decide +kernel) m9_numbered ml9_132 k9_numbered e9_numbered ck9 ok.1 (⟨Nat.le_of_ble_eq_true rfl, Nat.le_of_ble_eq_true rfl⟩ : rOK B9_cellTold B9_numbered) rfl (Nat.le_of_ble_eq_true rfl) (Nat.le_of_ble_eq_true rfl) ⟨Nat.le_of_ble_eq_true rfl, Nat.le_of_ble_eq_true rfl⟩ rfl (wp_mono H (fun v9 M9 hq9 => ?_))
  clear H
  obtain ⟨r3, I1, L2, rfl, rfl, H⟩ := hq9
  show wp X B9_cellTold 7 [(0, .ref h)] [.int r3] (G, I1, L2) 0 0 _
  refine wp_istore_n (z := 1) (i := 1) (lv' := [(1, .int r3), (0, .ref h)]) (by decide +kernel) rfl (by decide) rfl ?_
  refine wp_aload_n (z := 0) (i := 0) (r := (some h)) 1 (by decide +kernel) rfl rfl ?_
  refine wp_iload_n (z := 1) (i := 1) (x := r3) 0 (by decide +kernel) rfl rfl ?_
  refine wp_aload_n (z := 0) (i := 0) (r := (some h)) 1 (by decide +kernel) rfl rfl ?_
  refine wp_getI (idx := 136) (by decide +kernel) fl9_136 rfl ok.1 ?_
  refine wp_icmp_le (off := 7) (tgt := 21) (by decide +kernel) (by decide) (fun c4 => ?_) (fun c4 => ?_)
  · rw [if_pos c4] at H
    refine wp_aload_n (z := 0) (i := 0) (r := (some h)) 1 (by decide +kernel) rfl rfl ?_
    refine wp_getI (idx := 136) (by decide +kernel) fl9_136 rfl ok.1 ?_
    refine wp_putI (idx := 136) (by decide +kernel) fl9_136 rfl ok.1 ?_
    refine wp_memI (fun I5 eI5 => ?_)
    replace H := H I5 eI5
    refine wp_iload_n (z := 1) (i := 1) (x := r3) 0 (by decide +kernel) rfl rfl ?_
    exact wp_iret (by decide +kernel) rfl (Nat.zero_le _) (Nat.zero_le _) ⟨_, _, _, rfl, rfl, H⟩
  · rw [if_neg c4] at H
    refine wp_iload_n (z := 1) (i := 1) (x := r3) 0 (by decide +kernel) rfl rfl ?_
    refine wp_goto (off := 7) (tgt := 25) (by decide +kernel) (by decide) ?_
    refine wp_putI (idx := 136) (by decide +kernel) fl9_136 rfl ok.1 ?_
    refine wp_memI (fun I6 eI6 => ?_)
    replace H := H I6 eI6
    refine wp_iload_n (z := 1) (i := 1) (x := r3) 0 (by decide +kernel) rfl rfl ?_
    exact wp_iret (by decide +kernel) rfl (Nat.zero_le _) (Nat.zero_le _) ⟨_, _, _, rfl, rfl, H⟩
/-! DeafWallModel.feelerTold(I)V -/
set_option maxRecDepth 20000 in
theorem b9_feelerTold {X : XX} {G : GG} {I : Nat → Nat → Int32} {L : Nat → Nat → Int64} {h : Nat} {x1 : Int32} {Q : (Nat → Nat → Int32) → (Nat → Nat → Int64) → Prop} (ok : OK9 G h) (H : if (I (h + 3) 3) < 6 then (wpI X B9_cellTold 0 [(0, .ref h)] [] G I L (fun r4 I2 L3 => wpI X B9_numbered 0 [(0, .ref h), (1, .int 1), (2, .int 9)] [] G I2 L3 (fun r7 I5 L6 => if (I5 (h + 3) 3) < 6 then (vp_in (5 + (2 * (I5 (h + 3) 3))) 121 ∧ (∀ I9, I9 = up2 I5 (h + 3) (cl (5 + (2 * (I5 (h + 3) 3)))) r4 → vp_in (6 + (2 * (I9 (h + 3) 3))) 121 ∧ (∀ I10, I10 = up2 I9 (h + 3) (cl (6 + (2 * (I9 (h + 3) 3)))) r7 → ∀ I11, I11 = up2 I10 (h + 3) 3 ((I10 (h + 3) 3) + 1) → Q I11 L6))) else (Q I5 L6)))) else (wpV X B9_also 0 [(0, .ref h), (1, .int 3), (2, .int x1)] [] G I L (fun I14 L15 => wpI X B9_cellTold 0 [(0, .ref h)] [] G I14 L15 (fun r19 I17 L18 => wpI X B9_numbered 0 [(0, .ref h), (1, .int 1), (2, .int 9)] [] G I17 L18 (fun r22 I20 L21 => if (I20 (h + 3) 3) < 6 then (vp_in (5 + (2 * (I20 (h + 3) 3))) 121 ∧ (∀ I24, I24 = up2 I20 (h + 3) (cl (5 + (2 * (I20 (h + 3) 3)))) r19 → vp_in (6 + (2 * (I24 (h + 3) 3))) 121 ∧ (∀ I25, I25 = up2 I24 (h + 3) (cl (6 + (2 * (I24 (h + 3) 3)))) r22 → ∀ I26, I26 = up2 I25 (h + 3) 3 ((I25 (h + 3) 3) + 1) → Q I26 L21))) else (Q I20 L21)))))) : wpV X B9_feelerTold 0 [(0, .ref h), (1, .int x1)] [] G I L Q := by
  refine wp_aload_n (z := 0) (i := 0) (r := (some h)) 0 (by decide +kernel) rfl rfl ?_
  refine wp_getS (idx := 17) (q := (h + 3)) (by decide +kernel) fl9_17 rfl ok.1 (okr9_10 ok) ?_
  refine wp_iconst (z := 3) (v := 3) (by decide +kernel) (by decide) ?_
  refine wp_iald (j := 3) (by decide +kernel) (oks9_10 ok) (vin_c (by decide)) (by decide) ?_
  refine wp_bipush (z := 6) (v := 6) (by decide +kernel) (by decide) ?_
  refine wp_icmp_lt (off := 9) (tgt := 17) (by decide +kernel) (by decide) (fun c1 => ?_) (fun c1 => ?_)
  · rw [if_pos c1] at H
    refine wp_aload_n (z := 0) (i := 0) (r := (some h)) 0 (by decide +kernel) rfl rfl ?_
    refine wp_callV (idx := 139) (B2 := B9_cellTold) (As := []) (a := h) (st := []) (by decide +kernel) m9_cellTold ml9_139 k9_cellTold e9_cellTold ck9 ok.1 (⟨Nat.le_of_ble_eq_true rfl, Nat.le_of_ble_eq_true rfl⟩ : rOK B9_feelerTold B9_cellTold) rfl (Nat.le_of_ble_eq_true rfl) (Nat.le_of_ble_eq_true rfl) ⟨Nat.le_of_ble_eq_true rfl, Nat.le_of_ble_eq_true rfl⟩ rfl (wp_mono H (fun v9 M9 hq9 => ?_))
    clear H
    obtain ⟨r4, I2, L3, rfl, rfl, H⟩ := hq9
    show wp X B9_feelerTold 21 [(0, .ref h), (1, .int x1)] [.int r4] (G, I2, L3) 0 0 _
    refine wp_istore_n (z := 2) (i := 2) (lv' := [(2, .int r4), (0, .ref h), (1, .int x1)]) (by decide +kernel) rfl (by decide) rfl ?_
    refine wp_aload_n (z := 0) (i := 0) (r := (some h)) 1 (by decide +kernel) rfl rfl ?_
    refine wp_iconst (z := 1) (v := 1) (by decide +kernel) (by decide) ?_
    refine wp_bipush (z := 9) (v := 9) (by decide +kernel) (by decide) ?_
    refine wp_callV (idx := 132) (B2 := B9_numbered) (As := [.int 1, .int 9]) (a := h) (st := []) (by decide +kernel) m9_numbered ml9_132 k9_numbered e9_numbered ck9 ok.1 (⟨Nat.le_of_ble_eq_true rfl, Nat.le_of_ble_eq_true rfl⟩ : rOK B9_feelerTold B9_numbered) rfl (Nat.le_of_ble_eq_true rfl) (Nat.le_of_ble_eq_true rfl) ⟨Nat.le_of_ble_eq_true rfl, Nat.le_of_ble_eq_true rfl⟩ rfl (wp_mono H (fun v9 M9 hq9 => ?_))
    clear H
    obtain ⟨r7, I5, L6, rfl, rfl, H⟩ := hq9
    show wp X B9_feelerTold 29 [(2, .int r4), (0, .ref h), (1, .int x1)] [.int r7] (G, I5, L6) 0 0 _
    refine wp_istore_n (z := 3) (i := 3) (lv' := [(3, .int r7), (2, .int r4), (0, .ref h), (1, .int x1)]) (by decide +kernel) rfl (by decide) rfl ?_
    refine wp_aload_n (z := 0) (i := 0) (r := (some h)) 2 (by decide +kernel) rfl rfl ?_
    refine wp_getS (idx := 17) (q := (h + 3)) (by decide +kernel) fl9_17 rfl ok.1 (okr9_10 ok) ?_
    refine wp_iconst (z := 3) (v := 3) (by decide +kernel) (by decide) ?_
    refine wp_iald (j := 3) (by decide +kernel) (oks9_10 ok) (vin_c (by decide)) (by decide) ?_
    refine wp_bipush (z := 6) (v := 6) (by decide +kernel) (by decide) ?_
    refine wp_icmp_lt (off := 4) (tgt := 42) (by decide +kernel) (by decide) (fun c8 => ?_) (fun c8 => ?_)
    · rw [if_pos c8] at H
      refine wp_aload_n (z := 0) (i := 0) (r := (some h)) 2 (by decide +kernel) rfl rfl ?_
      refine wp_getS (idx := 17) (q := (h + 3)) (by decide +kernel) fl9_17 rfl ok.1 (okr9_10 ok) ?_
      refine wp_iconst (z := 5) (v := 5) (by decide +kernel) (by decide) ?_
      refine wp_iconst (z := 2) (v := 2) (by decide +kernel) (by decide) ?_
      refine wp_aload_n (z := 0) (i := 0) (r := (some h)) 2 (by decide +kernel) rfl rfl ?_
      refine wp_getS (idx := 17) (q := (h + 3)) (by decide +kernel) fl9_17 rfl ok.1 (okr9_10 ok) ?_
      refine wp_iconst (z := 3) (v := 3) (by decide +kernel) (by decide) ?_
      refine wp_iald (j := 3) (by decide +kernel) (oks9_10 ok) (vin_c (by decide)) (by decide) ?_
      refine wp_imul (by decide +kernel) ?_
      refine wp_iadd (by decide +kernel) ?_
      refine wp_iload_n (z := 2) (i := 2) (x := r4) 1 (by decide +kernel) rfl rfl ?_
      obtain ⟨o13, H⟩ := H
      refine wp_iast (j := (cl (5 + (2 * (I5 (h + 3) 3))))) (by decide +kernel) (oks9_10 ok) o13 rfl ?_
      refine wp_memI (fun I9 eI9 => ?_)
      replace H := H I9 eI9
      refine wp_aload_n (z := 0) (i := 0) (r := (some h)) 2 (by decide +kernel) rfl rfl ?_
      refine wp_getS (idx := 17) (q := (h + 3)) (by decide +kernel) fl9_17 rfl ok.1 (okr9_10 ok) ?_
      refine wp_bipush (z := 6) (v := 6) (by decide +kernel) (by decide) ?_
      refine wp_iconst (z := 2) (v := 2) (by decide +kernel) (by decide) ?_
      refine wp_aload_n (z := 0) (i := 0) (r := (some h)) 2 (by decide +kernel) rfl rfl ?_
      refine wp_getS (idx := 17) (q := (h + 3)) (by decide +kernel) fl9_17 rfl ok.1 (okr9_10 ok) ?_
      refine wp_iconst (z := 3) (v := 3) (by decide +kernel) (by decide) ?_
      refine wp_iald (j := 3) (by decide +kernel) (oks9_10 ok) (vin_c (by decide)) (by decide) ?_
      refine wp_imul (by decide +kernel) ?_
      refine wp_iadd (by decide +kernel) ?_
      refine wp_iload_n (z := 3) (i := 3) (x := r7) 0 (by decide +kernel) rfl rfl ?_
      obtain ⟨o12, H⟩ := H
      refine wp_iast (j := (cl (6 + (2 * (I9 (h + 3) 3))))) (by decide +kernel) (oks9_10 ok) o12 rfl ?_
      refine wp_memI (fun I10 eI10 => ?_)
      replace H := H I10 eI10
      refine wp_aload_n (z := 0) (i := 0) (r := (some h)) 2 (by decide +kernel) rfl rfl ?_
      refine wp_getS (idx := 17) (q := (h + 3)) (by decide +kernel) fl9_17 rfl ok.1 (okr9_10 ok) ?_
      refine wp_iconst (z := 3) (v := 3) (by decide +kernel) (by decide) ?_
      refine wp_dup2 (by decide +kernel) rfl rfl ?_
      refine wp_iald (j := 3) (by decide +kernel) (oks9_10 ok) (vin_c (by decide)) (by decide) ?_
      refine wp_iconst (z := 1) (v := 1) (by decide +kernel) (by decide) ?_
      refine wp_iadd (by decide +kernel) ?_
      refine wp_iast (j := 3) (by decide +kernel) (oks9_10 ok) (vin_c (by decide)) (by decide) ?_
      refine wp_memI (fun I11 eI11 => ?_)
      replace H := H I11 eI11
      exact wp_vret (by decide +kernel) rfl (Nat.zero_le _) (Nat.zero_le _) ⟨_, _, rfl, rfl, H⟩
    · rw [if_neg c8] at H
      exact wp_vret (by decide +kernel) rfl (Nat.zero_le _) (Nat.zero_le _) ⟨_, _, rfl, rfl, H⟩
  · rw [if_neg c1] at H
    refine wp_aload_n (z := 0) (i := 0) (r := (some h)) 0 (by decide +kernel) rfl rfl ?_
    refine wp_iconst (z := 3) (v := 3) (by decide +kernel) (by decide) ?_
    refine wp_iload_n (z := 1) (i := 1) (x := x1) 1 (by decide +kernel) rfl rfl ?_
    refine wp_callV (idx := 125) (B2 := B9_also) (As := [.int 3, .int x1]) (a := h) (st := []) (by decide +kernel) m9_also ml9_125 k9_also e9_also ck9 ok.1 (⟨Nat.le_of_ble_eq_true rfl, Nat.le_of_ble_eq_true rfl⟩ : rOK B9_feelerTold B9_also) rfl (Nat.le_of_ble_eq_true rfl) (Nat.le_of_ble_eq_true rfl) ⟨Nat.le_of_ble_eq_true rfl, Nat.le_of_ble_eq_true rfl⟩ rfl (wp_mono H (fun v9 M9 hq9 => ?_))
    clear H
    obtain ⟨I14, L15, rfl, rfl, H⟩ := hq9
    show wp X B9_feelerTold 17 [(0, .ref h), (1, .int x1)] [] (G, I14, L15) 0 0 _
    refine wp_aload_n (z := 0) (i := 0) (r := (some h)) 0 (by decide +kernel) rfl rfl ?_
    refine wp_callV (idx := 139) (B2 := B9_cellTold) (As := []) (a := h) (st := []) (by decide +kernel) m9_cellTold ml9_139 k9_cellTold e9_cellTold ck9 ok.1 (⟨Nat.le_of_ble_eq_true rfl, Nat.le_of_ble_eq_true rfl⟩ : rOK B9_feelerTold B9_cellTold) rfl (Nat.le_of_ble_eq_true rfl) (Nat.le_of_ble_eq_true rfl) ⟨Nat.le_of_ble_eq_true rfl, Nat.le_of_ble_eq_true rfl⟩ rfl (wp_mono H (fun v9 M9 hq9 => ?_))
    clear H
    obtain ⟨r19, I17, L18, rfl, rfl, H⟩ := hq9
    show wp X B9_feelerTold 21 [(0, .ref h), (1, .int x1)] [.int r19] (G, I17, L18) 0 0 _
    refine wp_istore_n (z := 2) (i := 2) (lv' := [(2, .int r19), (0, .ref h), (1, .int x1)]) (by decide +kernel) rfl (by decide) rfl ?_
    refine wp_aload_n (z := 0) (i := 0) (r := (some h)) 1 (by decide +kernel) rfl rfl ?_
    refine wp_iconst (z := 1) (v := 1) (by decide +kernel) (by decide) ?_
    refine wp_bipush (z := 9) (v := 9) (by decide +kernel) (by decide) ?_
    refine wp_callV (idx := 132) (B2 := B9_numbered) (As := [.int 1, .int 9]) (a := h) (st := []) (by decide +kernel) m9_numbered ml9_132 k9_numbered e9_numbered ck9 ok.1 (⟨Nat.le_of_ble_eq_true rfl, Nat.le_of_ble_eq_true rfl⟩ : rOK B9_feelerTold B9_numbered) rfl (Nat.le_of_ble_eq_true rfl) (Nat.le_of_ble_eq_true rfl) ⟨Nat.le_of_ble_eq_true rfl, Nat.le_of_ble_eq_true rfl⟩ rfl (wp_mono H (fun v9 M9 hq9 => ?_))
    clear H
    obtain ⟨r22, I20, L21, rfl, rfl, H⟩ := hq9
    show wp X B9_feelerTold 29 [(2, .int r19), (0, .ref h), (1, .int x1)] [.int r22] (G, I20, L21) 0 0 _
    refine wp_istore_n (z := 3) (i := 3) (lv' := [(3, .int r22), (2, .int r19), (0, .ref h), (1, .int x1)]) (by decide +kernel) rfl (by decide) rfl ?_
    refine wp_aload_n (z := 0) (i := 0) (r := (some h)) 2 (by decide +kernel) rfl rfl ?_
    refine wp_getS (idx := 17) (q := (h + 3)) (by decide +kernel) fl9_17 rfl ok.1 (okr9_10 ok) ?_
    refine wp_iconst (z := 3) (v := 3) (by decide +kernel) (by decide) ?_
    refine wp_iald (j := 3) (by decide +kernel) (oks9_10 ok) (vin_c (by decide)) (by decide) ?_
    refine wp_bipush (z := 6) (v := 6) (by decide +kernel) (by decide) ?_
    refine wp_icmp_lt (off := 4) (tgt := 42) (by decide +kernel) (by decide) (fun c23 => ?_) (fun c23 => ?_)
    · rw [if_pos c23] at H
      refine wp_aload_n (z := 0) (i := 0) (r := (some h)) 2 (by decide +kernel) rfl rfl ?_
      refine wp_getS (idx := 17) (q := (h + 3)) (by decide +kernel) fl9_17 rfl ok.1 (okr9_10 ok) ?_
      refine wp_iconst (z := 5) (v := 5) (by decide +kernel) (by decide) ?_
      refine wp_iconst (z := 2) (v := 2) (by decide +kernel) (by decide) ?_
      refine wp_aload_n (z := 0) (i := 0) (r := (some h)) 2 (by decide +kernel) rfl rfl ?_
      refine wp_getS (idx := 17) (q := (h + 3)) (by decide +kernel) fl9_17 rfl ok.1 (okr9_10 ok) ?_
      refine wp_iconst (z := 3) (v := 3) (by decide +kernel) (by decide) ?_
      refine wp_iald (j := 3) (by decide +kernel) (oks9_10 ok) (vin_c (by decide)) (by decide) ?_
      refine wp_imul (by decide +kernel) ?_
      refine wp_iadd (by decide +kernel) ?_
      refine wp_iload_n (z := 2) (i := 2) (x := r19) 1 (by decide +kernel) rfl rfl ?_
      obtain ⟨o28, H⟩ := H
      refine wp_iast (j := (cl (5 + (2 * (I20 (h + 3) 3))))) (by decide +kernel) (oks9_10 ok) o28 rfl ?_
      refine wp_memI (fun I24 eI24 => ?_)
      replace H := H I24 eI24
      refine wp_aload_n (z := 0) (i := 0) (r := (some h)) 2 (by decide +kernel) rfl rfl ?_
      refine wp_getS (idx := 17) (q := (h + 3)) (by decide +kernel) fl9_17 rfl ok.1 (okr9_10 ok) ?_
      refine wp_bipush (z := 6) (v := 6) (by decide +kernel) (by decide) ?_
      refine wp_iconst (z := 2) (v := 2) (by decide +kernel) (by decide) ?_
      refine wp_aload_n (z := 0) (i := 0) (r := (some h)) 2 (by decide +kernel) rfl rfl ?_
      refine wp_getS (idx := 17) (q := (h + 3)) (by decide +kernel) fl9_17 rfl ok.1 (okr9_10 ok) ?_
      refine wp_iconst (z := 3) (v := 3) (by decide +kernel) (by decide) ?_
      refine wp_iald (j := 3) (by decide +kernel) (oks9_10 ok) (vin_c (by decide)) (by decide) ?_
      refine wp_imul (by decide +kernel) ?_
      refine wp_iadd (by decide +kernel) ?_
      refine wp_iload_n (z := 3) (i := 3) (x := r22) 0 (by decide +kernel) rfl rfl ?_
      obtain ⟨o27, H⟩ := H
      refine wp_iast (j := (cl (6 + (2 * (I24 (h + 3) 3))))) (by decide +kernel) (oks9_10 ok) o27 rfl ?_
      refine wp_memI (fun I25 eI25 => ?_)
      replace H := H I25 eI25
      refine wp_aload_n (z := 0) (i := 0) (r := (some h)) 2 (by decide +kernel) rfl rfl ?_
      refine wp_getS (idx := 17) (q := (h + 3)) (by decide +kernel) fl9_17 rfl ok.1 (okr9_10 ok) ?_
      refine wp_iconst (z := 3) (v := 3) (by decide +kernel) (by decide) ?_
      refine wp_dup2 (by decide +kernel) rfl rfl ?_
      refine wp_iald (j := 3) (by decide +kernel) (oks9_10 ok) (vin_c (by decide)) (by decide) ?_
      refine wp_iconst (z := 1) (v := 1) (by decide +kernel) (by decide) ?_
      refine wp_iadd (by decide +kernel) ?_
      refine wp_iast (j := 3) (by decide +kernel) (oks9_10 ok) (vin_c (by decide)) (by decide) ?_
      refine wp_memI (fun I26 eI26 => ?_)
      replace H := H I26 eI26
      exact wp_vret (by decide +kernel) rfl (Nat.zero_le _) (Nat.zero_le _) ⟨_, _, rfl, rfl, H⟩
    · rw [if_neg c23] at H
      exact wp_vret (by decide +kernel) rfl (Nat.zero_le _) (Nat.zero_le _) ⟨_, _, rfl, rfl, H⟩
/-! DeafWallModel.taleTold(I)V -/
set_option maxRecDepth 20000 in
theorem b9_taleTold {X : XX} {G : GG} {I : Nat → Nat → Int32} {L : Nat → Nat → Int64} {h : Nat} {x1 : Int32} {Q : (Nat → Nat → Int32) → (Nat → Nat → Int64) → Prop} (ok : OK9 G h) (H : if (I (h + 3) 4) < 6 then (wpV X B9_taleTold 21 [(0, .ref h), (2, .int 0), (3, .int 0)] [] G I L Q) else (wpV X B9_also 0 [(0, .ref h), (1, .int 3), (2, .int x1)] [] G I L (fun I2 L3 => wpV X B9_taleTold 21 [(0, .ref h), (2, .int 0), (3, .int 0)] [] G I2 L3 Q))) : wpV X B9_taleTold 0 [(0, .ref h), (1, .int x1)] [] G I L Q := by
  refine wp_aload_n (z := 0) (i := 0) (r := (some h)) 0 (by decide +kernel) rfl rfl ?_
  refine wp_getS (idx := 17) (q := (h + 3)) (by decide +kernel) fl9_17 rfl ok.1 (okr9_10 ok) ?_
  refine wp_iconst (z := 4) (v := 4) (by decide +kernel) (by decide) ?_
  refine wp_iald (j := 4) (by decide +kernel) (oks9_10 ok) (vin_c (by decide)) (by decide) ?_
  refine wp_bipush (z := 6) (v := 6) (by decide +kernel) (by decide) ?_
  refine wp_icmp_lt (off := 9) (tgt := 17) (by decide +kernel) (by decide) (fun c1 => ?_) (fun c1 => ?_)
  · rw [if_pos c1] at H
    refine wp_iconst (z := 0) (v := 0) (by decide +kernel) (by decide) ?_
    refine wp_istore_n (z := 2) (i := 2) (lv' := [(2, .int 0), (0, .ref h), (1, .int x1)]) (by decide +kernel) rfl (by decide) rfl ?_
    refine wp_iconst (z := 0) (v := 0) (by decide +kernel) (by decide) ?_
    refine wp_istore_n (z := 3) (i := 3) (lv' := [(3, .int 0), (2, .int 0), (0, .ref h), (1, .int x1)]) (by decide +kernel) rfl (by decide) rfl ?_
    exact wp_sub [2, 1, 0] rfl H
  · rw [if_neg c1] at H
    refine wp_aload_n (z := 0) (i := 0) (r := (some h)) 0 (by decide +kernel) rfl rfl ?_
    refine wp_iconst (z := 3) (v := 3) (by decide +kernel) (by decide) ?_
    refine wp_iload_n (z := 1) (i := 1) (x := x1) 1 (by decide +kernel) rfl rfl ?_
    refine wp_callV (idx := 125) (B2 := B9_also) (As := [.int 3, .int x1]) (a := h) (st := []) (by decide +kernel) m9_also ml9_125 k9_also e9_also ck9 ok.1 (⟨Nat.le_of_ble_eq_true rfl, Nat.le_of_ble_eq_true rfl⟩ : rOK B9_taleTold B9_also) rfl (Nat.le_of_ble_eq_true rfl) (Nat.le_of_ble_eq_true rfl) ⟨Nat.le_of_ble_eq_true rfl, Nat.le_of_ble_eq_true rfl⟩ rfl (wp_mono H (fun v9 M9 hq9 => ?_))
    clear H
    obtain ⟨I2, L3, rfl, rfl, H⟩ := hq9
    show wp X B9_taleTold 17 [(0, .ref h), (1, .int x1)] [] (G, I2, L3) 0 0 _
    refine wp_iconst (z := 0) (v := 0) (by decide +kernel) (by decide) ?_
    refine wp_istore_n (z := 2) (i := 2) (lv' := [(2, .int 0), (0, .ref h), (1, .int x1)]) (by decide +kernel) rfl (by decide) rfl ?_
    refine wp_iconst (z := 0) (v := 0) (by decide +kernel) (by decide) ?_
    refine wp_istore_n (z := 3) (i := 3) (lv' := [(3, .int 0), (2, .int 0), (0, .ref h), (1, .int x1)]) (by decide +kernel) rfl (by decide) rfl ?_
    exact wp_sub [2, 1, 0] rfl H
set_option maxRecDepth 20000 in
theorem b9_taleTold_21 {X : XX} {G : GG} {I : Nat → Nat → Int32} {L : Nat → Nat → Int64} {h : Nat} {x2 : Int32} {x3 : Int32} {Q : (Nat → Nat → Int32) → (Nat → Nat → Int64) → Prop} (ok : OK9 G h) (H : if (I h 8) = (0 : Int32) then (if x3 = (0 : Int32) then (wpV X B9_taleTold 40 [(0, .ref h), (2, .int x2), (3, .int x3)] [] G I L Q) else (if (I h 5) = 1 then (wpV X B9_taleTold 40 [(0, .ref h), (2, .int x2), (3, .int x3)] [] G I L Q) else (if (I (h + 3) 4) < 6 then (vp_in (17 + (2 * (I (h + 3) 4))) 121 ∧ (∀ I11, I11 = up2 I (h + 3) (cl (17 + (2 * (I (h + 3) 4)))) x3 → vp_in (18 + (2 * (I11 (h + 3) 4))) 121 ∧ (∀ I12, I12 = up2 I11 (h + 3) (cl (18 + (2 * (I11 (h + 3) 4)))) x2 → ∀ I13, I13 = up2 I12 (h + 3) 4 ((I12 (h + 3) 4) + 1) → Q I13 L))) else (Q I L)))) else (if (I (h + 3) 4) < 6 then (vp_in (17 + (2 * (I (h + 3) 4))) 121 ∧ (∀ I3, I3 = up2 I (h + 3) (cl (17 + (2 * (I (h + 3) 4)))) x3 → vp_in (18 + (2 * (I3 (h + 3) 4))) 121 ∧ (∀ I4, I4 = up2 I3 (h + 3) (cl (18 + (2 * (I3 (h + 3) 4)))) x2 → ∀ I5, I5 = up2 I4 (h + 3) 4 ((I4 (h + 3) 4) + 1) → Q I5 L))) else (Q I L))) : wpV X B9_taleTold 21 [(0, .ref h), (2, .int x2), (3, .int x3)] [] G I L Q := by
  refine wp_aload_n (z := 0) (i := 0) (r := (some h)) 0 (by decide +kernel) rfl rfl ?_
  refine wp_getI (idx := 114) (by decide +kernel) fl9_114 rfl ok.1 ?_
  refine wp_if_ne (off := 73) (tgt := 98) (by decide +kernel) (by decide) (fun c1 => ?_) (fun c1 => ?_)
  · rw [if_neg c1] at H
    refine wp_aload_n (z := 0) (i := 0) (r := (some h)) 0 (by decide +kernel) rfl rfl ?_
    refine wp_getS (idx := 17) (q := (h + 3)) (by decide +kernel) fl9_17 rfl ok.1 (okr9_10 ok) ?_
    refine wp_iconst (z := 4) (v := 4) (by decide +kernel) (by decide) ?_
    refine wp_iald (j := 4) (by decide +kernel) (oks9_10 ok) (vin_c (by decide)) (by decide) ?_
    refine wp_bipush (z := 6) (v := 6) (by decide +kernel) (by decide) ?_
    refine wp_icmp_lt (off := 4) (tgt := 110) (by decide +kernel) (by decide) (fun c2 => ?_) (fun c2 => ?_)
    · rw [if_pos c2] at H
      refine wp_aload_n (z := 0) (i := 0) (r := (some h)) 0 (by decide +kernel) rfl rfl ?_
      refine wp_getS (idx := 17) (q := (h + 3)) (by decide +kernel) fl9_17 rfl ok.1 (okr9_10 ok) ?_
      refine wp_bipush (z := 17) (v := 17) (by decide +kernel) (by decide) ?_
      refine wp_iconst (z := 2) (v := 2) (by decide +kernel) (by decide) ?_
      refine wp_aload_n (z := 0) (i := 0) (r := (some h)) 0 (by decide +kernel) rfl rfl ?_
      refine wp_getS (idx := 17) (q := (h + 3)) (by decide +kernel) fl9_17 rfl ok.1 (okr9_10 ok) ?_
      refine wp_iconst (z := 4) (v := 4) (by decide +kernel) (by decide) ?_
      refine wp_iald (j := 4) (by decide +kernel) (oks9_10 ok) (vin_c (by decide)) (by decide) ?_
      refine wp_imul (by decide +kernel) ?_
      refine wp_iadd (by decide +kernel) ?_
      refine wp_iload_n (z := 3) (i := 3) (x := x3) 2 (by decide +kernel) rfl rfl ?_
      obtain ⟨o7, H⟩ := H
      refine wp_iast (j := (cl (17 + (2 * (I (h + 3) 4))))) (by decide +kernel) (oks9_10 ok) o7 rfl ?_
      refine wp_memI (fun I3 eI3 => ?_)
      replace H := H I3 eI3
      refine wp_aload_n (z := 0) (i := 0) (r := (some h)) 0 (by decide +kernel) rfl rfl ?_
      refine wp_getS (idx := 17) (q := (h + 3)) (by decide +kernel) fl9_17 rfl ok.1 (okr9_10 ok) ?_
      refine wp_bipush (z := 18) (v := 18) (by decide +kernel) (by decide) ?_
      refine wp_iconst (z := 2) (v := 2) (by decide +kernel) (by decide) ?_
      refine wp_aload_n (z := 0) (i := 0) (r := (some h)) 0 (by decide +kernel) rfl rfl ?_
      refine wp_getS (idx := 17) (q := (h + 3)) (by decide +kernel) fl9_17 rfl ok.1 (okr9_10 ok) ?_
      refine wp_iconst (z := 4) (v := 4) (by decide +kernel) (by decide) ?_
      refine wp_iald (j := 4) (by decide +kernel) (oks9_10 ok) (vin_c (by decide)) (by decide) ?_
      refine wp_imul (by decide +kernel) ?_
      refine wp_iadd (by decide +kernel) ?_
      refine wp_iload_n (z := 2) (i := 2) (x := x2) 1 (by decide +kernel) rfl rfl ?_
      obtain ⟨o6, H⟩ := H
      refine wp_iast (j := (cl (18 + (2 * (I3 (h + 3) 4))))) (by decide +kernel) (oks9_10 ok) o6 rfl ?_
      refine wp_memI (fun I4 eI4 => ?_)
      replace H := H I4 eI4
      refine wp_aload_n (z := 0) (i := 0) (r := (some h)) 0 (by decide +kernel) rfl rfl ?_
      refine wp_getS (idx := 17) (q := (h + 3)) (by decide +kernel) fl9_17 rfl ok.1 (okr9_10 ok) ?_
      refine wp_iconst (z := 4) (v := 4) (by decide +kernel) (by decide) ?_
      refine wp_dup2 (by decide +kernel) rfl rfl ?_
      refine wp_iald (j := 4) (by decide +kernel) (oks9_10 ok) (vin_c (by decide)) (by decide) ?_
      refine wp_iconst (z := 1) (v := 1) (by decide +kernel) (by decide) ?_
      refine wp_iadd (by decide +kernel) ?_
      refine wp_iast (j := 4) (by decide +kernel) (oks9_10 ok) (vin_c (by decide)) (by decide) ?_
      refine wp_memI (fun I5 eI5 => ?_)
      replace H := H I5 eI5
      exact wp_vret (by decide +kernel) rfl (Nat.zero_le _) (Nat.zero_le _) ⟨_, _, rfl, rfl, H⟩
    · rw [if_neg c2] at H
      exact wp_vret (by decide +kernel) rfl (Nat.zero_le _) (Nat.zero_le _) ⟨_, _, rfl, rfl, H⟩
  · rw [if_pos c1] at H
    refine wp_iload_n (z := 3) (i := 3) (x := x3) 2 (by decide +kernel) rfl rfl ?_
    refine wp_if_eq (off := 11) (tgt := 40) (by decide +kernel) (by decide) (fun c8 => ?_) (fun c8 => ?_)
    · rw [if_pos c8] at H
      exact wp_sub [0, 1, 2] rfl H
    · rw [if_neg c8] at H
      refine wp_aload_n (z := 0) (i := 0) (r := (some h)) 0 (by decide +kernel) rfl rfl ?_
      refine wp_getI (idx := 90) (by decide +kernel) fl9_90 rfl ok.1 ?_
      refine wp_iconst (z := 1) (v := 1) (by decide +kernel) (by decide) ?_
      refine wp_icmp_ne (off := 61) (tgt := 98) (by decide +kernel) (by decide) (fun c9 => ?_) (fun c9 => ?_)
      · rw [if_neg c9] at H
        refine wp_aload_n (z := 0) (i := 0) (r := (some h)) 0 (by decide +kernel) rfl rfl ?_
        refine wp_getS (idx := 17) (q := (h + 3)) (by decide +kernel) fl9_17 rfl ok.1 (okr9_10 ok) ?_
        refine wp_iconst (z := 4) (v := 4) (by decide +kernel) (by decide) ?_
        refine wp_iald (j := 4) (by decide +kernel) (oks9_10 ok) (vin_c (by decide)) (by decide) ?_
        refine wp_bipush (z := 6) (v := 6) (by decide +kernel) (by decide) ?_
        refine wp_icmp_lt (off := 4) (tgt := 110) (by decide +kernel) (by decide) (fun c10 => ?_) (fun c10 => ?_)
        · rw [if_pos c10] at H
          refine wp_aload_n (z := 0) (i := 0) (r := (some h)) 0 (by decide +kernel) rfl rfl ?_
          refine wp_getS (idx := 17) (q := (h + 3)) (by decide +kernel) fl9_17 rfl ok.1 (okr9_10 ok) ?_
          refine wp_bipush (z := 17) (v := 17) (by decide +kernel) (by decide) ?_
          refine wp_iconst (z := 2) (v := 2) (by decide +kernel) (by decide) ?_
          refine wp_aload_n (z := 0) (i := 0) (r := (some h)) 0 (by decide +kernel) rfl rfl ?_
          refine wp_getS (idx := 17) (q := (h + 3)) (by decide +kernel) fl9_17 rfl ok.1 (okr9_10 ok) ?_
          refine wp_iconst (z := 4) (v := 4) (by decide +kernel) (by decide) ?_
          refine wp_iald (j := 4) (by decide +kernel) (oks9_10 ok) (vin_c (by decide)) (by decide) ?_
          refine wp_imul (by decide +kernel) ?_
          refine wp_iadd (by decide +kernel) ?_
          refine wp_iload_n (z := 3) (i := 3) (x := x3) 2 (by decide +kernel) rfl rfl ?_
          obtain ⟨o15, H⟩ := H
          refine wp_iast (j := (cl (17 + (2 * (I (h + 3) 4))))) (by decide +kernel) (oks9_10 ok) o15 rfl ?_
          refine wp_memI (fun I11 eI11 => ?_)
          replace H := H I11 eI11
          refine wp_aload_n (z := 0) (i := 0) (r := (some h)) 0 (by decide +kernel) rfl rfl ?_
          refine wp_getS (idx := 17) (q := (h + 3)) (by decide +kernel) fl9_17 rfl ok.1 (okr9_10 ok) ?_
          refine wp_bipush (z := 18) (v := 18) (by decide +kernel) (by decide) ?_
          refine wp_iconst (z := 2) (v := 2) (by decide +kernel) (by decide) ?_
          refine wp_aload_n (z := 0) (i := 0) (r := (some h)) 0 (by decide +kernel) rfl rfl ?_
          refine wp_getS (idx := 17) (q := (h + 3)) (by decide +kernel) fl9_17 rfl ok.1 (okr9_10 ok) ?_
          refine wp_iconst (z := 4) (v := 4) (by decide +kernel) (by decide) ?_
          refine wp_iald (j := 4) (by decide +kernel) (oks9_10 ok) (vin_c (by decide)) (by decide) ?_
          refine wp_imul (by decide +kernel) ?_
          refine wp_iadd (by decide +kernel) ?_
          refine wp_iload_n (z := 2) (i := 2) (x := x2) 1 (by decide +kernel) rfl rfl ?_
          obtain ⟨o14, H⟩ := H
          refine wp_iast (j := (cl (18 + (2 * (I11 (h + 3) 4))))) (by decide +kernel) (oks9_10 ok) o14 rfl ?_
          refine wp_memI (fun I12 eI12 => ?_)
          replace H := H I12 eI12
          refine wp_aload_n (z := 0) (i := 0) (r := (some h)) 0 (by decide +kernel) rfl rfl ?_
          refine wp_getS (idx := 17) (q := (h + 3)) (by decide +kernel) fl9_17 rfl ok.1 (okr9_10 ok) ?_
          refine wp_iconst (z := 4) (v := 4) (by decide +kernel) (by decide) ?_
          refine wp_dup2 (by decide +kernel) rfl rfl ?_
          refine wp_iald (j := 4) (by decide +kernel) (oks9_10 ok) (vin_c (by decide)) (by decide) ?_
          refine wp_iconst (z := 1) (v := 1) (by decide +kernel) (by decide) ?_
          refine wp_iadd (by decide +kernel) ?_
          refine wp_iast (j := 4) (by decide +kernel) (oks9_10 ok) (vin_c (by decide)) (by decide) ?_
          refine wp_memI (fun I13 eI13 => ?_)
          replace H := H I13 eI13
          exact wp_vret (by decide +kernel) rfl (Nat.zero_le _) (Nat.zero_le _) ⟨_, _, rfl, rfl, H⟩
        · rw [if_neg c10] at H
          exact wp_vret (by decide +kernel) rfl (Nat.zero_le _) (Nat.zero_le _) ⟨_, _, rfl, rfl, H⟩
      · rw [if_pos c9] at H
        exact wp_sub [0, 1, 2] rfl H
set_option maxRecDepth 20000 in
theorem b9_taleTold_40 {X : XX} {G : GG} {I : Nat → Nat → Int32} {L : Nat → Nat → Int64} {h : Nat} {x2 : Int32} {x3 : Int32} {Q : (Nat → Nat → Int32) → (Nat → Nat → Int64) → Prop} (ok : OK9 G h) (H : if x3 = 6 then (wpV X B9_also 0 [(0, .ref h), (1, .int 3), (2, .int (I h 4))] [] G I L (fun I9 L10 => wpI X B9_numbered 0 [(0, .ref h), (1, .int 0), (2, .int 1)] [] G I9 L10 (fun r14 I12 L13 => if 6 ≤ x3 then (if 6 ≤ x3 then (wpV X B9_taleTold 21 [(0, .ref h), (2, .int (x2 ||| 0)), (3, .int 6)] [] G I12 L13 Q) else (wpV X B9_taleTold 21 [(0, .ref h), (2, .int (x2 ||| 0)), (3, .int (x3 + 1))] [] G I12 L13 Q)) else (∀ u17, u17 = (x2 ||| (r14 <<< (x3 &&& 31))) → if 6 ≤ x3 then (wpV X B9_taleTold 21 [(0, .ref h), (2, .int u17), (3, .int 6)] [] G I12 L13 Q) else (wpV X B9_taleTold 21 [(0, .ref h), (2, .int u17), (3, .int (x3 + 1))] [] G I12 L13 Q))))) else (wpI X B9_numbered 0 [(0, .ref h), (1, .int 0), (2, .int 1)] [] G I L (fun r4 I2 L3 => if 6 ≤ x3 then (if 6 ≤ x3 then (wpV X B9_taleTold 21 [(0, .ref h), (2, .int (x2 ||| 0)), (3, .int 6)] [] G I2 L3 Q) else (wpV X B9_taleTold 21 [(0, .ref h), (2, .int (x2 ||| 0)), (3, .int (x3 + 1))] [] G I2 L3 Q)) else (∀ u7, u7 = (x2 ||| (r4 <<< (x3 &&& 31))) → if 6 ≤ x3 then (wpV X B9_taleTold 21 [(0, .ref h), (2, .int u7), (3, .int 6)] [] G I2 L3 Q) else (wpV X B9_taleTold 21 [(0, .ref h), (2, .int u7), (3, .int (x3 + 1))] [] G I2 L3 Q))))) : wpV X B9_taleTold 40 [(0, .ref h), (2, .int x2), (3, .int x3)] [] G I L Q := by
  refine wp_iload_n (z := 3) (i := 3) (x := x3) 2 (by decide +kernel) rfl rfl ?_
  refine wp_bipush (z := 6) (v := 6) (by decide +kernel) (by decide) ?_
  refine wp_icmp_ne (off := 12) (tgt := 55) (by decide +kernel) (by decide) (fun c1 => ?_) (fun c1 => ?_)
  · rw [if_neg c1] at H
    refine wp_aload_n (z := 0) (i := 0) (r := (some h)) 0 (by decide +kernel) rfl rfl ?_
    refine wp_iconst (z := 0) (v := 0) (by decide +kernel) (by decide) ?_
    refine wp_iconst (z := 1) (v := 1) (by decide +kernel) (by decide) ?_
    refine wp_callV (idx := 132) (B2 := B9_numbered) (As := [.int 0, .int 1]) (a := h) (st := []) (by decide +kernel) m9_numbered ml9_132 k9_numbered e9_numbered ck9 ok.1 (⟨Nat.le_of_ble_eq_true rfl, Nat.le_of_ble_eq_true rfl⟩ : rOK B9_taleTold B9_numbered) rfl (Nat.le_of_ble_eq_true rfl) (Nat.le_of_ble_eq_true rfl) ⟨Nat.le_of_ble_eq_true rfl, Nat.le_of_ble_eq_true rfl⟩ rfl (wp_mono H (fun v9 M9 hq9 => ?_))
    clear H
    obtain ⟨r4, I2, L3, rfl, rfl, H⟩ := hq9
    show wp X B9_taleTold 61 [(0, .ref h), (2, .int x2), (3, .int x3)] [.int r4] (G, I2, L3) 0 0 _
    refine wp_istore (i := 4) (lv' := [(4, .int r4), (0, .ref h), (2, .int x2), (3, .int x3)]) (by decide +kernel) (by decide) rfl ?_
    refine wp_iload_n (z := 2) (i := 2) (x := x2) 2 (by decide +kernel) rfl rfl ?_
    refine wp_iload_n (z := 3) (i := 3) (x := x3) 3 (by decide +kernel) rfl rfl ?_
    refine wp_bipush (z := 6) (v := 6) (by decide +kernel) (by decide) ?_
    refine wp_icmp_ge (off := 10) (tgt := 77) (by decide +kernel) (by decide) (fun c5 => ?_) (fun c5 => ?_)
    · rw [if_pos c5] at H
      refine wp_iconst (z := 0) (v := 0) (by decide +kernel) (by decide) ?_
      refine wp_ior (by decide +kernel) ?_
      refine wp_istore_n (z := 2) (i := 2) (lv' := [(2, .int (x2 ||| 0)), (4, .int r4), (0, .ref h), (3, .int x3)]) (by decide +kernel) rfl (by decide) rfl ?_
      refine wp_iload_n (z := 3) (i := 3) (x := x3) 3 (by decide +kernel) rfl rfl ?_
      refine wp_bipush (z := 6) (v := 6) (by decide +kernel) (by decide) ?_
      refine wp_icmp_ge (off := 9) (tgt := 92) (by decide +kernel) (by decide) (fun c6 => ?_) (fun c6 => ?_)
      · rw [if_pos c6] at H
        refine wp_bipush (z := 6) (v := 6) (by decide +kernel) (by decide) ?_
        refine wp_istore_n (z := 3) (i := 3) (lv' := [(3, .int 6), (2, .int (x2 ||| 0)), (4, .int r4), (0, .ref h)]) (by decide +kernel) rfl (by decide) rfl ?_
        refine wp_goto (off := -74) (tgt := 21) (by decide +kernel) (by decide) ?_
        exact wp_sub [3, 1, 0] rfl H
      · rw [if_neg c6] at H
        refine wp_iload_n (z := 3) (i := 3) (x := x3) 3 (by decide +kernel) rfl rfl ?_
        refine wp_iconst (z := 1) (v := 1) (by decide +kernel) (by decide) ?_
        refine wp_iadd (by decide +kernel) ?_
        refine wp_goto (off := 5) (tgt := 94) (by decide +kernel) (by decide) ?_
        refine wp_istore_n (z := 3) (i := 3) (lv' := [(3, .int (x3 + 1)), (2, .int (x2 ||| 0)), (4, .int r4), (0, .ref h)]) (by decide +kernel) rfl (by decide) rfl ?_
        refine wp_goto (off := -74) (tgt := 21) (by decide +kernel) (by decide) ?_
        exact wp_sub [3, 1, 0] rfl H
    · rw [if_neg c5] at H
      refine wp_iload (i := 4) (x := r4) 0 (by decide +kernel) rfl ?_
      refine wp_iload_n (z := 3) (i := 3) (x := x3) 3 (by decide +kernel) rfl rfl ?_
      refine wp_ishl (by decide +kernel) ?_
      refine wp_goto (off := 4) (tgt := 78) (by decide +kernel) (by decide) ?_
      refine wp_ior (by decide +kernel) ?_
      refine wp_topi (fun u7 eu7 => ?_)
      replace H := H u7 eu7
      refine wp_istore_n (z := 2) (i := 2) (lv' := [(2, .int u7), (4, .int r4), (0, .ref h), (3, .int x3)]) (by decide +kernel) rfl (by decide) rfl ?_
      refine wp_iload_n (z := 3) (i := 3) (x := x3) 3 (by decide +kernel) rfl rfl ?_
      refine wp_bipush (z := 6) (v := 6) (by decide +kernel) (by decide) ?_
      refine wp_icmp_ge (off := 9) (tgt := 92) (by decide +kernel) (by decide) (fun c8 => ?_) (fun c8 => ?_)
      · rw [if_pos c8] at H
        refine wp_bipush (z := 6) (v := 6) (by decide +kernel) (by decide) ?_
        refine wp_istore_n (z := 3) (i := 3) (lv' := [(3, .int 6), (2, .int u7), (4, .int r4), (0, .ref h)]) (by decide +kernel) rfl (by decide) rfl ?_
        refine wp_goto (off := -74) (tgt := 21) (by decide +kernel) (by decide) ?_
        exact wp_sub [3, 1, 0] rfl H
      · rw [if_neg c8] at H
        refine wp_iload_n (z := 3) (i := 3) (x := x3) 3 (by decide +kernel) rfl rfl ?_
        refine wp_iconst (z := 1) (v := 1) (by decide +kernel) (by decide) ?_
        refine wp_iadd (by decide +kernel) ?_
        refine wp_goto (off := 5) (tgt := 94) (by decide +kernel) (by decide) ?_
        refine wp_istore_n (z := 3) (i := 3) (lv' := [(3, .int (x3 + 1)), (2, .int u7), (4, .int r4), (0, .ref h)]) (by decide +kernel) rfl (by decide) rfl ?_
        refine wp_goto (off := -74) (tgt := 21) (by decide +kernel) (by decide) ?_
        exact wp_sub [3, 1, 0] rfl H
  · rw [if_pos c1] at H
    refine wp_aload_n (z := 0) (i := 0) (r := (some h)) 0 (by decide +kernel) rfl rfl ?_
    refine wp_iconst (z := 3) (v := 3) (by decide +kernel) (by decide) ?_
    refine wp_aload_n (z := 0) (i := 0) (r := (some h)) 0 (by decide +kernel) rfl rfl ?_
    refine wp_getI (idx := 87) (by decide +kernel) fl9_87 rfl ok.1 ?_
    refine wp_callV (idx := 125) (B2 := B9_also) (As := [.int 3, .int (I h 4)]) (a := h) (st := []) (by decide +kernel) m9_also ml9_125 k9_also e9_also ck9 ok.1 (⟨Nat.le_of_ble_eq_true rfl, Nat.le_of_ble_eq_true rfl⟩ : rOK B9_taleTold B9_also) rfl (Nat.le_of_ble_eq_true rfl) (Nat.le_of_ble_eq_true rfl) ⟨Nat.le_of_ble_eq_true rfl, Nat.le_of_ble_eq_true rfl⟩ rfl (wp_mono H (fun v9 M9 hq9 => ?_))
    clear H
    obtain ⟨I9, L10, rfl, rfl, H⟩ := hq9
    show wp X B9_taleTold 55 [(0, .ref h), (2, .int x2), (3, .int x3)] [] (G, I9, L10) 0 0 _
    refine wp_aload_n (z := 0) (i := 0) (r := (some h)) 0 (by decide +kernel) rfl rfl ?_
    refine wp_iconst (z := 0) (v := 0) (by decide +kernel) (by decide) ?_
    refine wp_iconst (z := 1) (v := 1) (by decide +kernel) (by decide) ?_
    refine wp_callV (idx := 132) (B2 := B9_numbered) (As := [.int 0, .int 1]) (a := h) (st := []) (by decide +kernel) m9_numbered ml9_132 k9_numbered e9_numbered ck9 ok.1 (⟨Nat.le_of_ble_eq_true rfl, Nat.le_of_ble_eq_true rfl⟩ : rOK B9_taleTold B9_numbered) rfl (Nat.le_of_ble_eq_true rfl) (Nat.le_of_ble_eq_true rfl) ⟨Nat.le_of_ble_eq_true rfl, Nat.le_of_ble_eq_true rfl⟩ rfl (wp_mono H (fun v9 M9 hq9 => ?_))
    clear H
    obtain ⟨r14, I12, L13, rfl, rfl, H⟩ := hq9
    show wp X B9_taleTold 61 [(0, .ref h), (2, .int x2), (3, .int x3)] [.int r14] (G, I12, L13) 0 0 _
    refine wp_istore (i := 4) (lv' := [(4, .int r14), (0, .ref h), (2, .int x2), (3, .int x3)]) (by decide +kernel) (by decide) rfl ?_
    refine wp_iload_n (z := 2) (i := 2) (x := x2) 2 (by decide +kernel) rfl rfl ?_
    refine wp_iload_n (z := 3) (i := 3) (x := x3) 3 (by decide +kernel) rfl rfl ?_
    refine wp_bipush (z := 6) (v := 6) (by decide +kernel) (by decide) ?_
    refine wp_icmp_ge (off := 10) (tgt := 77) (by decide +kernel) (by decide) (fun c15 => ?_) (fun c15 => ?_)
    · rw [if_pos c15] at H
      refine wp_iconst (z := 0) (v := 0) (by decide +kernel) (by decide) ?_
      refine wp_ior (by decide +kernel) ?_
      refine wp_istore_n (z := 2) (i := 2) (lv' := [(2, .int (x2 ||| 0)), (4, .int r14), (0, .ref h), (3, .int x3)]) (by decide +kernel) rfl (by decide) rfl ?_
      refine wp_iload_n (z := 3) (i := 3) (x := x3) 3 (by decide +kernel) rfl rfl ?_
      refine wp_bipush (z := 6) (v := 6) (by decide +kernel) (by decide) ?_
      refine wp_icmp_ge (off := 9) (tgt := 92) (by decide +kernel) (by decide) (fun c16 => ?_) (fun c16 => ?_)
      · rw [if_pos c16] at H
        refine wp_bipush (z := 6) (v := 6) (by decide +kernel) (by decide) ?_
        refine wp_istore_n (z := 3) (i := 3) (lv' := [(3, .int 6), (2, .int (x2 ||| 0)), (4, .int r14), (0, .ref h)]) (by decide +kernel) rfl (by decide) rfl ?_
        refine wp_goto (off := -74) (tgt := 21) (by decide +kernel) (by decide) ?_
        exact wp_sub [3, 1, 0] rfl H
      · rw [if_neg c16] at H
        refine wp_iload_n (z := 3) (i := 3) (x := x3) 3 (by decide +kernel) rfl rfl ?_
        refine wp_iconst (z := 1) (v := 1) (by decide +kernel) (by decide) ?_
        refine wp_iadd (by decide +kernel) ?_
        refine wp_goto (off := 5) (tgt := 94) (by decide +kernel) (by decide) ?_
        refine wp_istore_n (z := 3) (i := 3) (lv' := [(3, .int (x3 + 1)), (2, .int (x2 ||| 0)), (4, .int r14), (0, .ref h)]) (by decide +kernel) rfl (by decide) rfl ?_
        refine wp_goto (off := -74) (tgt := 21) (by decide +kernel) (by decide) ?_
        exact wp_sub [3, 1, 0] rfl H
    · rw [if_neg c15] at H
      refine wp_iload (i := 4) (x := r14) 0 (by decide +kernel) rfl ?_
      refine wp_iload_n (z := 3) (i := 3) (x := x3) 3 (by decide +kernel) rfl rfl ?_
      refine wp_ishl (by decide +kernel) ?_
      refine wp_goto (off := 4) (tgt := 78) (by decide +kernel) (by decide) ?_
      refine wp_ior (by decide +kernel) ?_
      refine wp_topi (fun u17 eu17 => ?_)
      replace H := H u17 eu17
      refine wp_istore_n (z := 2) (i := 2) (lv' := [(2, .int u17), (4, .int r14), (0, .ref h), (3, .int x3)]) (by decide +kernel) rfl (by decide) rfl ?_
      refine wp_iload_n (z := 3) (i := 3) (x := x3) 3 (by decide +kernel) rfl rfl ?_
      refine wp_bipush (z := 6) (v := 6) (by decide +kernel) (by decide) ?_
      refine wp_icmp_ge (off := 9) (tgt := 92) (by decide +kernel) (by decide) (fun c18 => ?_) (fun c18 => ?_)
      · rw [if_pos c18] at H
        refine wp_bipush (z := 6) (v := 6) (by decide +kernel) (by decide) ?_
        refine wp_istore_n (z := 3) (i := 3) (lv' := [(3, .int 6), (2, .int u17), (4, .int r14), (0, .ref h)]) (by decide +kernel) rfl (by decide) rfl ?_
        refine wp_goto (off := -74) (tgt := 21) (by decide +kernel) (by decide) ?_
        exact wp_sub [3, 1, 0] rfl H
      · rw [if_neg c18] at H
        refine wp_iload_n (z := 3) (i := 3) (x := x3) 3 (by decide +kernel) rfl rfl ?_
        refine wp_iconst (z := 1) (v := 1) (by decide +kernel) (by decide) ?_
        refine wp_iadd (by decide +kernel) ?_
        refine wp_goto (off := 5) (tgt := 94) (by decide +kernel) (by decide) ?_
        refine wp_istore_n (z := 3) (i := 3) (lv' := [(3, .int (x3 + 1)), (2, .int u17), (4, .int r14), (0, .ref h)]) (by decide +kernel) rfl (by decide) rfl ?_
        refine wp_goto (off := -74) (tgt := 21) (by decide +kernel) (by decide) ?_
        exact wp_sub [3, 1, 0] rfl H
/-! DeafWallModel.wallLine()V -/
set_option maxRecDepth 20000 in
theorem b9_wallLine {X : XX} {G : GG} {I : Nat → Nat → Int32} {L : Nat → Nat → Int64} {h : Nat} {Q : (Nat → Nat → Int32) → (Nat → Nat → Int64) → Prop} (ok : OK9 G h) (H : wpI X B9_wordIn 0 [(0, .ref h), (1, .int 1), (2, .int 5)] [] G I L (fun r3 I1 L2 => if (I1 h 8) = (0 : Int32) then (wpV X B9_wallLine 24 [(0, .ref h), (1, .int (I h 4))] [.int r3] G I1 L2 Q) else (wpV X B9_wallLine 24 [(0, .ref h), (1, .int (I h 4))] [.int 0] G I1 L2 Q))) : wpV X B9_wallLine 0 [(0, .ref h)] [] G I L Q := by
  refine wp_aload_n (z := 0) (i := 0) (r := (some h)) 0 (by decide +kernel) rfl rfl ?_
  refine wp_getI (idx := 87) (by decide +kernel) fl9_87 rfl ok.1 ?_
  refine wp_istore_n (z := 1) (i := 1) (lv' := [(1, .int (I h 4)), (0, .ref h)]) (by decide +kernel) rfl (by decide) rfl ?_
  refine wp_aload_n (z := 0) (i := 0) (r := (some h)) 1 (by decide +kernel) rfl rfl ?_
  refine wp_iconst (z := 1) (v := 1) (by decide +kernel) (by decide) ?_
  refine wp_iconst (z := 5) (v := 5) (by decide +kernel) (by decide) ?_
  refine wp_callV (idx := 143) (B2 := B9_wordIn) (As := [.int 1, .int 5]) (a := h) (st := []) (by decide +kernel) m9_wordIn ml9_143 k9_wordIn e9_wordIn ck9 ok.1 (⟨Nat.le_of_ble_eq_true rfl, Nat.le_of_ble_eq_true rfl⟩ : rOK B9_wallLine B9_wordIn) rfl (Nat.le_of_ble_eq_true rfl) (Nat.le_of_ble_eq_true rfl) ⟨Nat.le_of_ble_eq_true rfl, Nat.le_of_ble_eq_true rfl⟩ rfl (wp_mono H (fun v9 M9 hq9 => ?_))
  clear H
  obtain ⟨r3, I1, L2, rfl, rfl, H⟩ := hq9
  show wp X B9_wallLine 11 [(1, .int (I h 4)), (0, .ref h)] [.int r3] (G, I1, L2) 0 0 _
  refine wp_istore_n (z := 2) (i := 2) (lv' := [(2, .int r3), (1, .int (I h 4)), (0, .ref h)]) (by decide +kernel) rfl (by decide) rfl ?_
  refine wp_aload_n (z := 0) (i := 0) (r := (some h)) 2 (by decide +kernel) rfl rfl ?_
  refine wp_getI (idx := 114) (by decide +kernel) fl9_114 rfl ok.1 ?_
  refine wp_if_eq (off := 7) (tgt := 23) (by decide +kernel) (by decide) (fun c4 => ?_) (fun c4 => ?_)
  · rw [if_pos c4] at H
    refine wp_iload_n (z := 2) (i := 2) (x := r3) 0 (by decide +kernel) rfl rfl ?_
    exact wp_sub [2, 1] rfl H
  · rw [if_neg c4] at H
    refine wp_iconst (z := 0) (v := 0) (by decide +kernel) (by decide) ?_
    refine wp_goto (off := 4) (tgt := 24) (by decide +kernel) (by decide) ?_
    exact wp_sub [2, 1] rfl H
set_option maxRecDepth 20000 in
theorem b9_wallLine_24 {X : XX} {G : GG} {I : Nat → Nat → Int32} {L : Nat → Nat → Int64} {h : Nat} {x1 : Int32} {z0 : Int32} {Q : (Nat → Nat → Int32) → (Nat → Nat → Int64) → Prop} (ok : OK9 G h) (H : if z0 = 1 then (wpI X B9_numbered 0 [(0, .ref h), (1, .int 1), (2, .int 8)] [] G I L (fun r4 I2 L3 => ∀ I5, I5 = up2 I2 (h + 3) 0 r4 → wpI X B9_numbered 0 [(0, .ref h), (1, .int 1), (2, .int 4)] [] G I5 L3 (fun r8 I6 L7 => ∀ I9, I9 = up2 I6 (h + 3) 1 r8 → wpV X B9_endsLine 0 [(0, .ref h)] [] G I9 L7 (fun I10 L11 => Q I10 L11)))) else (if z0 = 2 then (wpI X B9_cellTold 0 [(0, .ref h)] [] G I L (fun r16 I14 L15 => wpI X B9_numbered 0 [(0, .ref h), (1, .int 1), (2, .int 9)] [] G I14 L15 (fun r19 I17 L18 => vp_in (29 + r16) 121 ∧ (∀ I20, I20 = up2 I17 (h + 3) (cl (29 + r16)) r19 → wpV X B9_endsLine 0 [(0, .ref h)] [] G I20 L18 (fun I21 L22 => Q I21 L22))))) else (if z0 = 3 then (wpI X B9_cellTold 0 [(0, .ref h)] [] G I L (fun r28 I26 L27 => ∀ I29, I29 = up2 I26 (h + 3) 2 r28 → wpV X B9_endsLine 0 [(0, .ref h)] [] G I29 L27 (fun I30 L31 => Q I30 L31))) else (if z0 = 4 then (wpV X B9_feelerTold 0 [(0, .ref h), (1, .int x1)] [] G I L (fun I34 L35 => wpV X B9_endsLine 0 [(0, .ref h)] [] G I34 L35 (fun I37 L38 => Q I37 L38))) else (if z0 = 5 then (wpV X B9_taleTold 0 [(0, .ref h), (1, .int x1)] [] G I L (fun I41 L42 => wpV X B9_endsLine 0 [(0, .ref h)] [] G I41 L42 (fun I44 L45 => Q I44 L45))) else (wpV X B9_endsLine 0 [(0, .ref h)] [] G I L (fun I47 L48 => Q I47 L48))))))) : wpV X B9_wallLine 24 [(0, .ref h), (1, .int x1)] [.int z0] G I L Q := by
  by_cases c1 : z0 = 1
  · rw [if_pos c1] at H
    refine wp_tableIn (dflt := 117) (lo := 1) (hi := 5) (offs := #[36, 64, 88, 101, 109]) (len := 36) (off := 36) (tgt := 60) (by decide +kernel) (by rw [c1]; decide) (by rw [c1]; decide) (by rw [c1]; rfl) (by decide) ?_
    refine wp_aload_n (z := 0) (i := 0) (r := (some h)) 0 (by decide +kernel) rfl rfl ?_
    refine wp_getS (idx := 17) (q := (h + 3)) (by decide +kernel) fl9_17 rfl ok.1 (okr9_10 ok) ?_
    refine wp_iconst (z := 0) (v := 0) (by decide +kernel) (by decide) ?_
    refine wp_aload_n (z := 0) (i := 0) (r := (some h)) 0 (by decide +kernel) rfl rfl ?_
    refine wp_iconst (z := 1) (v := 1) (by decide +kernel) (by decide) ?_
    refine wp_bipush (z := 8) (v := 8) (by decide +kernel) (by decide) ?_
    refine wp_callV (idx := 132) (B2 := B9_numbered) (As := [.int 1, .int 8]) (a := h) (st := [.int 0, .ref (h + 3)]) (by decide +kernel) m9_numbered ml9_132 k9_numbered e9_numbered ck9 ok.1 (⟨Nat.le_of_ble_eq_true rfl, Nat.le_of_ble_eq_true rfl⟩ : rOK B9_wallLine B9_numbered) rfl (Nat.le_of_ble_eq_true rfl) (Nat.le_of_ble_eq_true rfl) ⟨Nat.le_of_ble_eq_true rfl, Nat.le_of_ble_eq_true rfl⟩ rfl (wp_mono H (fun v9 M9 hq9 => ?_))
    clear H
    obtain ⟨r4, I2, L3, rfl, rfl, H⟩ := hq9
    show wp X B9_wallLine 72 [(0, .ref h), (1, .int x1)] [.int r4, .int 0, .ref (h + 3)] (G, I2, L3) 0 0 _
    refine wp_iast (j := 0) (by decide +kernel) (oks9_10 ok) (vin_c (by decide)) (by decide) ?_
    refine wp_memI (fun I5 eI5 => ?_)
    replace H := H I5 eI5
    refine wp_aload_n (z := 0) (i := 0) (r := (some h)) 0 (by decide +kernel) rfl rfl ?_
    refine wp_getS (idx := 17) (q := (h + 3)) (by decide +kernel) fl9_17 rfl ok.1 (okr9_10 ok) ?_
    refine wp_iconst (z := 1) (v := 1) (by decide +kernel) (by decide) ?_
    refine wp_aload_n (z := 0) (i := 0) (r := (some h)) 0 (by decide +kernel) rfl rfl ?_
    refine wp_iconst (z := 1) (v := 1) (by decide +kernel) (by decide) ?_
    refine wp_iconst (z := 4) (v := 4) (by decide +kernel) (by decide) ?_
    refine wp_callV (idx := 132) (B2 := B9_numbered) (As := [.int 1, .int 4]) (a := h) (st := [.int 1, .ref (h + 3)]) (by decide +kernel) m9_numbered ml9_132 k9_numbered e9_numbered ck9 ok.1 (⟨Nat.le_of_ble_eq_true rfl, Nat.le_of_ble_eq_true rfl⟩ : rOK B9_wallLine B9_numbered) rfl (Nat.le_of_ble_eq_true rfl) (Nat.le_of_ble_eq_true rfl) ⟨Nat.le_of_ble_eq_true rfl, Nat.le_of_ble_eq_true rfl⟩ rfl (wp_mono H (fun v9 M9 hq9 => ?_))
    clear H
    obtain ⟨r8, I6, L7, rfl, rfl, H⟩ := hq9
    show wp X B9_wallLine 84 [(0, .ref h), (1, .int x1)] [.int r8, .int 1, .ref (h + 3)] (G, I6, L7) 0 0 _
    refine wp_iast (j := 1) (by decide +kernel) (oks9_10 ok) (vin_c (by decide)) (by decide) ?_
    refine wp_memI (fun I9 eI9 => ?_)
    replace H := H I9 eI9
    refine wp_goto (off := 56) (tgt := 141) (by decide +kernel) (by decide) ?_
    refine wp_aload_n (z := 0) (i := 0) (r := (some h)) 0 (by decide +kernel) rfl rfl ?_
    refine wp_callV (idx := 153) (B2 := B9_endsLine) (As := []) (a := h) (st := []) (by decide +kernel) m9_endsLine ml9_153 k9_endsLine e9_endsLine ck9 ok.1 (⟨Nat.le_of_ble_eq_true rfl, Nat.le_of_ble_eq_true rfl⟩ : rOK B9_wallLine B9_endsLine) rfl (Nat.le_of_ble_eq_true rfl) (Nat.le_of_ble_eq_true rfl) ⟨Nat.le_of_ble_eq_true rfl, Nat.le_of_ble_eq_true rfl⟩ rfl (wp_mono H (fun v9 M9 hq9 => ?_))
    clear H
    obtain ⟨I10, L11, rfl, rfl, H⟩ := hq9
    show wp X B9_wallLine 145 [(0, .ref h), (1, .int x1)] [] (G, I10, L11) 0 0 _
    exact wp_vret (by decide +kernel) rfl (Nat.zero_le _) (Nat.zero_le _) ⟨_, _, rfl, rfl, H⟩
  rw [if_neg c1] at H
  by_cases c13 : z0 = 2
  · rw [if_pos c13] at H
    refine wp_tableIn (dflt := 117) (lo := 1) (hi := 5) (offs := #[36, 64, 88, 101, 109]) (len := 36) (off := 64) (tgt := 88) (by decide +kernel) (by rw [c13]; decide) (by rw [c13]; decide) (by rw [c13]; rfl) (by decide) ?_
    refine wp_aload_n (z := 0) (i := 0) (r := (some h)) 0 (by decide +kernel) rfl rfl ?_
    refine wp_callV (idx := 139) (B2 := B9_cellTold) (As := []) (a := h) (st := []) (by decide +kernel) m9_cellTold ml9_139 k9_cellTold e9_cellTold ck9 ok.1 (⟨Nat.le_of_ble_eq_true rfl, Nat.le_of_ble_eq_true rfl⟩ : rOK B9_wallLine B9_cellTold) rfl (Nat.le_of_ble_eq_true rfl) (Nat.le_of_ble_eq_true rfl) ⟨Nat.le_of_ble_eq_true rfl, Nat.le_of_ble_eq_true rfl⟩ rfl (wp_mono H (fun v9 M9 hq9 => ?_))
    clear H
    obtain ⟨r16, I14, L15, rfl, rfl, H⟩ := hq9
    show wp X B9_wallLine 92 [(0, .ref h), (1, .int x1)] [.int r16] (G, I14, L15) 0 0 _
    refine wp_istore_n (z := 3) (i := 3) (lv' := [(3, .int r16), (0, .ref h), (1, .int x1)]) (by decide +kernel) rfl (by decide) rfl ?_
    refine wp_aload_n (z := 0) (i := 0) (r := (some h)) 1 (by decide +kernel) rfl rfl ?_
    refine wp_getS (idx := 17) (q := (h + 3)) (by decide +kernel) fl9_17 rfl ok.1 (okr9_10 ok) ?_
    refine wp_bipush (z := 29) (v := 29) (by decide +kernel) (by decide) ?_
    refine wp_iload_n (z := 3) (i := 3) (x := r16) 0 (by decide +kernel) rfl rfl ?_
    refine wp_iadd (by decide +kernel) ?_
    refine wp_aload_n (z := 0) (i := 0) (r := (some h)) 1 (by decide +kernel) rfl rfl ?_
    refine wp_iconst (z := 1) (v := 1) (by decide +kernel) (by decide) ?_
    refine wp_bipush (z := 9) (v := 9) (by decide +kernel) (by decide) ?_
    refine wp_callV (idx := 132) (B2 := B9_numbered) (As := [.int 1, .int 9]) (a := h) (st := [.int (29 + r16), .ref (h + 3)]) (by decide +kernel) m9_numbered ml9_132 k9_numbered e9_numbered ck9 ok.1 (⟨Nat.le_of_ble_eq_true rfl, Nat.le_of_ble_eq_true rfl⟩ : rOK B9_wallLine B9_numbered) rfl (Nat.le_of_ble_eq_true rfl) (Nat.le_of_ble_eq_true rfl) ⟨Nat.le_of_ble_eq_true rfl, Nat.le_of_ble_eq_true rfl⟩ rfl (wp_mono H (fun v9 M9 hq9 => ?_))
    clear H
    obtain ⟨r19, I17, L18, rfl, rfl, H⟩ := hq9
    show wp X B9_wallLine 108 [(3, .int r16), (0, .ref h), (1, .int x1)] [.int r19, .int (29 + r16), .ref (h + 3)] (G, I17, L18) 0 0 _
    obtain ⟨o24, H⟩ := H
    refine wp_iast (j := (cl (29 + r16))) (by decide +kernel) (oks9_10 ok) o24 rfl ?_
    refine wp_memI (fun I20 eI20 => ?_)
    replace H := H I20 eI20
    refine wp_goto (off := 32) (tgt := 141) (by decide +kernel) (by decide) ?_
    refine wp_aload_n (z := 0) (i := 0) (r := (some h)) 1 (by decide +kernel) rfl rfl ?_
    refine wp_callV (idx := 153) (B2 := B9_endsLine) (As := []) (a := h) (st := []) (by decide +kernel) m9_endsLine ml9_153 k9_endsLine e9_endsLine ck9 ok.1 (⟨Nat.le_of_ble_eq_true rfl, Nat.le_of_ble_eq_true rfl⟩ : rOK B9_wallLine B9_endsLine) rfl (Nat.le_of_ble_eq_true rfl) (Nat.le_of_ble_eq_true rfl) ⟨Nat.le_of_ble_eq_true rfl, Nat.le_of_ble_eq_true rfl⟩ rfl (wp_mono H (fun v9 M9 hq9 => ?_))
    clear H
    obtain ⟨I21, L22, rfl, rfl, H⟩ := hq9
    show wp X B9_wallLine 145 [(3, .int r16), (0, .ref h), (1, .int x1)] [] (G, I21, L22) 0 0 _
    exact wp_vret (by decide +kernel) rfl (Nat.zero_le _) (Nat.zero_le _) ⟨_, _, rfl, rfl, H⟩
  rw [if_neg c13] at H
  by_cases c25 : z0 = 3
  · rw [if_pos c25] at H
    refine wp_tableIn (dflt := 117) (lo := 1) (hi := 5) (offs := #[36, 64, 88, 101, 109]) (len := 36) (off := 88) (tgt := 112) (by decide +kernel) (by rw [c25]; decide) (by rw [c25]; decide) (by rw [c25]; rfl) (by decide) ?_
    refine wp_aload_n (z := 0) (i := 0) (r := (some h)) 0 (by decide +kernel) rfl rfl ?_
    refine wp_getS (idx := 17) (q := (h + 3)) (by decide +kernel) fl9_17 rfl ok.1 (okr9_10 ok) ?_
    refine wp_iconst (z := 2) (v := 2) (by decide +kernel) (by decide) ?_
    refine wp_aload_n (z := 0) (i := 0) (r := (some h)) 0 (by decide +kernel) rfl rfl ?_
    refine wp_callV (idx := 139) (B2 := B9_cellTold) (As := []) (a := h) (st := [.int 2, .ref (h + 3)]) (by decide +kernel) m9_cellTold ml9_139 k9_cellTold e9_cellTold ck9 ok.1 (⟨Nat.le_of_ble_eq_true rfl, Nat.le_of_ble_eq_true rfl⟩ : rOK B9_wallLine B9_cellTold) rfl (Nat.le_of_ble_eq_true rfl) (Nat.le_of_ble_eq_true rfl) ⟨Nat.le_of_ble_eq_true rfl, Nat.le_of_ble_eq_true rfl⟩ rfl (wp_mono H (fun v9 M9 hq9 => ?_))
    clear H
    obtain ⟨r28, I26, L27, rfl, rfl, H⟩ := hq9
    show wp X B9_wallLine 121 [(0, .ref h), (1, .int x1)] [.int r28, .int 2, .ref (h + 3)] (G, I26, L27) 0 0 _
    refine wp_iast (j := 2) (by decide +kernel) (oks9_10 ok) (vin_c (by decide)) (by decide) ?_
    refine wp_memI (fun I29 eI29 => ?_)
    replace H := H I29 eI29
    refine wp_goto (off := 19) (tgt := 141) (by decide +kernel) (by decide) ?_
    refine wp_aload_n (z := 0) (i := 0) (r := (some h)) 0 (by decide +kernel) rfl rfl ?_
    refine wp_callV (idx := 153) (B2 := B9_endsLine) (As := []) (a := h) (st := []) (by decide +kernel) m9_endsLine ml9_153 k9_endsLine e9_endsLine ck9 ok.1 (⟨Nat.le_of_ble_eq_true rfl, Nat.le_of_ble_eq_true rfl⟩ : rOK B9_wallLine B9_endsLine) rfl (Nat.le_of_ble_eq_true rfl) (Nat.le_of_ble_eq_true rfl) ⟨Nat.le_of_ble_eq_true rfl, Nat.le_of_ble_eq_true rfl⟩ rfl (wp_mono H (fun v9 M9 hq9 => ?_))
    clear H
    obtain ⟨I30, L31, rfl, rfl, H⟩ := hq9
    show wp X B9_wallLine 145 [(0, .ref h), (1, .int x1)] [] (G, I30, L31) 0 0 _
    exact wp_vret (by decide +kernel) rfl (Nat.zero_le _) (Nat.zero_le _) ⟨_, _, rfl, rfl, H⟩
  rw [if_neg c25] at H
  by_cases c33 : z0 = 4
  · rw [if_pos c33] at H
    refine wp_tableIn (dflt := 117) (lo := 1) (hi := 5) (offs := #[36, 64, 88, 101, 109]) (len := 36) (off := 101) (tgt := 125) (by decide +kernel) (by rw [c33]; decide) (by rw [c33]; decide) (by rw [c33]; rfl) (by decide) ?_
    refine wp_aload_n (z := 0) (i := 0) (r := (some h)) 0 (by decide +kernel) rfl rfl ?_
    refine wp_iload_n (z := 1) (i := 1) (x := x1) 1 (by decide +kernel) rfl rfl ?_
    refine wp_callV (idx := 146) (B2 := B9_feelerTold) (As := [.int x1]) (a := h) (st := []) (by decide +kernel) m9_feelerTold ml9_146 k9_feelerTold e9_feelerTold ck9 ok.1 (⟨Nat.le_of_ble_eq_true rfl, Nat.le_of_ble_eq_true rfl⟩ : rOK B9_wallLine B9_feelerTold) rfl (Nat.le_of_ble_eq_true rfl) (Nat.le_of_ble_eq_true rfl) ⟨Nat.le_of_ble_eq_true rfl, Nat.le_of_ble_eq_true rfl⟩ rfl (wp_mono H (fun v9 M9 hq9 => ?_))
    clear H
    obtain ⟨I34, L35, rfl, rfl, H⟩ := hq9
    show wp X B9_wallLine 130 [(0, .ref h), (1, .int x1)] [] (G, I34, L35) 0 0 _
    refine wp_goto (off := 11) (tgt := 141) (by decide +kernel) (by decide) ?_
    refine wp_aload_n (z := 0) (i := 0) (r := (some h)) 0 (by decide +kernel) rfl rfl ?_
    refine wp_callV (idx := 153) (B2 := B9_endsLine) (As := []) (a := h) (st := []) (by decide +kernel) m9_endsLine ml9_153 k9_endsLine e9_endsLine ck9 ok.1 (⟨Nat.le_of_ble_eq_true rfl, Nat.le_of_ble_eq_true rfl⟩ : rOK B9_wallLine B9_endsLine) rfl (Nat.le_of_ble_eq_true rfl) (Nat.le_of_ble_eq_true rfl) ⟨Nat.le_of_ble_eq_true rfl, Nat.le_of_ble_eq_true rfl⟩ rfl (wp_mono H (fun v9 M9 hq9 => ?_))
    clear H
    obtain ⟨I37, L38, rfl, rfl, H⟩ := hq9
    show wp X B9_wallLine 145 [(0, .ref h), (1, .int x1)] [] (G, I37, L38) 0 0 _
    exact wp_vret (by decide +kernel) rfl (Nat.zero_le _) (Nat.zero_le _) ⟨_, _, rfl, rfl, H⟩
  rw [if_neg c33] at H
  by_cases c40 : z0 = 5
  · rw [if_pos c40] at H
    refine wp_tableIn (dflt := 117) (lo := 1) (hi := 5) (offs := #[36, 64, 88, 101, 109]) (len := 36) (off := 109) (tgt := 133) (by decide +kernel) (by rw [c40]; decide) (by rw [c40]; decide) (by rw [c40]; rfl) (by decide) ?_
    refine wp_aload_n (z := 0) (i := 0) (r := (some h)) 0 (by decide +kernel) rfl rfl ?_
    refine wp_iload_n (z := 1) (i := 1) (x := x1) 1 (by decide +kernel) rfl rfl ?_
    refine wp_callV (idx := 150) (B2 := B9_taleTold) (As := [.int x1]) (a := h) (st := []) (by decide +kernel) m9_taleTold ml9_150 k9_taleTold e9_taleTold ck9 ok.1 (⟨Nat.le_of_ble_eq_true rfl, Nat.le_of_ble_eq_true rfl⟩ : rOK B9_wallLine B9_taleTold) rfl (Nat.le_of_ble_eq_true rfl) (Nat.le_of_ble_eq_true rfl) ⟨Nat.le_of_ble_eq_true rfl, Nat.le_of_ble_eq_true rfl⟩ rfl (wp_mono H (fun v9 M9 hq9 => ?_))
    clear H
    obtain ⟨I41, L42, rfl, rfl, H⟩ := hq9
    show wp X B9_wallLine 138 [(0, .ref h), (1, .int x1)] [] (G, I41, L42) 0 0 _
    refine wp_goto (off := 3) (tgt := 141) (by decide +kernel) (by decide) ?_
    refine wp_aload_n (z := 0) (i := 0) (r := (some h)) 0 (by decide +kernel) rfl rfl ?_
    refine wp_callV (idx := 153) (B2 := B9_endsLine) (As := []) (a := h) (st := []) (by decide +kernel) m9_endsLine ml9_153 k9_endsLine e9_endsLine ck9 ok.1 (⟨Nat.le_of_ble_eq_true rfl, Nat.le_of_ble_eq_true rfl⟩ : rOK B9_wallLine B9_endsLine) rfl (Nat.le_of_ble_eq_true rfl) (Nat.le_of_ble_eq_true rfl) ⟨Nat.le_of_ble_eq_true rfl, Nat.le_of_ble_eq_true rfl⟩ rfl (wp_mono H (fun v9 M9 hq9 => ?_))
    clear H
    obtain ⟨I44, L45, rfl, rfl, H⟩ := hq9
    show wp X B9_wallLine 145 [(0, .ref h), (1, .int x1)] [] (G, I44, L45) 0 0 _
    exact wp_vret (by decide +kernel) rfl (Nat.zero_le _) (Nat.zero_le _) ⟨_, _, rfl, rfl, H⟩
  rw [if_neg c40] at H
  have qc1 := sw_ne c1 (z := 1) (by decide)
  have qc13 := sw_ne c13 (z := 2) (by decide)
  have qc25 := sw_ne c25 (z := 3) (by decide)
  have qc33 := sw_ne c33 (z := 4) (by decide)
  have qc40 := sw_ne c40 (z := 5) (by decide)
  refine wp_tableOut (dflt := 117) (lo := 1) (hi := 5) (offs := #[36, 64, 88, 101, 109]) (len := 36) (tgt := 141) (by decide +kernel) (by omega) (by decide) ?_
  refine wp_aload_n (z := 0) (i := 0) (r := (some h)) 0 (by decide +kernel) rfl rfl ?_
  refine wp_callV (idx := 153) (B2 := B9_endsLine) (As := []) (a := h) (st := []) (by decide +kernel) m9_endsLine ml9_153 k9_endsLine e9_endsLine ck9 ok.1 (⟨Nat.le_of_ble_eq_true rfl, Nat.le_of_ble_eq_true rfl⟩ : rOK B9_wallLine B9_endsLine) rfl (Nat.le_of_ble_eq_true rfl) (Nat.le_of_ble_eq_true rfl) ⟨Nat.le_of_ble_eq_true rfl, Nat.le_of_ble_eq_true rfl⟩ rfl (wp_mono H (fun v9 M9 hq9 => ?_))
  clear H
  obtain ⟨I47, L48, rfl, rfl, H⟩ := hq9
  show wp X B9_wallLine 145 [(0, .ref h), (1, .int x1)] [] (G, I47, L48) 0 0 _
  exact wp_vret (by decide +kernel) rfl (Nat.zero_le _) (Nat.zero_le _) ⟨_, _, rfl, rfl, H⟩
