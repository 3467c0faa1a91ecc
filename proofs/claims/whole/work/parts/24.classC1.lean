/-! DeafWall$Reader.countLine(I)V -/
set_option maxRecDepth 20000 in
theorem b4_countLine {X : XX} {G : GG} {I : Nat → Nat → Int32} {L : Nat → Nat → Int64} {h : Nat} {x1 : Int32} {Q : (Nat → Nat → Int32) → (Nat → Nat → Int64) → Prop} (ok : OK4 G h) (H : if x1 = 3 then (∀ I6, I6 = up2 I h 11 ((I h 11) + 1) → wpV X B4_countLine 51 [(0, .ref h)] [] G I6 L Q) else (if x1 = 4 then (∀ I5, I5 = up2 I h 12 ((I h 12) + 1) → wpV X B4_countLine 51 [(0, .ref h)] [] G I5 L Q) else (if x1 ≤ 4 then (wpV X B4_countLine 51 [(0, .ref h)] [] G I L Q) else (∀ I4, I4 = up2 I h 13 ((I h 13) + 1) → wpV X B4_countLine 51 [(0, .ref h)] [] G I4 L Q)))) : wpV X B4_countLine 0 [(0, .ref h), (1, .int x1)] [] G I L Q := by
  refine wp_iload_n (z := 1) (i := 1) (x := x1) 1 (by decide +kernel) rfl rfl ?_
  refine wp_iconst (z := 3) (v := 3) (by decide +kernel) (by decide) ?_
  refine wp_icmp_ne (off := 16) (tgt := 18) (by decide +kernel) (by decide) (fun c1 => ?_) (fun c1 => ?_)
  · rw [if_neg c1] at H
    refine wp_iload_n (z := 1) (i := 1) (x := x1) 1 (by decide +kernel) rfl rfl ?_
    refine wp_iconst (z := 4) (v := 4) (by decide +kernel) (by decide) ?_
    refine wp_icmp_ne (off := 16) (tgt := 36) (by decide +kernel) (by decide) (fun c2 => ?_) (fun c2 => ?_)
    · rw [if_neg c2] at H
      refine wp_iload_n (z := 1) (i := 1) (x := x1) 1 (by decide +kernel) rfl rfl ?_
      refine wp_iconst (z := 4) (v := 4) (by decide +kernel) (by decide) ?_
      refine wp_icmp_le (off := 13) (tgt := 51) (by decide +kernel) (by decide) (fun c3 => ?_) (fun c3 => ?_)
      · rw [if_pos c3] at H
        exact wp_sub [0] rfl H
      · rw [if_neg c3] at H
        refine wp_aload_n (z := 0) (i := 0) (r := (some h)) 0 (by decide +kernel) rfl rfl ?_
        refine wp_dup (by decide +kernel) rfl ?_
        refine wp_getI (idx := 56) (by decide +kernel) fl4_56 rfl ok.1 ?_
        refine wp_iconst (z := 1) (v := 1) (by decide +kernel) (by decide) ?_
        refine wp_iadd (by decide +kernel) ?_
        refine wp_putI (idx := 56) (by decide +kernel) fl4_56 rfl ok.1 ?_
        refine wp_memI (fun I4 eI4 => ?_)
        replace H := H I4 eI4
        exact wp_sub [0] rfl H
    · rw [if_pos c2] at H
      refine wp_aload_n (z := 0) (i := 0) (r := (some h)) 0 (by decide +kernel) rfl rfl ?_
      refine wp_dup (by decide +kernel) rfl ?_
      refine wp_getI (idx := 53) (by decide +kernel) fl4_53 rfl ok.1 ?_
      refine wp_iconst (z := 1) (v := 1) (by decide +kernel) (by decide) ?_
      refine wp_iadd (by decide +kernel) ?_
      refine wp_putI (idx := 53) (by decide +kernel) fl4_53 rfl ok.1 ?_
      refine wp_memI (fun I5 eI5 => ?_)
      replace H := H I5 eI5
      refine wp_goto (off := 18) (tgt := 51) (by decide +kernel) (by decide) ?_
      exact wp_sub [0] rfl H
  · rw [if_pos c1] at H
    refine wp_aload_n (z := 0) (i := 0) (r := (some h)) 0 (by decide +kernel) rfl rfl ?_
    refine wp_dup (by decide +kernel) rfl ?_
    refine wp_getI (idx := 50) (by decide +kernel) fl4_50 rfl ok.1 ?_
    refine wp_iconst (z := 1) (v := 1) (by decide +kernel) (by decide) ?_
    refine wp_iadd (by decide +kernel) ?_
    refine wp_putI (idx := 50) (by decide +kernel) fl4_50 rfl ok.1 ?_
    refine wp_memI (fun I6 eI6 => ?_)
    replace H := H I6 eI6
    refine wp_goto (off := 36) (tgt := 51) (by decide +kernel) (by decide) ?_
    exact wp_sub [0] rfl H
set_option maxRecDepth 20000 in
theorem b4_countLine_51 {X : XX} {G : GG} {I : Nat → Nat → Int32} {L : Nat → Nat → Int64} {h : Nat} {Q : (Nat → Nat → Int32) → (Nat → Nat → Int64) → Prop} (ok : OK4 G h) (H : if (I h 6) = 1 then (if 6 < (I h 11) then (wpV X B4_note 0 [(0, .ref h), (1, .int 3), (2, .int (I h 8))] [] G I L (fun I15 L16 => Q I15 L16)) else (if 6 < (I h 12) then (wpV X B4_note 0 [(0, .ref h), (1, .int 3), (2, .int (I h 8))] [] G I L (fun I19 L20 => Q I19 L20)) else (if (I h 13) ≤ 40 then (Q I L) else (wpV X B4_note 0 [(0, .ref h), (1, .int 3), (2, .int (I h 8))] [] G I L (fun I23 L24 => Q I23 L24))))) else (if 6 < (I h 11) then (wpV X B4_note 0 [(0, .ref h), (1, .int 3), (2, .int (I h 8))] [] G I L (fun I3 L4 => Q I3 L4)) else (if 6 < (I h 12) then (wpV X B4_note 0 [(0, .ref h), (1, .int 3), (2, .int (I h 8))] [] G I L (fun I7 L8 => Q I7 L8)) else (if (I h 13) ≤ 8 then (Q I L) else (wpV X B4_note 0 [(0, .ref h), (1, .int 3), (2, .int (I h 8))] [] G I L (fun I11 L12 => Q I11 L12)))))) : wpV X B4_countLine 51 [(0, .ref h)] [] G I L Q := by
  refine wp_aload_n (z := 0) (i := 0) (r := (some h)) 0 (by decide +kernel) rfl rfl ?_
  refine wp_getI (idx := 25) (by decide +kernel) fl4_25 rfl ok.1 ?_
  refine wp_iconst (z := 1) (v := 1) (by decide +kernel) (by decide) ?_
  refine wp_icmp_ne (off := 8) (tgt := 64) (by decide +kernel) (by decide) (fun c1 => ?_) (fun c1 => ?_)
  · rw [if_neg c1] at H
    refine wp_bipush (z := 8) (v := 8) (by decide +kernel) (by decide) ?_
    refine wp_istore_n (z := 2) (i := 2) (lv' := [(2, .int 8), (0, .ref h)]) (by decide +kernel) rfl (by decide) rfl ?_
    refine wp_aload_n (z := 0) (i := 0) (r := (some h)) 1 (by decide +kernel) rfl rfl ?_
    refine wp_getI (idx := 50) (by decide +kernel) fl4_50 rfl ok.1 ?_
    refine wp_bipush (z := 6) (v := 6) (by decide +kernel) (by decide) ?_
    refine wp_icmp_gt (off := 20) (tgt := 93) (by decide +kernel) (by decide) (fun c2 => ?_) (fun c2 => ?_)
    · rw [if_pos c2] at H
      refine wp_aload_n (z := 0) (i := 0) (r := (some h)) 1 (by decide +kernel) rfl rfl ?_
      refine wp_iconst (z := 3) (v := 3) (by decide +kernel) (by decide) ?_
      refine wp_aload_n (z := 0) (i := 0) (r := (some h)) 1 (by decide +kernel) rfl rfl ?_
      refine wp_getI (idx := 83) (by decide +kernel) fl4_83 rfl ok.1 ?_
      refine wp_callV (idx := 79) (B2 := B4_note) (As := [.int 3, .int (I h 8)]) (a := h) (st := []) (by decide +kernel) m4_note ml4_79 k4_note e4_note ck4 ok.1 (⟨Nat.le_of_ble_eq_true rfl, Nat.le_of_ble_eq_true rfl⟩ : rOK B4_countLine B4_note) rfl (Nat.le_of_ble_eq_true rfl) (Nat.le_of_ble_eq_true rfl) ⟨Nat.le_of_ble_eq_true rfl, Nat.le_of_ble_eq_true rfl⟩ rfl (wp_mono H (fun v9 M9 hq9 => ?_))
      clear H
      obtain ⟨I3, L4, rfl, rfl, H⟩ := hq9
      show wp X B4_countLine 102 [(2, .int 8), (0, .ref h)] [] (G, I3, L4) 0 0 _
      exact wp_vret (by decide +kernel) rfl (Nat.zero_le _) (Nat.zero_le _) ⟨_, _, rfl, rfl, H⟩
    · rw [if_neg c2] at H
      refine wp_aload_n (z := 0) (i := 0) (r := (some h)) 1 (by decide +kernel) rfl rfl ?_
      refine wp_getI (idx := 53) (by decide +kernel) fl4_53 rfl ok.1 ?_
      refine wp_bipush (z := 6) (v := 6) (by decide +kernel) (by decide) ?_
      refine wp_icmp_gt (off := 11) (tgt := 93) (by decide +kernel) (by decide) (fun c6 => ?_) (fun c6 => ?_)
      · rw [if_pos c6] at H
        refine wp_aload_n (z := 0) (i := 0) (r := (some h)) 1 (by decide +kernel) rfl rfl ?_
        refine wp_iconst (z := 3) (v := 3) (by decide +kernel) (by decide) ?_
        refine wp_aload_n (z := 0) (i := 0) (r := (some h)) 1 (by decide +kernel) rfl rfl ?_
        refine wp_getI (idx := 83) (by decide +kernel) fl4_83 rfl ok.1 ?_
        refine wp_callV (idx := 79) (B2 := B4_note) (As := [.int 3, .int (I h 8)]) (a := h) (st := []) (by decide +kernel) m4_note ml4_79 k4_note e4_note ck4 ok.1 (⟨Nat.le_of_ble_eq_true rfl, Nat.le_of_ble_eq_true rfl⟩ : rOK B4_countLine B4_note) rfl (Nat.le_of_ble_eq_true rfl) (Nat.le_of_ble_eq_true rfl) ⟨Nat.le_of_ble_eq_true rfl, Nat.le_of_ble_eq_true rfl⟩ rfl (wp_mono H (fun v9 M9 hq9 => ?_))
        clear H
        obtain ⟨I7, L8, rfl, rfl, H⟩ := hq9
        show wp X B4_countLine 102 [(2, .int 8), (0, .ref h)] [] (G, I7, L8) 0 0 _
        exact wp_vret (by decide +kernel) rfl (Nat.zero_le _) (Nat.zero_le _) ⟨_, _, rfl, rfl, H⟩
      · rw [if_neg c6] at H
        refine wp_aload_n (z := 0) (i := 0) (r := (some h)) 1 (by decide +kernel) rfl rfl ?_
        refine wp_getI (idx := 56) (by decide +kernel) fl4_56 rfl ok.1 ?_
        refine wp_iload_n (z := 2) (i := 2) (x := 8) 0 (by decide +kernel) rfl rfl ?_
        refine wp_icmp_le (off := 12) (tgt := 102) (by decide +kernel) (by decide) (fun c10 => ?_) (fun c10 => ?_)
        · rw [if_pos c10] at H
          exact wp_vret (by decide +kernel) rfl (Nat.zero_le _) (Nat.zero_le _) ⟨_, _, rfl, rfl, H⟩
        · rw [if_neg c10] at H
          refine wp_aload_n (z := 0) (i := 0) (r := (some h)) 1 (by decide +kernel) rfl rfl ?_
          refine wp_iconst (z := 3) (v := 3) (by decide +kernel) (by decide) ?_
          refine wp_aload_n (z := 0) (i := 0) (r := (some h)) 1 (by decide +kernel) rfl rfl ?_
          refine wp_getI (idx := 83) (by decide +kernel) fl4_83 rfl ok.1 ?_
          refine wp_callV (idx := 79) (B2 := B4_note) (As := [.int 3, .int (I h 8)]) (a := h) (st := []) (by decide +kernel) m4_note ml4_79 k4_note e4_note ck4 ok.1 (⟨Nat.le_of_ble_eq_true rfl, Nat.le_of_ble_eq_true rfl⟩ : rOK B4_countLine B4_note) rfl (Nat.le_of_ble_eq_true rfl) (Nat.le_of_ble_eq_true rfl) ⟨Nat.le_of_ble_eq_true rfl, Nat.le_of_ble_eq_true rfl⟩ rfl (wp_mono H (fun v9 M9 hq9 => ?_))
          clear H
          obtain ⟨I11, L12, rfl, rfl, H⟩ := hq9
          show wp X B4_countLine 102 [(2, .int 8), (0, .ref h)] [] (G, I11, L12) 0 0 _
          exact wp_vret (by decide +kernel) rfl (Nat.zero_le _) (Nat.zero_le _) ⟨_, _, rfl, rfl, H⟩
  · rw [if_pos c1] at H
    refine wp_bipush (z := 40) (v := 40) (by decide +kernel) (by decide) ?_
    refine wp_goto (off := 5) (tgt := 66) (by decide +kernel) (by decide) ?_
    refine wp_istore_n (z := 2) (i := 2) (lv' := [(2, .int 40), (0, .ref h)]) (by decide +kernel) rfl (by decide) rfl ?_
    refine wp_aload_n (z := 0) (i := 0) (r := (some h)) 1 (by decide +kernel) rfl rfl ?_
    refine wp_getI (idx := 50) (by decide +kernel) fl4_50 rfl ok.1 ?_
    refine wp_bipush (z := 6) (v := 6) (by decide +kernel) (by decide) ?_
    refine wp_icmp_gt (off := 20) (tgt := 93) (by decide +kernel) (by decide) (fun c14 => ?_) (fun c14 => ?_)
    · rw [if_pos c14] at H
      refine wp_aload_n (z := 0) (i := 0) (r := (some h)) 1 (by decide +kernel) rfl rfl ?_
      refine wp_iconst (z := 3) (v := 3) (by decide +kernel) (by decide) ?_
      refine wp_aload_n (z := 0) (i := 0) (r := (some h)) 1 (by decide +kernel) rfl rfl ?_
      refine wp_getI (idx := 83) (by decide +kernel) fl4_83 rfl ok.1 ?_
      refine wp_callV (idx := 79) (B2 := B4_note) (As := [.int 3, .int (I h 8)]) (a := h) (st := []) (by decide +kernel) m4_note ml4_79 k4_note e4_note ck4 ok.1 (⟨Nat.le_of_ble_eq_true rfl, Nat.le_of_ble_eq_true rfl⟩ : rOK B4_countLine B4_note) rfl (Nat.le_of_ble_eq_true rfl) (Nat.le_of_ble_eq_true rfl) ⟨Nat.le_of_ble_eq_true rfl, Nat.le_of_ble_eq_true rfl⟩ rfl (wp_mono H (fun v9 M9 hq9 => ?_))
      clear H
      obtain ⟨I15, L16, rfl, rfl, H⟩ := hq9
      show wp X B4_countLine 102 [(2, .int 40), (0, .ref h)] [] (G, I15, L16) 0 0 _
      exact wp_vret (by decide +kernel) rfl (Nat.zero_le _) (Nat.zero_le _) ⟨_, _, rfl, rfl, H⟩
    · rw [if_neg c14] at H
      refine wp_aload_n (z := 0) (i := 0) (r := (some h)) 1 (by decide +kernel) rfl rfl ?_
      refine wp_getI (idx := 53) (by decide +kernel) fl4_53 rfl ok.1 ?_
      refine wp_bipush (z := 6) (v := 6) (by decide +kernel) (by decide) ?_
      refine wp_icmp_gt (off := 11) (tgt := 93) (by decide +kernel) (by decide) (fun c18 => ?_) (fun c18 => ?_)
      · rw [if_pos c18] at H
        refine wp_aload_n (z := 0) (i := 0) (r := (some h)) 1 (by decide +kernel) rfl rfl ?_
        refine wp_iconst (z := 3) (v := 3) (by decide +kernel) (by decide) ?_
        refine wp_aload_n (z := 0) (i := 0) (r := (some h)) 1 (by decide +kernel) rfl rfl ?_
        refine wp_getI (idx := 83) (by decide +kernel) fl4_83 rfl ok.1 ?_
        refine wp_callV (idx := 79) (B2 := B4_note) (As := [.int 3, .int (I h 8)]) (a := h) (st := []) (by decide +kernel) m4_note ml4_79 k4_note e4_note ck4 ok.1 (⟨Nat.le_of_ble_eq_true rfl, Nat.le_of_ble_eq_true rfl⟩ : rOK B4_countLine B4_note) rfl (Nat.le_of_ble_eq_true rfl) (Nat.le_of_ble_eq_true rfl) ⟨Nat.le_of_ble_eq_true rfl, Nat.le_of_ble_eq_true rfl⟩ rfl (wp_mono H (fun v9 M9 hq9 => ?_))
        clear H
        obtain ⟨I19, L20, rfl, rfl, H⟩ := hq9
        show wp X B4_countLine 102 [(2, .int 40), (0, .ref h)] [] (G, I19, L20) 0 0 _
        exact wp_vret (by decide +kernel) rfl (Nat.zero_le _) (Nat.zero_le _) ⟨_, _, rfl, rfl, H⟩
      · rw [if_neg c18] at H
        refine wp_aload_n (z := 0) (i := 0) (r := (some h)) 1 (by decide +kernel) rfl rfl ?_
        refine wp_getI (idx := 56) (by decide +kernel) fl4_56 rfl ok.1 ?_
        refine wp_iload_n (z := 2) (i := 2) (x := 40) 0 (by decide +kernel) rfl rfl ?_
        refine wp_icmp_le (off := 12) (tgt := 102) (by decide +kernel) (by decide) (fun c22 => ?_) (fun c22 => ?_)
        · rw [if_pos c22] at H
          exact wp_vret (by decide +kernel) rfl (Nat.zero_le _) (Nat.zero_le _) ⟨_, _, rfl, rfl, H⟩
        · rw [if_neg c22] at H
          refine wp_aload_n (z := 0) (i := 0) (r := (some h)) 1 (by decide +kernel) rfl rfl ?_
          refine wp_iconst (z := 3) (v := 3) (by decide +kernel) (by decide) ?_
          refine wp_aload_n (z := 0) (i := 0) (r := (some h)) 1 (by decide +kernel) rfl rfl ?_
          refine wp_getI (idx := 83) (by decide +kernel) fl4_83 rfl ok.1 ?_
          refine wp_callV (idx := 79) (B2 := B4_note) (As := [.int 3, .int (I h 8)]) (a := h) (st := []) (by decide +kernel) m4_note ml4_79 k4_note e4_note ck4 ok.1 (⟨Nat.le_of_ble_eq_true rfl, Nat.le_of_ble_eq_true rfl⟩ : rOK B4_countLine B4_note) rfl (Nat.le_of_ble_eq_true rfl) (Nat.le_of_ble_eq_true rfl) ⟨Nat.le_of_ble_eq_true rfl, Nat.le_of_ble_eq_true rfl⟩ rfl (wp_mono H (fun v9 M9 hq9 => ?_))
          clear H
          obtain ⟨I23, L24, rfl, rfl, H⟩ := hq9
          show wp X B4_countLine 102 [(2, .int 40), (0, .ref h)] [] (G, I23, L24) 0 0 _
          exact wp_vret (by decide +kernel) rfl (Nat.zero_le _) (Nat.zero_le _) ⟨_, _, rfl, rfl, H⟩
/-! DeafWall$Reader.lookAtNumber(II)V -/
set_option maxRecDepth 20000 in
theorem b4_lookAtNumber {X : XX} {G : GG} {I : Nat → Nat → Int32} {L : Nat → Nat → Int64} {h : Nat} {x1 : Int32} {x2 : Int32} {Q : (Nat → Nat → Int32) → (Nat → Nat → Int64) → Prop} (ok : OK4 G h) (H : if x2 = (0 : Int32) then (vp_in x1 13 ∧ (∀ u25, u25 = (([1, 0, 0, 0, 0, 0, 0, 0, 0, 0, 0, 0, 0] : List Int32).getD (cl x1) 0) → if x2 = (0 : Int32) then (vp_in x1 13 ∧ (∀ u37, u37 = (([8, 31, 31, 31, 1, 9, 31, 31, 5, 5, 5, 5, 5] : List Int32).getD (cl x1) 0) → if (I h 10) < u25 then (wpV X B4_note 0 [(0, .ref h), (1, .int 2), (2, .int (I h 8))] [] G I L (fun I39 L40 => Q I39 L40)) else (if (I h 10) ≤ u37 then (Q I L) else (wpV X B4_note 0 [(0, .ref h), (1, .int 2), (2, .int (I h 8))] [] G I L (fun I43 L44 => Q I43 L44))))) else (vp_in x1 13 ∧ (∀ u27, u27 = (([4, 9, 0, 9, 0, 0, 0, 0, 0, 0, 31, 19, 19] : List Int32).getD (cl x1) 0) → if (I h 10) < u25 then (wpV X B4_note 0 [(0, .ref h), (1, .int 2), (2, .int (I h 8))] [] G I L (fun I29 L30 => Q I29 L30)) else (if (I h 10) ≤ u27 then (Q I L) else (wpV X B4_note 0 [(0, .ref h), (1, .int 2), (2, .int (I h 8))] [] G I L (fun I33 L34 => Q I33 L34))))))) else (vp_in x1 13 ∧ (∀ u2, u2 = (([1, 1, 0, 1, 0, 0, 0, 0, 0, 0, 0, 0, 0] : List Int32).getD (cl x1) 0) → if x2 = (0 : Int32) then (vp_in x1 13 ∧ (∀ u14, u14 = (([8, 31, 31, 31, 1, 9, 31, 31, 5, 5, 5, 5, 5] : List Int32).getD (cl x1) 0) → if (I h 10) < u2 then (wpV X B4_note 0 [(0, .ref h), (1, .int 2), (2, .int (I h 8))] [] G I L (fun I16 L17 => Q I16 L17)) else (if (I h 10) ≤ u14 then (Q I L) else (wpV X B4_note 0 [(0, .ref h), (1, .int 2), (2, .int (I h 8))] [] G I L (fun I20 L21 => Q I20 L21))))) else (vp_in x1 13 ∧ (∀ u4, u4 = (([4, 9, 0, 9, 0, 0, 0, 0, 0, 0, 31, 19, 19] : List Int32).getD (cl x1) 0) → if (I h 10) < u2 then (wpV X B4_note 0 [(0, .ref h), (1, .int 2), (2, .int (I h 8))] [] G I L (fun I6 L7 => Q I6 L7)) else (if (I h 10) ≤ u4 then (Q I L) else (wpV X B4_note 0 [(0, .ref h), (1, .int 2), (2, .int (I h 8))] [] G I L (fun I10 L11 => Q I10 L11)))))))) : wpV X B4_lookAtNumber 0 [(0, .ref h), (1, .int x1), (2, .int x2)] [] G I L Q := by
  refine wp_iload_n (z := 2) (i := 2) (x := x2) 2 (by decide +kernel) rfl rfl ?_
  refine wp_if_ne (off := 11) (tgt := 12) (by decide +kernel) (by decide) (fun c1 => ?_) (fun c1 => ?_)
  · rw [if_neg c1] at H
    refine wp_gets (idx := 172) (j := 4) (by decide +kernel) rfl (in_g (List.mem_of_getElem? (i := 617) (by decide +kernel)) rfl) ?_
    refine wp_iload_n (z := 1) (i := 1) (x := x1) 1 (by decide +kernel) rfl rfl ?_
    obtain ⟨o24, H⟩ := H
    refine wp_tald (j := 4) (N := 13) (i9 := (cl x1)) (by decide +kernel) rfl rfl o24 rfl ?_
    refine wp_topi (fun u2 eu2 => ?_)
    replace H := H u2 eu2
    refine wp_istore_n (z := 3) (i := 3) (lv' := [(3, .int u2), (0, .ref h), (1, .int x1), (2, .int x2)]) (by decide +kernel) rfl (by decide) rfl ?_
    refine wp_iload_n (z := 2) (i := 2) (x := x2) 3 (by decide +kernel) rfl rfl ?_
    refine wp_if_ne (off := 11) (tgt := 30) (by decide +kernel) (by decide) (fun c3 => ?_) (fun c3 => ?_)
    · rw [if_neg c3] at H
      refine wp_gets (idx := 178) (j := 5) (by decide +kernel) rfl (in_g (List.mem_of_getElem? (i := 621) (by decide +kernel)) rfl) ?_
      refine wp_iload_n (z := 1) (i := 1) (x := x1) 2 (by decide +kernel) rfl rfl ?_
      obtain ⟨o13, H⟩ := H
      refine wp_tald (j := 5) (N := 13) (i9 := (cl x1)) (by decide +kernel) rfl rfl o13 rfl ?_
      refine wp_topi (fun u4 eu4 => ?_)
      replace H := H u4 eu4
      refine wp_istore (i := 4) (lv' := [(4, .int u4), (3, .int u2), (0, .ref h), (1, .int x1), (2, .int x2)]) (by decide +kernel) (by decide) rfl ?_
      refine wp_aload_n (z := 0) (i := 0) (r := (some h)) 2 (by decide +kernel) rfl rfl ?_
      refine wp_getI (idx := 95) (by decide +kernel) fl4_95 rfl ok.1 ?_
      refine wp_iload_n (z := 3) (i := 3) (x := u2) 1 (by decide +kernel) rfl rfl ?_
      refine wp_icmp_lt (off := 12) (tgt := 54) (by decide +kernel) (by decide) (fun c5 => ?_) (fun c5 => ?_)
      · rw [if_pos c5] at H
        refine wp_aload_n (z := 0) (i := 0) (r := (some h)) 2 (by decide +kernel) rfl rfl ?_
        refine wp_iconst (z := 2) (v := 2) (by decide +kernel) (by decide) ?_
        refine wp_aload_n (z := 0) (i := 0) (r := (some h)) 2 (by decide +kernel) rfl rfl ?_
        refine wp_getI (idx := 83) (by decide +kernel) fl4_83 rfl ok.1 ?_
        refine wp_callV (idx := 79) (B2 := B4_note) (As := [.int 2, .int (I h 8)]) (a := h) (st := []) (by decide +kernel) m4_note ml4_79 k4_note e4_note ck4 ok.1 (⟨Nat.le_of_ble_eq_true rfl, Nat.le_of_ble_eq_true rfl⟩ : rOK B4_lookAtNumber B4_note) rfl (Nat.le_of_ble_eq_true rfl) (Nat.le_of_ble_eq_true rfl) ⟨Nat.le_of_ble_eq_true rfl, Nat.le_of_ble_eq_true rfl⟩ rfl (wp_mono H (fun v9 M9 hq9 => ?_))
        clear H
        obtain ⟨I6, L7, rfl, rfl, H⟩ := hq9
        show wp X B4_lookAtNumber 63 [(4, .int u4), (3, .int u2), (0, .ref h), (1, .int x1), (2, .int x2)] [] (G, I6, L7) 0 0 _
        exact wp_vret (by decide +kernel) rfl (Nat.zero_le _) (Nat.zero_le _) ⟨_, _, rfl, rfl, H⟩
      · rw [if_neg c5] at H
        refine wp_aload_n (z := 0) (i := 0) (r := (some h)) 2 (by decide +kernel) rfl rfl ?_
        refine wp_getI (idx := 95) (by decide +kernel) fl4_95 rfl ok.1 ?_
        refine wp_iload (i := 4) (x := u4) 0 (by decide +kernel) rfl ?_
        refine wp_icmp_le (off := 12) (tgt := 63) (by decide +kernel) (by decide) (fun c9 => ?_) (fun c9 => ?_)
        · rw [if_pos c9] at H
          exact wp_vret (by decide +kernel) rfl (Nat.zero_le _) (Nat.zero_le _) ⟨_, _, rfl, rfl, H⟩
        · rw [if_neg c9] at H
          refine wp_aload_n (z := 0) (i := 0) (r := (some h)) 2 (by decide +kernel) rfl rfl ?_
          refine wp_iconst (z := 2) (v := 2) (by decide +kernel) (by decide) ?_
          refine wp_aload_n (z := 0) (i := 0) (r := (some h)) 2 (by decide +kernel) rfl rfl ?_
          refine wp_getI (idx := 83) (by decide +kernel) fl4_83 rfl ok.1 ?_
          refine wp_callV (idx := 79) (B2 := B4_note) (As := [.int 2, .int (I h 8)]) (a := h) (st := []) (by decide +kernel) m4_note ml4_79 k4_note e4_note ck4 ok.1 (⟨Nat.le_of_ble_eq_true rfl, Nat.le_of_ble_eq_true rfl⟩ : rOK B4_lookAtNumber B4_note) rfl (Nat.le_of_ble_eq_true rfl) (Nat.le_of_ble_eq_true rfl) ⟨Nat.le_of_ble_eq_true rfl, Nat.le_of_ble_eq_true rfl⟩ rfl (wp_mono H (fun v9 M9 hq9 => ?_))
          clear H
          obtain ⟨I10, L11, rfl, rfl, H⟩ := hq9
          show wp X B4_lookAtNumber 63 [(4, .int u4), (3, .int u2), (0, .ref h), (1, .int x1), (2, .int x2)] [] (G, I10, L11) 0 0 _
          exact wp_vret (by decide +kernel) rfl (Nat.zero_le _) (Nat.zero_le _) ⟨_, _, rfl, rfl, H⟩
    · rw [if_pos c3] at H
      refine wp_gets (idx := 175) (j := 3) (by decide +kernel) rfl (in_g (List.mem_of_getElem? (i := 619) (by decide +kernel)) rfl) ?_
      refine wp_iload_n (z := 1) (i := 1) (x := x1) 2 (by decide +kernel) rfl rfl ?_
      obtain ⟨o23, H⟩ := H
      refine wp_tald (j := 3) (N := 13) (i9 := (cl x1)) (by decide +kernel) rfl rfl o23 rfl ?_
      refine wp_goto (off := 8) (tgt := 35) (by decide +kernel) (by decide) ?_
      refine wp_topi (fun u14 eu14 => ?_)
      replace H := H u14 eu14
      refine wp_istore (i := 4) (lv' := [(4, .int u14), (3, .int u2), (0, .ref h), (1, .int x1), (2, .int x2)]) (by decide +kernel) (by decide) rfl ?_
      refine wp_aload_n (z := 0) (i := 0) (r := (some h)) 2 (by decide +kernel) rfl rfl ?_
      refine wp_getI (idx := 95) (by decide +kernel) fl4_95 rfl ok.1 ?_
      refine wp_iload_n (z := 3) (i := 3) (x := u2) 1 (by decide +kernel) rfl rfl ?_
      refine wp_icmp_lt (off := 12) (tgt := 54) (by decide +kernel) (by decide) (fun c15 => ?_) (fun c15 => ?_)
      · rw [if_pos c15] at H
        refine wp_aload_n (z := 0) (i := 0) (r := (some h)) 2 (by decide +kernel) rfl rfl ?_
        refine wp_iconst (z := 2) (v := 2) (by decide +kernel) (by decide) ?_
        refine wp_aload_n (z := 0) (i := 0) (r := (some h)) 2 (by decide +kernel) rfl rfl ?_
        refine wp_getI (idx := 83) (by decide +kernel) fl4_83 rfl ok.1 ?_
        refine wp_callV (idx := 79) (B2 := B4_note) (As := [.int 2, .int (I h 8)]) (a := h) (st := []) (by decide +kernel) m4_note ml4_79 k4_note e4_note ck4 ok.1 (⟨Nat.le_of_ble_eq_true rfl, Nat.le_of_ble_eq_true rfl⟩ : rOK B4_lookAtNumber B4_note) rfl (Nat.le_of_ble_eq_true rfl) (Nat.le_of_ble_eq_true rfl) ⟨Nat.le_of_ble_eq_true rfl, Nat.le_of_ble_eq_true rfl⟩ rfl (wp_mono H (fun v9 M9 hq9 => ?_))
        clear H
        obtain ⟨I16, L17, rfl, rfl, H⟩ := hq9
        show wp X B4_lookAtNumber 63 [(4, .int u14), (3, .int u2), (0, .ref h), (1, .int x1), (2, .int x2)] [] (G, I16, L17) 0 0 _
        exact wp_vret (by decide +kernel) rfl (Nat.zero_le _) (Nat.zero_le _) ⟨_, _, rfl, rfl, H⟩
      · rw [if_neg c15] at H
        refine wp_aload_n (z := 0) (i := 0) (r := (some h)) 2 (by decide +kernel) rfl rfl ?_
        refine wp_getI (idx := 95) (by decide +kernel) fl4_95 rfl ok.1 ?_
        refine wp_iload (i := 4) (x := u14) 0 (by decide +kernel) rfl ?_
        refine wp_icmp_le (off := 12) (tgt := 63) (by decide +kernel) (by decide) (fun c19 => ?_) (fun c19 => ?_)
        · rw [if_pos c19] at H
          exact wp_vret (by decide +kernel) rfl (Nat.zero_le _) (Nat.zero_le _) ⟨_, _, rfl, rfl, H⟩
        · rw [if_neg c19] at H
          refine wp_aload_n (z := 0) (i := 0) (r := (some h)) 2 (by decide +kernel) rfl rfl ?_
          refine wp_iconst (z := 2) (v := 2) (by decide +kernel) (by decide) ?_
          refine wp_aload_n (z := 0) (i := 0) (r := (some h)) 2 (by decide +kernel) rfl rfl ?_
          refine wp_getI (idx := 83) (by decide +kernel) fl4_83 rfl ok.1 ?_
          refine wp_callV (idx := 79) (B2 := B4_note) (As := [.int 2, .int (I h 8)]) (a := h) (st := []) (by decide +kernel) m4_note ml4_79 k4_note e4_note ck4 ok.1 (⟨Nat.le_of_ble_eq_true rfl, Nat.le_of_ble_eq_true rfl⟩ : rOK B4_lookAtNumber B4_note) rfl (Nat.le_of_ble_eq_true rfl) (Nat.le_of_ble_eq_true rfl) ⟨Nat.le_of_ble_eq_true rfl, Nat.le_of_ble_eq_true rfl⟩ rfl (wp_mono H (fun v9 M9 hq9 => ?_))
          clear H
          obtain ⟨I20, L21, rfl, rfl, H⟩ := hq9
          show wp X B4_lookAtNumber 63 [(4, .int u14), (3, .int u2), (0, .ref h), (1, .int x1), (2, .int x2)] [] (G, I20, L21) 0 0 _
          exact wp_vret (by decide +kernel) rfl (Nat.zero_le _) (Nat.zero_le _) ⟨_, _, rfl, rfl, H⟩
  · rw [if_pos c1] at H
    refine wp_gets (idx := 169) (j := 2) (by decide +kernel) rfl (in_g (List.mem_of_getElem? (i := 615) (by decide +kernel)) rfl) ?_
    refine wp_iload_n (z := 1) (i := 1) (x := x1) 1 (by decide +kernel) rfl rfl ?_
    obtain ⟨o47, H⟩ := H
    refine wp_tald (j := 2) (N := 13) (i9 := (cl x1)) (by decide +kernel) rfl rfl o47 rfl ?_
    refine wp_goto (off := 8) (tgt := 17) (by decide +kernel) (by decide) ?_
    refine wp_topi (fun u25 eu25 => ?_)
    replace H := H u25 eu25
    refine wp_istore_n (z := 3) (i := 3) (lv' := [(3, .int u25), (0, .ref h), (1, .int x1), (2, .int x2)]) (by decide +kernel) rfl (by decide) rfl ?_
    refine wp_iload_n (z := 2) (i := 2) (x := x2) 3 (by decide +kernel) rfl rfl ?_
    refine wp_if_ne (off := 11) (tgt := 30) (by decide +kernel) (by decide) (fun c26 => ?_) (fun c26 => ?_)
    · rw [if_neg c26] at H
      refine wp_gets (idx := 178) (j := 5) (by decide +kernel) rfl (in_g (List.mem_of_getElem? (i := 621) (by decide +kernel)) rfl) ?_
      refine wp_iload_n (z := 1) (i := 1) (x := x1) 2 (by decide +kernel) rfl rfl ?_
      obtain ⟨o36, H⟩ := H
      refine wp_tald (j := 5) (N := 13) (i9 := (cl x1)) (by decide +kernel) rfl rfl o36 rfl ?_
      refine wp_topi (fun u27 eu27 => ?_)
      replace H := H u27 eu27
      refine wp_istore (i := 4) (lv' := [(4, .int u27), (3, .int u25), (0, .ref h), (1, .int x1), (2, .int x2)]) (by decide +kernel) (by decide) rfl ?_
      refine wp_aload_n (z := 0) (i := 0) (r := (some h)) 2 (by decide +kernel) rfl rfl ?_
      refine wp_getI (idx := 95) (by decide +kernel) fl4_95 rfl ok.1 ?_
      refine wp_iload_n (z := 3) (i := 3) (x := u25) 1 (by decide +kernel) rfl rfl ?_
      refine wp_icmp_lt (off := 12) (tgt := 54) (by decide +kernel) (by decide) (fun c28 => ?_) (fun c28 => ?_)
      · rw [if_pos c28] at H
        refine wp_aload_n (z := 0) (i := 0) (r := (some h)) 2 (by decide +kernel) rfl rfl ?_
        refine wp_iconst (z := 2) (v := 2) (by decide +kernel) (by decide) ?_
        refine wp_aload_n (z := 0) (i := 0) (r := (some h)) 2 (by decide +kernel) rfl rfl ?_
        refine wp_getI (idx := 83) (by decide +kernel) fl4_83 rfl ok.1 ?_
        refine wp_callV (idx := 79) (B2 := B4_note) (As := [.int 2, .int (I h 8)]) (a := h) (st := []) (by decide +kernel) m4_note ml4_79 k4_note e4_note ck4 ok.1 (⟨Nat.le_of_ble_eq_true rfl, Nat.le_of_ble_eq_true rfl⟩ : rOK B4_lookAtNumber B4_note) rfl (Nat.le_of_ble_eq_true rfl) (Nat.le_of_ble_eq_true rfl) ⟨Nat.le_of_ble_eq_true rfl, Nat.le_of_ble_eq_true rfl⟩ rfl (wp_mono H (fun v9 M9 hq9 => ?_))
        clear H
        obtain ⟨I29, L30, rfl, rfl, H⟩ := hq9
        show wp X B4_lookAtNumber 63 [(4, .int u27), (3, .int u25), (0, .ref h), (1, .int x1), (2, .int x2)] [] (G, I29, L30) 0 0 _
        exact wp_vret (by decide +kernel) rfl (Nat.zero_le _) (Nat.zero_le _) ⟨_, _, rfl, rfl, H⟩
      · rw [if_neg c28] at H
        refine wp_aload_n (z := 0) (i := 0) (r := (some h)) 2 (by decide +kernel) rfl rfl ?_
        refine wp_getI (idx := 95) (by decide +kernel) fl4_95 rfl ok.1 ?_
        refine wp_iload (i := 4) (x := u27) 0 (by decide +kernel) rfl ?_
        refine wp_icmp_le (off := 12) (tgt := 63) (by decide +kernel) (by decide) (fun c32 => ?_) (fun c32 => ?_)
        · rw [if_pos c32] at H
          exact wp_vret (by decide +kernel) rfl (Nat.zero_le _) (Nat.zero_le _) ⟨_, _, rfl, rfl, H⟩
        · rw [if_neg c32] at H
          refine wp_aload_n (z := 0) (i := 0) (r := (some h)) 2 (by decide +kernel) rfl rfl ?_
          refine wp_iconst (z := 2) (v := 2) (by decide +kernel) (by decide) ?_
          refine wp_aload_n (z := 0) (i := 0) (r := (some h)) 2 (by decide +kernel) rfl rfl ?_
          refine wp_getI (idx := 83) (by decide +kernel) fl4_83 rfl ok.1 ?_
          refine wp_callV (idx := 79) (B2 := B4_note) (As := [.int 2, .int (I h 8)]) (a := h) (st := []) (by decide +kernel) m4_note ml4_79 k4_note e4_note ck4 ok.1 (⟨Nat.le_of_ble_eq_true rfl, Nat.le_of_ble_eq_true rfl⟩ : rOK B4_lookAtNumber B4_note) rfl (Nat.le_of_ble_eq_true rfl) (Nat.le_of_ble_eq_true rfl) ⟨Nat.le_of_ble_eq_true rfl, Nat.le_of_ble_eq_true rfl⟩ rfl (wp_mono H (fun v9 M9 hq9 => ?_))
          clear H
          obtain ⟨I33, L34, rfl, rfl, H⟩ := hq9
          show wp X B4_lookAtNumber 63 [(4, .int u27), (3, .int u25), (0, .ref h), (1, .int x1), (2, .int x2)] [] (G, I33, L34) 0 0 _
          exact wp_vret (by decide +kernel) rfl (Nat.zero_le _) (Nat.zero_le _) ⟨_, _, rfl, rfl, H⟩
    · rw [if_pos c26] at H
      refine wp_gets (idx := 175) (j := 3) (by decide +kernel) rfl (in_g (List.mem_of_getElem? (i := 619) (by decide +kernel)) rfl) ?_
      refine wp_iload_n (z := 1) (i := 1) (x := x1) 2 (by decide +kernel) rfl rfl ?_
      obtain ⟨o46, H⟩ := H
      refine wp_tald (j := 3) (N := 13) (i9 := (cl x1)) (by decide +kernel) rfl rfl o46 rfl ?_
      refine wp_goto (off := 8) (tgt := 35) (by decide +kernel) (by decide) ?_
      refine wp_topi (fun u37 eu37 => ?_)
      replace H := H u37 eu37
      refine wp_istore (i := 4) (lv' := [(4, .int u37), (3, .int u25), (0, .ref h), (1, .int x1), (2, .int x2)]) (by decide +kernel) (by decide) rfl ?_
      refine wp_aload_n (z := 0) (i := 0) (r := (some h)) 2 (by decide +kernel) rfl rfl ?_
      refine wp_getI (idx := 95) (by decide +kernel) fl4_95 rfl ok.1 ?_
      refine wp_iload_n (z := 3) (i := 3) (x := u25) 1 (by decide +kernel) rfl rfl ?_
      refine wp_icmp_lt (off := 12) (tgt := 54) (by decide +kernel) (by decide) (fun c38 => ?_) (fun c38 => ?_)
      · rw [if_pos c38] at H
        refine wp_aload_n (z := 0) (i := 0) (r := (some h)) 2 (by decide +kernel) rfl rfl ?_
        refine wp_iconst (z := 2) (v := 2) (by decide +kernel) (by decide) ?_
        refine wp_aload_n (z := 0) (i := 0) (r := (some h)) 2 (by decide +kernel) rfl rfl ?_
        refine wp_getI (idx := 83) (by decide +kernel) fl4_83 rfl ok.1 ?_
        refine wp_callV (idx := 79) (B2 := B4_note) (As := [.int 2, .int (I h 8)]) (a := h) (st := []) (by decide +kernel) m4_note ml4_79 k4_note e4_note ck4 ok.1 (⟨Nat.le_of_ble_eq_true rfl, Nat.le_of_ble_eq_true rfl⟩ : rOK B4_lookAtNumber B4_note) rfl (Nat.le_of_ble_eq_true rfl) (Nat.le_of_ble_eq_true rfl) ⟨Nat.le_of_ble_eq_true rfl, Nat.le_of_ble_eq_true rfl⟩ rfl (wp_mono H (fun v9 M9 hq9 => ?_))
        clear H
        obtain ⟨I39, L40, rfl, rfl, H⟩ := hq9
        show wp X B4_lookAtNumber 63 [(4, .int u37), (3, .int u25), (0, .ref h), (1, .int x1), (2, .int x2)] [] (G, I39, L40) 0 0 _
        exact wp_vret (by decide +kernel) rfl (Nat.zero_le _) (Nat.zero_le _) ⟨_, _, rfl, rfl, H⟩
      · rw [if_neg c38] at H
        refine wp_aload_n (z := 0) (i := 0) (r := (some h)) 2 (by decide +kernel) rfl rfl ?_
        refine wp_getI (idx := 95) (by decide +kernel) fl4_95 rfl ok.1 ?_
        refine wp_iload (i := 4) (x := u37) 0 (by decide +kernel) rfl ?_
        refine wp_icmp_le (off := 12) (tgt := 63) (by decide +kernel) (by decide) (fun c42 => ?_) (fun c42 => ?_)
        · rw [if_pos c42] at H
          exact wp_vret (by decide +kernel) rfl (Nat.zero_le _) (Nat.zero_le _) ⟨_, _, rfl, rfl, H⟩
        · rw [if_neg c42] at H
          refine wp_aload_n (z := 0) (i := 0) (r := (some h)) 2 (by decide +kernel) rfl rfl ?_
          refine wp_iconst (z := 2) (v := 2) (by decide +kernel) (by decide) ?_
          refine wp_aload_n (z := 0) (i := 0) (r := (some h)) 2 (by decide +kernel) rfl rfl ?_
          refine wp_getI (idx := 83) (by decide +kernel) fl4_83 rfl ok.1 ?_
          refine wp_callV (idx := 79) (B2 := B4_note) (As := [.int 2, .int (I h 8)]) (a := h) (st := []) (by decide +kernel) m4_note ml4_79 k4_note e4_note ck4 ok.1 (⟨Nat.le_of_ble_eq_true rfl, Nat.le_of_ble_eq_true rfl⟩ : rOK B4_lookAtNumber B4_note) rfl (Nat.le_of_ble_eq_true rfl) (Nat.le_of_ble_eq_true rfl) ⟨Nat.le_of_ble_eq_true rfl, Nat.le_of_ble_eq_true rfl⟩ rfl (wp_mono H (fun v9 M9 hq9 => ?_))
          clear H
          obtain ⟨I43, L44, rfl, rfl, H⟩ := hq9
          show wp X B4_lookAtNumber 63 [(4, .int u37), (3, .int u25), (0, .ref h), (1, .int x1), (2, .int x2)] [] (G, I43, L44) 0 0 _
          exact wp_vret (by decide +kernel) rfl (Nat.zero_le _) (Nat.zero_le _) ⟨_, _, rfl, rfl, H⟩
/-! DeafWall$Wall.addTale(II)V -/
set_option maxRecDepth 20000 in
theorem b7_addTale {X : XX} {G : GG} {I : Nat → Nat → Int32} {L : Nat → Nat → Int64} {h : Nat} {x1 : Int32} {x2 : Int32} {Q : (Nat → Nat → Int32) → (Nat → Nat → Int64) → Prop} (ok : OK7 G h) (H : if 6 ≤ (I h 7) then (Q I L) else (if x1 < 1 then (Q I L) else (if 6 < x1 then (Q I L) else (vp_in (I h 7) 6 ∧ (∀ I4, I4 = up2 I (h + 4) (cl (I h 7)) x1 → vp_in (I4 h 7) 6 ∧ (∀ I5, I5 = up2 I4 (h + 5) (cl (I4 h 7)) x2 → ∀ I6, I6 = up2 I5 h 7 ((I5 h 7) + 1) → Q I6 L)))))) : wpV X B7_addTale 0 [(0, .ref h), (1, .int x1), (2, .int x2)] [] G I L Q := by
  refine wp_aload_n (z := 0) (i := 0) (r := (some h)) 0 (by decide +kernel) rfl rfl ?_
  refine wp_getI (idx := 34) (by decide +kernel) fl7_34 rfl ok.1 ?_
  refine wp_bipush (z := 6) (v := 6) (by decide +kernel) (by decide) ?_
  refine wp_icmp_ge (off := 44) (tgt := 50) (by decide +kernel) (by decide) (fun c1 => ?_) (fun c1 => ?_)
  · rw [if_pos c1] at H
    exact wp_vret (by decide +kernel) rfl (Nat.zero_le _) (Nat.zero_le _) ⟨_, _, rfl, rfl, H⟩
  · rw [if_neg c1] at H
    refine wp_iload_n (z := 1) (i := 1) (x := x1) 1 (by decide +kernel) rfl rfl ?_
    refine wp_iconst (z := 1) (v := 1) (by decide +kernel) (by decide) ?_
    refine wp_icmp_lt (off := 39) (tgt := 50) (by decide +kernel) (by decide) (fun c2 => ?_) (fun c2 => ?_)
    · rw [if_pos c2] at H
      exact wp_vret (by decide +kernel) rfl (Nat.zero_le _) (Nat.zero_le _) ⟨_, _, rfl, rfl, H⟩
    · rw [if_neg c2] at H
      refine wp_iload_n (z := 1) (i := 1) (x := x1) 1 (by decide +kernel) rfl rfl ?_
      refine wp_bipush (z := 6) (v := 6) (by decide +kernel) (by decide) ?_
      refine wp_icmp_gt (off := 33) (tgt := 50) (by decide +kernel) (by decide) (fun c3 => ?_) (fun c3 => ?_)
      · rw [if_pos c3] at H
        exact wp_vret (by decide +kernel) rfl (Nat.zero_le _) (Nat.zero_le _) ⟨_, _, rfl, rfl, H⟩
      · rw [if_neg c3] at H
        refine wp_aload_n (z := 0) (i := 0) (r := (some h)) 0 (by decide +kernel) rfl rfl ?_
        refine wp_getS (idx := 37) (q := (h + 4)) (by decide +kernel) fl7_37 rfl ok.1 (okr7_8 ok) ?_
        refine wp_aload_n (z := 0) (i := 0) (r := (some h)) 0 (by decide +kernel) rfl rfl ?_
        refine wp_getI (idx := 34) (by decide +kernel) fl7_34 rfl ok.1 ?_
        refine wp_iload_n (z := 1) (i := 1) (x := x1) 1 (by decide +kernel) rfl rfl ?_
        obtain ⟨o8, H⟩ := H
        refine wp_iast (j := (cl (I h 7))) (by decide +kernel) (oks7_8 ok) o8 rfl ?_
        refine wp_memI (fun I4 eI4 => ?_)
        replace H := H I4 eI4
        refine wp_aload_n (z := 0) (i := 0) (r := (some h)) 0 (by decide +kernel) rfl rfl ?_
        refine wp_getS (idx := 40) (q := (h + 5)) (by decide +kernel) fl7_40 rfl ok.1 (okr7_9 ok) ?_
        refine wp_aload_n (z := 0) (i := 0) (r := (some h)) 0 (by decide +kernel) rfl rfl ?_
        refine wp_getI (idx := 34) (by decide +kernel) fl7_34 rfl ok.1 ?_
        refine wp_iload_n (z := 2) (i := 2) (x := x2) 2 (by decide +kernel) rfl rfl ?_
        obtain ⟨o7, H⟩ := H
        refine wp_iast (j := (cl (I4 h 7))) (by decide +kernel) (oks7_9 ok) o7 rfl ?_
        refine wp_memI (fun I5 eI5 => ?_)
        replace H := H I5 eI5
        refine wp_aload_n (z := 0) (i := 0) (r := (some h)) 0 (by decide +kernel) rfl rfl ?_
        refine wp_dup (by decide +kernel) rfl ?_
        refine wp_getI (idx := 34) (by decide +kernel) fl7_34 rfl ok.1 ?_
        refine wp_iconst (z := 1) (v := 1) (by decide +kernel) (by decide) ?_
        refine wp_iadd (by decide +kernel) ?_
        refine wp_putI (idx := 34) (by decide +kernel) fl7_34 rfl ok.1 ?_
        refine wp_memI (fun I6 eI6 => ?_)
        replace H := H I6 eI6
        exact wp_vret (by decide +kernel) rfl (Nat.zero_le _) (Nat.zero_le _) ⟨_, _, rfl, rfl, H⟩
/-! DeafWall$Reader.readTale()Z -/
set_option maxRecDepth 20000 in
theorem b4_readTale {X : XX} {G : GG} {I : Nat → Nat → Int32} {L : Nat → Nat → Int64} {h : Nat} {Q : Int32 → (Nat → Nat → Int32) → (Nat → Nat → Int64) → Prop} (ok : OK4 G h) (H : wpI X B4_readTale 6 [(0, .ref h), (1, .int 0), (2, .int 0), (3, .int 0)] [] G I L Q) : wpI X B4_readTale 0 [(0, .ref h)] [] G I L Q := by
  refine wp_iconst (z := 0) (v := 0) (by decide +kernel) (by decide) ?_
  refine wp_istore_n (z := 1) (i := 1) (lv' := [(1, .int 0), (0, .ref h)]) (by decide +kernel) rfl (by decide) rfl ?_
  refine wp_iconst (z := 0) (v := 0) (by decide +kernel) (by decide) ?_
  refine wp_istore_n (z := 2) (i := 2) (lv' := [(2, .int 0), (1, .int 0), (0, .ref h)]) (by decide +kernel) rfl (by decide) rfl ?_
  refine wp_iconst (z := 0) (v := 0) (by decide +kernel) (by decide) ?_
  refine wp_istore_n (z := 3) (i := 3) (lv' := [(3, .int 0), (2, .int 0), (1, .int 0), (0, .ref h)]) (by decide +kernel) rfl (by decide) rfl ?_
  exact wp_sub [3, 2, 1, 0] rfl H
set_option maxRecDepth 20000 in
theorem b4_readTale_6 {X : XX} {G : GG} {I : Nat → Nat → Int32} {L : Nat → Nat → Int64} {h : Nat} {x1 : Int32} {x2 : Int32} {x3 : Int32} {Q : Int32 → (Nat → Nat → Int32) → (Nat → Nat → Int64) → Prop} (ok : OK4 G h) (H : if 600 ≤ x3 then (if x2 = (0 : Int32) then (wpI X B4_refuse 0 [(0, .ref h)] [] G I L (fun r5 I3 L4 => (r5 = 0 ∨ r5 = 1) ∧ (Q r5 I3 L4))) else (if (I h 7) = 2 then (wpV X B4_nextToken 0 [(0, .ref h)] [] G I L (fun I8 L9 => ∀ r11, r11 = G.2.1 h 0 → (r11 = none → Q 1 I8 L9) ∧ (∀ q13, r11 = some q13 → ∀ r14, r14 = G.2.1 h 0 → ∃ q15, r14 = some q15 ∧ (OK7 G q15 ∧ (wpV X B7_addTale 0 [(0, .ref q15), (1, .int x2), (2, .int x1)] [] G I8 L9 (fun I18 L19 => Q 1 I18 L19)))))) else (wpI X B4_refuse 0 [(0, .ref h)] [] G I L (fun r23 I21 L22 => (r23 = 0 ∨ r23 = 1) ∧ (Q r23 I21 L22))))) else (if (I h 7) = 1 then (wpV X B4_lookAtNumber 0 [(0, .ref h), (1, .int 4), (2, .int 0)] [] G I L (fun I49 L50 => if x2 < 6 then (∀ u53, u53 = (x1 ||| (((I49 h 10) &&& 1) <<< (x2 &&& 31))) → wpV X B4_nextToken 0 [(0, .ref h)] [] G I49 L50 (fun I54 L55 => wpI X B4_readTale 6 [(0, .ref h), (1, .int u53), (2, .int (x2 + 1)), (3, .int (x3 + 1))] [] G I54 L55 Q)) else (wpV X B4_note 0 [(0, .ref h), (1, .int 3), (2, .int (I49 h 8))] [] G I49 L50 (fun I57 L58 => wpV X B4_nextToken 0 [(0, .ref h)] [] G I57 L58 (fun I60 L61 => wpI X B4_readTale 6 [(0, .ref h), (1, .int x1), (2, .int (x2 + 1)), (3, .int (x3 + 1))] [] G I60 L61 Q))))) else (if x2 = (0 : Int32) then (wpI X B4_refuse 0 [(0, .ref h)] [] G I L (fun r29 I27 L28 => (r29 = 0 ∨ r29 = 1) ∧ (Q r29 I27 L28))) else (if (I h 7) = 2 then (wpV X B4_nextToken 0 [(0, .ref h)] [] G I L (fun I32 L33 => ∀ r35, r35 = G.2.1 h 0 → (r35 = none → Q 1 I32 L33) ∧ (∀ q37, r35 = some q37 → ∀ r38, r38 = G.2.1 h 0 → ∃ q39, r38 = some q39 ∧ (OK7 G q39 ∧ (wpV X B7_addTale 0 [(0, .ref q39), (1, .int x2), (2, .int x1)] [] G I32 L33 (fun I42 L43 => Q 1 I42 L43)))))) else (wpI X B4_refuse 0 [(0, .ref h)] [] G I L (fun r47 I45 L46 => (r47 = 0 ∨ r47 = 1) ∧ (Q r47 I45 L46))))))) : wpI X B4_readTale 6 [(0, .ref h), (1, .int x1), (2, .int x2), (3, .int x3)] [] G I L Q := by
  refine wp_iload_n (z := 3) (i := 3) (x := x3) 3 (by decide +kernel) rfl rfl ?_
  refine wp_sipush (z := 600) (v := 600) (by decide +kernel) (by decide) ?_
  refine wp_icmp_ge (off := 59) (tgt := 69) (by decide +kernel) (by decide) (fun c1 => ?_) (fun c1 => ?_)
  · rw [if_pos c1] at H
    refine wp_iload_n (z := 2) (i := 2) (x := x2) 2 (by decide +kernel) rfl rfl ?_
    refine wp_if_eq (off := 11) (tgt := 81) (by decide +kernel) (by decide) (fun c2 => ?_) (fun c2 => ?_)
    · rw [if_pos c2] at H
      refine wp_aload_n (z := 0) (i := 0) (r := (some h)) 0 (by decide +kernel) rfl rfl ?_
      refine wp_callV (idx := 102) (B2 := B4_refuse) (As := []) (a := h) (st := []) (by decide +kernel) m4_refuse ml4_102 k4_refuse e4_refuse ck4 ok.1 (⟨Nat.le_of_ble_eq_true rfl, Nat.le_of_ble_eq_true rfl⟩ : rOK B4_readTale B4_refuse) rfl (Nat.le_of_ble_eq_true rfl) (Nat.le_of_ble_eq_true rfl) ⟨Nat.le_of_ble_eq_true rfl, Nat.le_of_ble_eq_true rfl⟩ rfl (wp_mono H (fun v9 M9 hq9 => ?_))
      clear H
      obtain ⟨r5, I3, L4, rfl, rfl, H⟩ := hq9
      show wp X B4_readTale 85 [(0, .ref h), (1, .int x1), (2, .int x2), (3, .int x3)] [.int r5] (G, I3, L4) 0 0 _
      obtain ⟨o6, H⟩ := H
      exact wp_zret (by decide +kernel) rfl o6 (Nat.zero_le _) (Nat.zero_le _) ⟨_, _, _, rfl, rfl, H⟩
    · rw [if_neg c2] at H
      refine wp_aload_n (z := 0) (i := 0) (r := (some h)) 0 (by decide +kernel) rfl rfl ?_
      refine wp_getI (idx := 68) (by decide +kernel) fl4_68 rfl ok.1 ?_
      refine wp_iconst (z := 2) (v := 2) (by decide +kernel) (by decide) ?_
      refine wp_icmp_eq (off := 8) (tgt := 86) (by decide +kernel) (by decide) (fun c7 => ?_) (fun c7 => ?_)
      · rw [if_pos c7] at H
        refine wp_aload_n (z := 0) (i := 0) (r := (some h)) 0 (by decide +kernel) rfl rfl ?_
        refine wp_callV (idx := 65) (B2 := B4_nextToken) (As := []) (a := h) (st := []) (by decide +kernel) m4_nextToken ml4_65 k4_nextToken e4_nextToken ck4 ok.1 (⟨Nat.le_of_ble_eq_true rfl, Nat.le_of_ble_eq_true rfl⟩ : rOK B4_readTale B4_nextToken) rfl (Nat.le_of_ble_eq_true rfl) (Nat.le_of_ble_eq_true rfl) ⟨Nat.le_of_ble_eq_true rfl, Nat.le_of_ble_eq_true rfl⟩ rfl (wp_mono H (fun v9 M9 hq9 => ?_))
        clear H
        obtain ⟨I8, L9, rfl, rfl, H⟩ := hq9
        show wp X B4_readTale 90 [(0, .ref h), (1, .int x1), (2, .int x2), (3, .int x3)] [] (G, I8, L9) 0 0 _
        refine wp_aload_n (z := 0) (i := 0) (r := (some h)) 0 (by decide +kernel) rfl rfl ?_
        refine wp_getR (idx := 31) (by decide +kernel) fl4_31 rfl ok.1 ?_
        refine wp_topr (fun r11 er11 => ?_)
        replace H := H r11 er11
        refine wp_ifnull (off := 12) (tgt := 106) (r := r11) (by decide +kernel) (by decide) (fun c12 => ?_) (fun q13 c12 => ?_)
        · replace H := H.1 c12
          subst c12
          show wp X B4_readTale 106 [(0, .ref h), (1, .int x1), (2, .int x2), (3, .int x3)] [] (G, I8, L9) 0 0 _
          refine wp_iconst (z := 1) (v := 1) (by decide +kernel) (by decide) ?_
          exact wp_zret (by decide +kernel) rfl (by decide) (Nat.zero_le _) (Nat.zero_le _) ⟨_, _, _, rfl, rfl, H⟩
        · replace H := H.2 q13 c12
          subst c12
          show wp X B4_readTale 97 [(0, .ref h), (1, .int x1), (2, .int x2), (3, .int x3)] [] (G, I8, L9) 0 0 _
          refine wp_aload_n (z := 0) (i := 0) (r := (some h)) 0 (by decide +kernel) rfl rfl ?_
          refine wp_getR (idx := 31) (by decide +kernel) fl4_31 rfl ok.1 ?_
          refine wp_topr (fun r14 er14 => ?_)
          replace H := H r14 er14
          refine wp_iload_n (z := 2) (i := 2) (x := x2) 2 (by decide +kernel) rfl rfl ?_
          refine wp_iload_n (z := 1) (i := 1) (x := x1) 1 (by decide +kernel) rfl rfl ?_
          obtain ⟨q15, e16, H⟩ := H
          subst e16
          show wp X B4_readTale 103 [(0, .ref h), (1, .int x1), (2, .int x2), (3, .int x3)] [.int x1, .int x2, .ref q15] (G, I8, L9) 0 0 _
          obtain ⟨f17, H⟩ := H
          refine wp_callV (idx := 181) (B2 := B7_addTale) (As := [.int x2, .int x1]) (a := q15) (st := []) (by decide +kernel) m7_addTale ml4_181 k7_addTale e7_addTale ck7 f17.1 (⟨Nat.le_of_ble_eq_true rfl, Nat.le_of_ble_eq_true rfl⟩ : rOK B4_readTale B7_addTale) rfl (Nat.le_of_ble_eq_true rfl) (Nat.le_of_ble_eq_true rfl) ⟨Nat.le_of_ble_eq_true rfl, Nat.le_of_ble_eq_true rfl⟩ rfl (wp_mono H (fun v9 M9 hq9 => ?_))
          clear H
          obtain ⟨I18, L19, rfl, rfl, H⟩ := hq9
          show wp X B4_readTale 106 [(0, .ref h), (1, .int x1), (2, .int x2), (3, .int x3)] [] (G, I18, L19) 0 0 _
          refine wp_iconst (z := 1) (v := 1) (by decide +kernel) (by decide) ?_
          exact wp_zret (by decide +kernel) rfl (by decide) (Nat.zero_le _) (Nat.zero_le _) ⟨_, _, _, rfl, rfl, H⟩
      · rw [if_neg c7] at H
        refine wp_aload_n (z := 0) (i := 0) (r := (some h)) 0 (by decide +kernel) rfl rfl ?_
        refine wp_callV (idx := 102) (B2 := B4_refuse) (As := []) (a := h) (st := []) (by decide +kernel) m4_refuse ml4_102 k4_refuse e4_refuse ck4 ok.1 (⟨Nat.le_of_ble_eq_true rfl, Nat.le_of_ble_eq_true rfl⟩ : rOK B4_readTale B4_refuse) rfl (Nat.le_of_ble_eq_true rfl) (Nat.le_of_ble_eq_true rfl) ⟨Nat.le_of_ble_eq_true rfl, Nat.le_of_ble_eq_true rfl⟩ rfl (wp_mono H (fun v9 M9 hq9 => ?_))
        clear H
        obtain ⟨r23, I21, L22, rfl, rfl, H⟩ := hq9
        show wp X B4_readTale 85 [(0, .ref h), (1, .int x1), (2, .int x2), (3, .int x3)] [.int r23] (G, I21, L22) 0 0 _
        obtain ⟨o24, H⟩ := H
        exact wp_zret (by decide +kernel) rfl o24 (Nat.zero_le _) (Nat.zero_le _) ⟨_, _, _, rfl, rfl, H⟩
  · rw [if_neg c1] at H
    refine wp_aload_n (z := 0) (i := 0) (r := (some h)) 0 (by decide +kernel) rfl rfl ?_
    refine wp_getI (idx := 68) (by decide +kernel) fl4_68 rfl ok.1 ?_
    refine wp_iconst (z := 1) (v := 1) (by decide +kernel) (by decide) ?_
    refine wp_icmp_ne (off := 51) (tgt := 69) (by decide +kernel) (by decide) (fun c25 => ?_) (fun c25 => ?_)
    · rw [if_neg c25] at H
      refine wp_iload_n (z := 2) (i := 2) (x := x2) 2 (by decide +kernel) rfl rfl ?_
      refine wp_if_eq (off := 11) (tgt := 81) (by decide +kernel) (by decide) (fun c26 => ?_) (fun c26 => ?_)
      · rw [if_pos c26] at H
        refine wp_aload_n (z := 0) (i := 0) (r := (some h)) 0 (by decide +kernel) rfl rfl ?_
        refine wp_callV (idx := 102) (B2 := B4_refuse) (As := []) (a := h) (st := []) (by decide +kernel) m4_refuse ml4_102 k4_refuse e4_refuse ck4 ok.1 (⟨Nat.le_of_ble_eq_true rfl, Nat.le_of_ble_eq_true rfl⟩ : rOK B4_readTale B4_refuse) rfl (Nat.le_of_ble_eq_true rfl) (Nat.le_of_ble_eq_true rfl) ⟨Nat.le_of_ble_eq_true rfl, Nat.le_of_ble_eq_true rfl⟩ rfl (wp_mono H (fun v9 M9 hq9 => ?_))
        clear H
        obtain ⟨r29, I27, L28, rfl, rfl, H⟩ := hq9
        show wp X B4_readTale 85 [(0, .ref h), (1, .int x1), (2, .int x2), (3, .int x3)] [.int r29] (G, I27, L28) 0 0 _
        obtain ⟨o30, H⟩ := H
        exact wp_zret (by decide +kernel) rfl o30 (Nat.zero_le _) (Nat.zero_le _) ⟨_, _, _, rfl, rfl, H⟩
      · rw [if_neg c26] at H
        refine wp_aload_n (z := 0) (i := 0) (r := (some h)) 0 (by decide +kernel) rfl rfl ?_
        refine wp_getI (idx := 68) (by decide +kernel) fl4_68 rfl ok.1 ?_
        refine wp_iconst (z := 2) (v := 2) (by decide +kernel) (by decide) ?_
        refine wp_icmp_eq (off := 8) (tgt := 86) (by decide +kernel) (by decide) (fun c31 => ?_) (fun c31 => ?_)
        · rw [if_pos c31] at H
          refine wp_aload_n (z := 0) (i := 0) (r := (some h)) 0 (by decide +kernel) rfl rfl ?_
          refine wp_callV (idx := 65) (B2 := B4_nextToken) (As := []) (a := h) (st := []) (by decide +kernel) m4_nextToken ml4_65 k4_nextToken e4_nextToken ck4 ok.1 (⟨Nat.le_of_ble_eq_true rfl, Nat.le_of_ble_eq_true rfl⟩ : rOK B4_readTale B4_nextToken) rfl (Nat.le_of_ble_eq_true rfl) (Nat.le_of_ble_eq_true rfl) ⟨Nat.le_of_ble_eq_true rfl, Nat.le_of_ble_eq_true rfl⟩ rfl (wp_mono H (fun v9 M9 hq9 => ?_))
          clear H
          obtain ⟨I32, L33, rfl, rfl, H⟩ := hq9
          show wp X B4_readTale 90 [(0, .ref h), (1, .int x1), (2, .int x2), (3, .int x3)] [] (G, I32, L33) 0 0 _
          refine wp_aload_n (z := 0) (i := 0) (r := (some h)) 0 (by decide +kernel) rfl rfl ?_
          refine wp_getR (idx := 31) (by decide +kernel) fl4_31 rfl ok.1 ?_
          refine wp_topr (fun r35 er35 => ?_)
          replace H := H r35 er35
          refine wp_ifnull (off := 12) (tgt := 106) (r := r35) (by decide +kernel) (by decide) (fun c36 => ?_) (fun q37 c36 => ?_)
          · replace H := H.1 c36
            subst c36
            show wp X B4_readTale 106 [(0, .ref h), (1, .int x1), (2, .int x2), (3, .int x3)] [] (G, I32, L33) 0 0 _
            refine wp_iconst (z := 1) (v := 1) (by decide +kernel) (by decide) ?_
            exact wp_zret (by decide +kernel) rfl (by decide) (Nat.zero_le _) (Nat.zero_le _) ⟨_, _, _, rfl, rfl, H⟩
          · replace H := H.2 q37 c36
            subst c36
            show wp X B4_readTale 97 [(0, .ref h), (1, .int x1), (2, .int x2), (3, .int x3)] [] (G, I32, L33) 0 0 _
            refine wp_aload_n (z := 0) (i := 0) (r := (some h)) 0 (by decide +kernel) rfl rfl ?_
            refine wp_getR (idx := 31) (by decide +kernel) fl4_31 rfl ok.1 ?_
            refine wp_topr (fun r38 er38 => ?_)
            replace H := H r38 er38
            refine wp_iload_n (z := 2) (i := 2) (x := x2) 2 (by decide +kernel) rfl rfl ?_
            refine wp_iload_n (z := 1) (i := 1) (x := x1) 1 (by decide +kernel) rfl rfl ?_
            obtain ⟨q39, e40, H⟩ := H
            subst e40
            show wp X B4_readTale 103 [(0, .ref h), (1, .int x1), (2, .int x2), (3, .int x3)] [.int x1, .int x2, .ref q39] (G, I32, L33) 0 0 _
            obtain ⟨f41, H⟩ := H
            refine wp_callV (idx := 181) (B2 := B7_addTale) (As := [.int x2, .int x1]) (a := q39) (st := []) (by decide +kernel) m7_addTale ml4_181 k7_addTale e7_addTale ck7 f41.1 (⟨Nat.le_of_ble_eq_true rfl, Nat.le_of_ble_eq_true rfl⟩ : rOK B4_readTale B7_addTale) rfl (Nat.le_of_ble_eq_true rfl) (Nat.le_of_ble_eq_true rfl) ⟨Nat.le_of_ble_eq_true rfl, Nat.le_of_ble_eq_true rfl⟩ rfl (wp_mono H (fun v9 M9 hq9 => ?_))
            clear H
            obtain ⟨I42, L43, rfl, rfl, H⟩ := hq9
            show wp X B4_readTale 106 [(0, .ref h), (1, .int x1), (2, .int x2), (3, .int x3)] [] (G, I42, L43) 0 0 _
            refine wp_iconst (z := 1) (v := 1) (by decide +kernel) (by decide) ?_
            exact wp_zret (by decide +kernel) rfl (by decide) (Nat.zero_le _) (Nat.zero_le _) ⟨_, _, _, rfl, rfl, H⟩
        · rw [if_neg c31] at H
          refine wp_aload_n (z := 0) (i := 0) (r := (some h)) 0 (by decide +kernel) rfl rfl ?_
          refine wp_callV (idx := 102) (B2 := B4_refuse) (As := []) (a := h) (st := []) (by decide +kernel) m4_refuse ml4_102 k4_refuse e4_refuse ck4 ok.1 (⟨Nat.le_of_ble_eq_true rfl, Nat.le_of_ble_eq_true rfl⟩ : rOK B4_readTale B4_refuse) rfl (Nat.le_of_ble_eq_true rfl) (Nat.le_of_ble_eq_true rfl) ⟨Nat.le_of_ble_eq_true rfl, Nat.le_of_ble_eq_true rfl⟩ rfl (wp_mono H (fun v9 M9 hq9 => ?_))
          clear H
          obtain ⟨r47, I45, L46, rfl, rfl, H⟩ := hq9
          show wp X B4_readTale 85 [(0, .ref h), (1, .int x1), (2, .int x2), (3, .int x3)] [.int r47] (G, I45, L46) 0 0 _
          obtain ⟨o48, H⟩ := H
          exact wp_zret (by decide +kernel) rfl o48 (Nat.zero_le _) (Nat.zero_le _) ⟨_, _, _, rfl, rfl, H⟩
    · rw [if_pos c25] at H
      refine wp_aload_n (z := 0) (i := 0) (r := (some h)) 0 (by decide +kernel) rfl rfl ?_
      refine wp_iconst (z := 4) (v := 4) (by decide +kernel) (by decide) ?_
      refine wp_iconst (z := 0) (v := 0) (by decide +kernel) (by decide) ?_
      refine wp_callV (idx := 116) (B2 := B4_lookAtNumber) (As := [.int 4, .int 0]) (a := h) (st := []) (by decide +kernel) m4_lookAtNumber ml4_116 k4_lookAtNumber e4_lookAtNumber ck4 ok.1 (⟨Nat.le_of_ble_eq_true rfl, Nat.le_of_ble_eq_true rfl⟩ : rOK B4_readTale B4_lookAtNumber) rfl (Nat.le_of_ble_eq_true rfl) (Nat.le_of_ble_eq_true rfl) ⟨Nat.le_of_ble_eq_true rfl, Nat.le_of_ble_eq_true rfl⟩ rfl (wp_mono H (fun v9 M9 hq9 => ?_))
      clear H
      obtain ⟨I49, L50, rfl, rfl, H⟩ := hq9
      show wp X B4_readTale 27 [(0, .ref h), (1, .int x1), (2, .int x2), (3, .int x3)] [] (G, I49, L50) 0 0 _
      refine wp_iload_n (z := 2) (i := 2) (x := x2) 2 (by decide +kernel) rfl rfl ?_
      refine wp_bipush (z := 6) (v := 6) (by decide +kernel) (by decide) ?_
      refine wp_icmp_lt (off := 15) (tgt := 45) (by decide +kernel) (by decide) (fun c52 => ?_) (fun c52 => ?_)
      · rw [if_pos c52] at H
        refine wp_iload_n (z := 1) (i := 1) (x := x1) 1 (by decide +kernel) rfl rfl ?_
        refine wp_aload_n (z := 0) (i := 0) (r := (some h)) 0 (by decide +kernel) rfl rfl ?_
        refine wp_getI (idx := 95) (by decide +kernel) fl4_95 rfl ok.1 ?_
        refine wp_iconst (z := 1) (v := 1) (by decide +kernel) (by decide) ?_
        refine wp_iand (by decide +kernel) ?_
        refine wp_iload_n (z := 2) (i := 2) (x := x2) 2 (by decide +kernel) rfl rfl ?_
        refine wp_ishl (by decide +kernel) ?_
        refine wp_ior (by decide +kernel) ?_
        refine wp_topi (fun u53 eu53 => ?_)
        replace H := H u53 eu53
        refine wp_istore_n (z := 1) (i := 1) (lv' := [(1, .int u53), (0, .ref h), (2, .int x2), (3, .int x3)]) (by decide +kernel) rfl (by decide) rfl ?_
        refine wp_iinc (i := 2) (z := 1) (v := 1) (lv' := [(2, .int (x2 + 1)), (1, .int u53), (0, .ref h), (3, .int x3)]) 2 (by decide +kernel) rfl (by decide) (by decide) rfl ?_
        refine wp_aload_n (z := 0) (i := 0) (r := (some h)) 2 (by decide +kernel) rfl rfl ?_
        refine wp_callV (idx := 65) (B2 := B4_nextToken) (As := []) (a := h) (st := []) (by decide +kernel) m4_nextToken ml4_65 k4_nextToken e4_nextToken ck4 ok.1 (⟨Nat.le_of_ble_eq_true rfl, Nat.le_of_ble_eq_true rfl⟩ : rOK B4_readTale B4_nextToken) rfl (Nat.le_of_ble_eq_true rfl) (Nat.le_of_ble_eq_true rfl) ⟨Nat.le_of_ble_eq_true rfl, Nat.le_of_ble_eq_true rfl⟩ rfl (wp_mono H (fun v9 M9 hq9 => ?_))
        clear H
        obtain ⟨I54, L55, rfl, rfl, H⟩ := hq9
        show wp X B4_readTale 63 [(2, .int (x2 + 1)), (1, .int u53), (0, .ref h), (3, .int x3)] [] (G, I54, L55) 0 0 _
        refine wp_iinc (i := 3) (z := 1) (v := 1) (lv' := [(3, .int (x3 + 1)), (2, .int (x2 + 1)), (1, .int u53), (0, .ref h)]) 3 (by decide +kernel) rfl (by decide) (by decide) rfl ?_
        refine wp_goto (off := -60) (tgt := 6) (by decide +kernel) (by decide) ?_
        exact wp_sub [3, 2, 1, 0] rfl H
      · rw [if_neg c52] at H
        refine wp_aload_n (z := 0) (i := 0) (r := (some h)) 0 (by decide +kernel) rfl rfl ?_
        refine wp_iconst (z := 3) (v := 3) (by decide +kernel) (by decide) ?_
        refine wp_aload_n (z := 0) (i := 0) (r := (some h)) 0 (by decide +kernel) rfl rfl ?_
        refine wp_getI (idx := 83) (by decide +kernel) fl4_83 rfl ok.1 ?_
        refine wp_callV (idx := 79) (B2 := B4_note) (As := [.int 3, .int (I49 h 8)]) (a := h) (st := []) (by decide +kernel) m4_note ml4_79 k4_note e4_note ck4 ok.1 (⟨Nat.le_of_ble_eq_true rfl, Nat.le_of_ble_eq_true rfl⟩ : rOK B4_readTale B4_note) rfl (Nat.le_of_ble_eq_true rfl) (Nat.le_of_ble_eq_true rfl) ⟨Nat.le_of_ble_eq_true rfl, Nat.le_of_ble_eq_true rfl⟩ rfl (wp_mono H (fun v9 M9 hq9 => ?_))
        clear H
        obtain ⟨I57, L58, rfl, rfl, H⟩ := hq9
        show wp X B4_readTale 42 [(0, .ref h), (1, .int x1), (2, .int x2), (3, .int x3)] [] (G, I57, L58) 0 0 _
        refine wp_goto (off := 14) (tgt := 56) (by decide +kernel) (by decide) ?_
        refine wp_iinc (i := 2) (z := 1) (v := 1) (lv' := [(2, .int (x2 + 1)), (0, .ref h), (1, .int x1), (3, .int x3)]) 2 (by decide +kernel) rfl (by decide) (by decide) rfl ?_
        refine wp_aload_n (z := 0) (i := 0) (r := (some h)) 1 (by decide +kernel) rfl rfl ?_
        refine wp_callV (idx := 65) (B2 := B4_nextToken) (As := []) (a := h) (st := []) (by decide +kernel) m4_nextToken ml4_65 k4_nextToken e4_nextToken ck4 ok.1 (⟨Nat.le_of_ble_eq_true rfl, Nat.le_of_ble_eq_true rfl⟩ : rOK B4_readTale B4_nextToken) rfl (Nat.le_of_ble_eq_true rfl) (Nat.le_of_ble_eq_true rfl) ⟨Nat.le_of_ble_eq_true rfl, Nat.le_of_ble_eq_true rfl⟩ rfl (wp_mono H (fun v9 M9 hq9 => ?_))
        clear H
        obtain ⟨I60, L61, rfl, rfl, H⟩ := hq9
        show wp X B4_readTale 63 [(2, .int (x2 + 1)), (0, .ref h), (1, .int x1), (3, .int x3)] [] (G, I60, L61) 0 0 _
        refine wp_iinc (i := 3) (z := 1) (v := 1) (lv' := [(3, .int (x3 + 1)), (2, .int (x2 + 1)), (0, .ref h), (1, .int x1)]) 3 (by decide +kernel) rfl (by decide) (by decide) rfl ?_
        refine wp_goto (off := -60) (tgt := 6) (by decide +kernel) (by decide) ?_
        exact wp_sub [2, 3, 1, 0] rfl H
/-! DeafWall$Lines.addLine(III)V -/
set_option maxRecDepth 20000 in
theorem b2_addLine {X : XX} {G : GG} {I : Nat → Nat → Int32} {L : Nat → Nat → Int64} {h : Nat} {nh : Nat} {x1 : Int32} {x2 : Int32} {x3 : Int32} {Q : (Nat → Nat → Int32) → (Nat → Nat → Int64) → Prop} (ok : OK2 G h nh) (H : if (Int32.ofNat nh) ≤ (I h 0) then (Q I L) else (if (Int32.ofNat nh) ≤ (I h 0) then (Q I L) else (if (Int32.ofNat nh) ≤ (I h 0) then (Q I L) else (vp_in (I h 0) nh ∧ (∀ I4, I4 = up2 I (h + 1) (cl (I h 0)) x1 → vp_in (I4 h 0) nh ∧ (∀ I5, I5 = up2 I4 (h + 2) (cl (I4 h 0)) x2 → vp_in (I5 h 0) nh ∧ (∀ I6, I6 = up2 I5 (h + 3) (cl (I5 h 0)) x3 → ∀ I7, I7 = up2 I6 h 0 ((I6 h 0) + 1) → Q I7 L))))))) : wpV X B2_addLine 0 [(0, .ref h), (1, .int x1), (2, .int x2), (3, .int x3)] [] G I L Q := by
  refine wp_aload_n (z := 0) (i := 0) (r := (some h)) 0 (by decide +kernel) rfl rfl ?_
  refine wp_getI (idx := 9) (by decide +kernel) fl2_9 rfl ok.1 ?_
  refine wp_aload_n (z := 0) (i := 0) (r := (some h)) 0 (by decide +kernel) rfl rfl ?_
  refine wp_getS (idx := 15) (q := (h + 1)) (by decide +kernel) fl2_15 rfl ok.1 (okr2_1 ok) ?_
  refine wp_alen (v := (Int32.ofNat nh)) (by decide +kernel) (oks2_1 ok) (by decide) rfl ?_
  refine wp_icmp_ge (off := 67) (tgt := 76) (by decide +kernel) (by decide) (fun c1 => ?_) (fun c1 => ?_)
  · rw [if_pos c1] at H
    exact wp_vret (by decide +kernel) rfl (Nat.zero_le _) (Nat.zero_le _) ⟨_, _, rfl, rfl, H⟩
  · rw [if_neg c1] at H
    refine wp_aload_n (z := 0) (i := 0) (r := (some h)) 0 (by decide +kernel) rfl rfl ?_
    refine wp_getI (idx := 9) (by decide +kernel) fl2_9 rfl ok.1 ?_
    refine wp_aload_n (z := 0) (i := 0) (r := (some h)) 0 (by decide +kernel) rfl rfl ?_
    refine wp_getS (idx := 19) (q := (h + 2)) (by decide +kernel) fl2_19 rfl ok.1 (okr2_2 ok) ?_
    refine wp_alen (v := (Int32.ofNat nh)) (by decide +kernel) (oks2_2 ok) (by decide) rfl ?_
    refine wp_icmp_ge (off := 55) (tgt := 76) (by decide +kernel) (by decide) (fun c2 => ?_) (fun c2 => ?_)
    · rw [if_pos c2] at H
      exact wp_vret (by decide +kernel) rfl (Nat.zero_le _) (Nat.zero_le _) ⟨_, _, rfl, rfl, H⟩
    · rw [if_neg c2] at H
      refine wp_aload_n (z := 0) (i := 0) (r := (some h)) 0 (by decide +kernel) rfl rfl ?_
      refine wp_getI (idx := 9) (by decide +kernel) fl2_9 rfl ok.1 ?_
      refine wp_aload_n (z := 0) (i := 0) (r := (some h)) 0 (by decide +kernel) rfl rfl ?_
      refine wp_getS (idx := 22) (q := (h + 3)) (by decide +kernel) fl2_22 rfl ok.1 (okr2_3 ok) ?_
      refine wp_alen (v := (Int32.ofNat nh)) (by decide +kernel) (oks2_3 ok) (by decide) rfl ?_
      refine wp_icmp_ge (off := 43) (tgt := 76) (by decide +kernel) (by decide) (fun c3 => ?_) (fun c3 => ?_)
      · rw [if_pos c3] at H
        exact wp_vret (by decide +kernel) rfl (Nat.zero_le _) (Nat.zero_le _) ⟨_, _, rfl, rfl, H⟩
      · rw [if_neg c3] at H
        refine wp_aload_n (z := 0) (i := 0) (r := (some h)) 0 (by decide +kernel) rfl rfl ?_
        refine wp_getS (idx := 15) (q := (h + 1)) (by decide +kernel) fl2_15 rfl ok.1 (okr2_1 ok) ?_
        refine wp_aload_n (z := 0) (i := 0) (r := (some h)) 0 (by decide +kernel) rfl rfl ?_
        refine wp_getI (idx := 9) (by decide +kernel) fl2_9 rfl ok.1 ?_
        refine wp_iload_n (z := 1) (i := 1) (x := x1) 1 (by decide +kernel) rfl rfl ?_
        obtain ⟨o10, H⟩ := H
        refine wp_iast (j := (cl (I h 0))) (by decide +kernel) (oks2_1 ok) o10 rfl ?_
        refine wp_memI (fun I4 eI4 => ?_)
        replace H := H I4 eI4
        refine wp_aload_n (z := 0) (i := 0) (r := (some h)) 0 (by decide +kernel) rfl rfl ?_
        refine wp_getS (idx := 19) (q := (h + 2)) (by decide +kernel) fl2_19 rfl ok.1 (okr2_2 ok) ?_
        refine wp_aload_n (z := 0) (i := 0) (r := (some h)) 0 (by decide +kernel) rfl rfl ?_
        refine wp_getI (idx := 9) (by decide +kernel) fl2_9 rfl ok.1 ?_
        refine wp_iload_n (z := 2) (i := 2) (x := x2) 2 (by decide +kernel) rfl rfl ?_
        obtain ⟨o9, H⟩ := H
        refine wp_iast (j := (cl (I4 h 0))) (by decide +kernel) (oks2_2 ok) o9 rfl ?_
        refine wp_memI (fun I5 eI5 => ?_)
        replace H := H I5 eI5
        refine wp_aload_n (z := 0) (i := 0) (r := (some h)) 0 (by decide +kernel) rfl rfl ?_
        refine wp_getS (idx := 22) (q := (h + 3)) (by decide +kernel) fl2_22 rfl ok.1 (okr2_3 ok) ?_
        refine wp_aload_n (z := 0) (i := 0) (r := (some h)) 0 (by decide +kernel) rfl rfl ?_
        refine wp_getI (idx := 9) (by decide +kernel) fl2_9 rfl ok.1 ?_
        refine wp_iload_n (z := 3) (i := 3) (x := x3) 3 (by decide +kernel) rfl rfl ?_
        obtain ⟨o8, H⟩ := H
        refine wp_iast (j := (cl (I5 h 0))) (by decide +kernel) (oks2_3 ok) o8 rfl ?_
        refine wp_memI (fun I6 eI6 => ?_)
        replace H := H I6 eI6
        refine wp_aload_n (z := 0) (i := 0) (r := (some h)) 0 (by decide +kernel) rfl rfl ?_
        refine wp_dup (by decide +kernel) rfl ?_
        refine wp_getI (idx := 9) (by decide +kernel) fl2_9 rfl ok.1 ?_
        refine wp_iconst (z := 1) (v := 1) (by decide +kernel) (by decide) ?_
        refine wp_iadd (by decide +kernel) ?_
        refine wp_putI (idx := 9) (by decide +kernel) fl2_9 rfl ok.1 ?_
        refine wp_memI (fun I7 eI7 => ?_)
        replace H := H I7 eI7
        exact wp_vret (by decide +kernel) rfl (Nat.zero_le _) (Nat.zero_le _) ⟨_, _, rfl, rfl, H⟩
/-! DeafWall$Wall.resize(II)V -/
set_option maxRecDepth 20000 in
theorem b7_resize {X : XX} {G : GG} {I : Nat → Nat → Int32} {L : Nat → Nat → Int64} {h : Nat} {x1 : Int32} {x2 : Int32} {Q : (Nat → Nat → Int32) → (Nat → Nat → Int64) → Prop} (ok : OK7 G h) (H : if x1 < 1 then (Q I L) else (if 8 < x1 then (Q I L) else (if x2 < 1 then (Q I L) else (if 4 < x2 then (Q I L) else (∀ I5, I5 = up2 I h 0 x1 → ∀ I6, I6 = up2 I5 h 1 x2 → Q I6 L))))) : wpV X B7_resize 0 [(0, .ref h), (1, .int x1), (2, .int x2)] [] G I L Q := by
  refine wp_iload_n (z := 1) (i := 1) (x := x1) 1 (by decide +kernel) rfl rfl ?_
  refine wp_iconst (z := 1) (v := 1) (by decide +kernel) (by decide) ?_
  refine wp_icmp_lt (off := 29) (tgt := 31) (by decide +kernel) (by decide) (fun c1 => ?_) (fun c1 => ?_)
  · rw [if_pos c1] at H
    exact wp_vret (by decide +kernel) rfl (Nat.zero_le _) (Nat.zero_le _) ⟨_, _, rfl, rfl, H⟩
  · rw [if_neg c1] at H
    refine wp_iload_n (z := 1) (i := 1) (x := x1) 1 (by decide +kernel) rfl rfl ?_
    refine wp_bipush (z := 8) (v := 8) (by decide +kernel) (by decide) ?_
    refine wp_icmp_gt (off := 23) (tgt := 31) (by decide +kernel) (by decide) (fun c2 => ?_) (fun c2 => ?_)
    · rw [if_pos c2] at H
      exact wp_vret (by decide +kernel) rfl (Nat.zero_le _) (Nat.zero_le _) ⟨_, _, rfl, rfl, H⟩
    · rw [if_neg c2] at H
      refine wp_iload_n (z := 2) (i := 2) (x := x2) 2 (by decide +kernel) rfl rfl ?_
      refine wp_iconst (z := 1) (v := 1) (by decide +kernel) (by decide) ?_
      refine wp_icmp_lt (off := 18) (tgt := 31) (by decide +kernel) (by decide) (fun c3 => ?_) (fun c3 => ?_)
      · rw [if_pos c3] at H
        exact wp_vret (by decide +kernel) rfl (Nat.zero_le _) (Nat.zero_le _) ⟨_, _, rfl, rfl, H⟩
      · rw [if_neg c3] at H
        refine wp_iload_n (z := 2) (i := 2) (x := x2) 2 (by decide +kernel) rfl rfl ?_
        refine wp_iconst (z := 4) (v := 4) (by decide +kernel) (by decide) ?_
        refine wp_icmp_gt (off := 13) (tgt := 31) (by decide +kernel) (by decide) (fun c4 => ?_) (fun c4 => ?_)
        · rw [if_pos c4] at H
          exact wp_vret (by decide +kernel) rfl (Nat.zero_le _) (Nat.zero_le _) ⟨_, _, rfl, rfl, H⟩
        · rw [if_neg c4] at H
          refine wp_aload_n (z := 0) (i := 0) (r := (some h)) 0 (by decide +kernel) rfl rfl ?_
          refine wp_iload_n (z := 1) (i := 1) (x := x1) 1 (by decide +kernel) rfl rfl ?_
          refine wp_putI (idx := 9) (by decide +kernel) fl7_9 rfl ok.1 ?_
          refine wp_memI (fun I5 eI5 => ?_)
          replace H := H I5 eI5
          refine wp_aload_n (z := 0) (i := 0) (r := (some h)) 0 (by decide +kernel) rfl rfl ?_
          refine wp_iload_n (z := 2) (i := 2) (x := x2) 2 (by decide +kernel) rfl rfl ?_
          refine wp_putI (idx := 15) (by decide +kernel) fl7_15 rfl ok.1 ?_
          refine wp_memI (fun I6 eI6 => ?_)
          replace H := H I6 eI6
          exact wp_vret (by decide +kernel) rfl (Nat.zero_le _) (Nat.zero_le _) ⟨_, _, rfl, rfl, H⟩
/-! DeafWall$Wall.deaden(II)V -/
set_option maxRecDepth 20000 in
theorem b7_deaden {X : XX} {G : GG} {I : Nat → Nat → Int32} {L : Nat → Nat → Int64} {h : Nat} {x1 : Int32} {x2 : Int32} {Q : (Nat → Nat → Int32) → (Nat → Nat → Int64) → Prop} (ok : OK7 G h) (H : if x1 < (0 : Int32) then (Q I L) else (if 32 ≤ x1 then (Q I L) else (vp_in x1 32 ∧ (∀ I3, I3 = up2 I (h + 1) (cl x1) x2 → Q I3 L)))) : wpV X B7_deaden 0 [(0, .ref h), (1, .int x1), (2, .int x2)] [] G I L Q := by
  refine wp_iload_n (z := 1) (i := 1) (x := x1) 1 (by decide +kernel) rfl rfl ?_
  refine wp_if_lt (off := 16) (tgt := 17) (by decide +kernel) (by decide) (fun c1 => ?_) (fun c1 => ?_)
  · rw [if_pos c1] at H
    exact wp_vret (by decide +kernel) rfl (Nat.zero_le _) (Nat.zero_le _) ⟨_, _, rfl, rfl, H⟩
  · rw [if_neg c1] at H
    refine wp_iload_n (z := 1) (i := 1) (x := x1) 1 (by decide +kernel) rfl rfl ?_
    refine wp_bipush (z := 32) (v := 32) (by decide +kernel) (by decide) ?_
    refine wp_icmp_ge (off := 10) (tgt := 17) (by decide +kernel) (by decide) (fun c2 => ?_) (fun c2 => ?_)
    · rw [if_pos c2] at H
      exact wp_vret (by decide +kernel) rfl (Nat.zero_le _) (Nat.zero_le _) ⟨_, _, rfl, rfl, H⟩
    · rw [if_neg c2] at H
      refine wp_aload_n (z := 0) (i := 0) (r := (some h)) 0 (by decide +kernel) rfl rfl ?_
      refine wp_getS (idx := 21) (q := (h + 1)) (by decide +kernel) fl7_21 rfl ok.1 (okr7_3 ok) ?_
      refine wp_iload_n (z := 1) (i := 1) (x := x1) 1 (by decide +kernel) rfl rfl ?_
      refine wp_iload_n (z := 2) (i := 2) (x := x2) 2 (by decide +kernel) rfl rfl ?_
      obtain ⟨o4, H⟩ := H
      refine wp_iast (j := (cl x1)) (by decide +kernel) (oks7_3 ok) o4 rfl ?_
      refine wp_memI (fun I3 eI3 => ?_)
      replace H := H I3 eI3
      exact wp_vret (by decide +kernel) rfl (Nat.zero_le _) (Nat.zero_le _) ⟨_, _, rfl, rfl, H⟩
/-! DeafWall$Wall.putSource(I)V -/
set_option maxRecDepth 20000 in
theorem b7_putSource {X : XX} {G : GG} {I : Nat → Nat → Int32} {L : Nat → Nat → Int64} {h : Nat} {x1 : Int32} {Q : (Nat → Nat → Int32) → (Nat → Nat → Int64) → Prop} (ok : OK7 G h) (H : if x1 < (0 : Int32) then (Q I L) else (if 32 ≤ x1 then (Q I L) else (∀ I3, I3 = up2 I h 2 x1 → Q I3 L))) : wpV X B7_putSource 0 [(0, .ref h), (1, .int x1)] [] G I L Q := by
  refine wp_iload_n (z := 1) (i := 1) (x := x1) 1 (by decide +kernel) rfl rfl ?_
  refine wp_if_lt (off := 14) (tgt := 15) (by decide +kernel) (by decide) (fun c1 => ?_) (fun c1 => ?_)
  · rw [if_pos c1] at H
    exact wp_vret (by decide +kernel) rfl (Nat.zero_le _) (Nat.zero_le _) ⟨_, _, rfl, rfl, H⟩
  · rw [if_neg c1] at H
    refine wp_iload_n (z := 1) (i := 1) (x := x1) 1 (by decide +kernel) rfl rfl ?_
    refine wp_bipush (z := 32) (v := 32) (by decide +kernel) (by decide) ?_
    refine wp_icmp_ge (off := 8) (tgt := 15) (by decide +kernel) (by decide) (fun c2 => ?_) (fun c2 => ?_)
    · rw [if_pos c2] at H
      exact wp_vret (by decide +kernel) rfl (Nat.zero_le _) (Nat.zero_le _) ⟨_, _, rfl, rfl, H⟩
    · rw [if_neg c2] at H
      refine wp_aload_n (z := 0) (i := 0) (r := (some h)) 0 (by decide +kernel) rfl rfl ?_
      refine wp_iload_n (z := 1) (i := 1) (x := x1) 1 (by decide +kernel) rfl rfl ?_
      refine wp_putI (idx := 18) (by decide +kernel) fl7_18 rfl ok.1 ?_
      refine wp_memI (fun I3 eI3 => ?_)
      replace H := H I3 eI3
      exact wp_vret (by decide +kernel) rfl (Nat.zero_le _) (Nat.zero_le _) ⟨_, _, rfl, rfl, H⟩
/-! DeafWall$Wall.addFeeler(II)V -/
set_option maxRecDepth 20000 in
theorem b7_addFeeler {X : XX} {G : GG} {I : Nat → Nat → Int32} {L : Nat → Nat → Int64} {h : Nat} {x1 : Int32} {x2 : Int32} {Q : (Nat → Nat → Int32) → (Nat → Nat → Int64) → Prop} (ok : OK7 G h) (H : if 6 ≤ (I h 4) then (Q I L) else (if x1 < (0 : Int32) then (Q I L) else (if 32 ≤ x1 then (Q I L) else (vp_in (I h 4) 6 ∧ (∀ I4, I4 = up2 I (h + 2) (cl (I h 4)) x1 → vp_in (I4 h 4) 6 ∧ (∀ I5, I5 = up2 I4 (h + 3) (cl (I4 h 4)) x2 → ∀ I6, I6 = up2 I5 h 4 ((I5 h 4) + 1) → Q I6 L)))))) : wpV X B7_addFeeler 0 [(0, .ref h), (1, .int x1), (2, .int x2)] [] G I L Q := by
  refine wp_aload_n (z := 0) (i := 0) (r := (some h)) 0 (by decide +kernel) rfl rfl ?_
  refine wp_getI (idx := 25) (by decide +kernel) fl7_25 rfl ok.1 ?_
  refine wp_bipush (z := 6) (v := 6) (by decide +kernel) (by decide) ?_
  refine wp_icmp_ge (off := 43) (tgt := 49) (by decide +kernel) (by decide) (fun c1 => ?_) (fun c1 => ?_)
  · rw [if_pos c1] at H
    exact wp_vret (by decide +kernel) rfl (Nat.zero_le _) (Nat.zero_le _) ⟨_, _, rfl, rfl, H⟩
  · rw [if_neg c1] at H
    refine wp_iload_n (z := 1) (i := 1) (x := x1) 1 (by decide +kernel) rfl rfl ?_
    refine wp_if_lt (off := 39) (tgt := 49) (by decide +kernel) (by decide) (fun c2 => ?_) (fun c2 => ?_)
    · rw [if_pos c2] at H
      exact wp_vret (by decide +kernel) rfl (Nat.zero_le _) (Nat.zero_le _) ⟨_, _, rfl, rfl, H⟩
    · rw [if_neg c2] at H
      refine wp_iload_n (z := 1) (i := 1) (x := x1) 1 (by decide +kernel) rfl rfl ?_
      refine wp_bipush (z := 32) (v := 32) (by decide +kernel) (by decide) ?_
      refine wp_icmp_ge (off := 33) (tgt := 49) (by decide +kernel) (by decide) (fun c3 => ?_) (fun c3 => ?_)
      · rw [if_pos c3] at H
        exact wp_vret (by decide +kernel) rfl (Nat.zero_le _) (Nat.zero_le _) ⟨_, _, rfl, rfl, H⟩
      · rw [if_neg c3] at H
        refine wp_aload_n (z := 0) (i := 0) (r := (some h)) 0 (by decide +kernel) rfl rfl ?_
        refine wp_getS (idx := 28) (q := (h + 2)) (by decide +kernel) fl7_28 rfl ok.1 (okr7_5 ok) ?_
        refine wp_aload_n (z := 0) (i := 0) (r := (some h)) 0 (by decide +kernel) rfl rfl ?_
        refine wp_getI (idx := 25) (by decide +kernel) fl7_25 rfl ok.1 ?_
        refine wp_iload_n (z := 1) (i := 1) (x := x1) 1 (by decide +kernel) rfl rfl ?_
        obtain ⟨o8, H⟩ := H
        refine wp_iast (j := (cl (I h 4))) (by decide +kernel) (oks7_5 ok) o8 rfl ?_
        refine wp_memI (fun I4 eI4 => ?_)
        replace H := H I4 eI4
        refine wp_aload_n (z := 0) (i := 0) (r := (some h)) 0 (by decide +kernel) rfl rfl ?_
        refine wp_getS (idx := 31) (q := (h + 3)) (by decide +kernel) fl7_31 rfl ok.1 (okr7_6 ok) ?_
        refine wp_aload_n (z := 0) (i := 0) (r := (some h)) 0 (by decide +kernel) rfl rfl ?_
        refine wp_getI (idx := 25) (by decide +kernel) fl7_25 rfl ok.1 ?_
        refine wp_iload_n (z := 2) (i := 2) (x := x2) 2 (by decide +kernel) rfl rfl ?_
        obtain ⟨o7, H⟩ := H
        refine wp_iast (j := (cl (I4 h 4))) (by decide +kernel) (oks7_6 ok) o7 rfl ?_
        refine wp_memI (fun I5 eI5 => ?_)
        replace H := H I5 eI5
        refine wp_aload_n (z := 0) (i := 0) (r := (some h)) 0 (by decide +kernel) rfl rfl ?_
        refine wp_dup (by decide +kernel) rfl ?_
        refine wp_getI (idx := 25) (by decide +kernel) fl7_25 rfl ok.1 ?_
        refine wp_iconst (z := 1) (v := 1) (by decide +kernel) (by decide) ?_
        refine wp_iadd (by decide +kernel) ?_
        refine wp_putI (idx := 25) (by decide +kernel) fl7_25 rfl ok.1 ?_
        refine wp_memI (fun I6 eI6 => ?_)
        replace H := H I6 eI6
        exact wp_vret (by decide +kernel) rfl (Nat.zero_le _) (Nat.zero_le _) ⟨_, _, rfl, rfl, H⟩
/-! DeafWall$Reader.keepWallLine(III)V -/
set_option maxRecDepth 20000 in
theorem b4_keepWallLine {X : XX} {G : GG} {I : Nat → Nat → Int32} {L : Nat → Nat → Int64} {h : Nat} {x1 : Int32} {x2 : Int32} {x3 : Int32} {Q : (Nat → Nat → Int32) → (Nat → Nat → Int64) → Prop} (ok : OK4 G h) (H : if x1 = (0 : Int32) then (∀ r27, r27 = G.2.1 h 0 → ∃ q28, r27 = some q28 ∧ (OK7 G q28 ∧ (wpV X B7_resize 0 [(0, .ref q28), (1, .int x2), (2, .int x3)] [] G I L (fun I31 L32 => Q I31 L32)))) else (∀ I2, I2 = up2 I h 14 (mx (I h 14) x2) → if x1 = 1 then (∀ r20, r20 = G.2.1 h 0 → ∃ q21, r20 = some q21 ∧ (OK7 G q21 ∧ (wpV X B7_deaden 0 [(0, .ref q21), (1, .int x2), (2, .int x3)] [] G I2 L (fun I24 L25 => Q I24 L25)))) else (if x1 = 2 then (∀ r13, r13 = G.2.1 h 0 → ∃ q14, r13 = some q14 ∧ (OK7 G q14 ∧ (wpV X B7_putSource 0 [(0, .ref q14), (1, .int x2)] [] G I2 L (fun I17 L18 => Q I17 L18)))) else (if x1 = 3 then (∀ r6, r6 = G.2.1 h 0 → ∃ q7, r6 = some q7 ∧ (OK7 G q7 ∧ (wpV X B7_addFeeler 0 [(0, .ref q7), (1, .int x2), (2, .int x3)] [] G I2 L (fun I10 L11 => Q I10 L11)))) else (Q I2 L))))) : wpV X B4_keepWallLine 0 [(0, .ref h), (1, .int x1), (2, .int x2), (3, .int x3)] [] G I L Q := by
  refine wp_iload_n (z := 1) (i := 1) (x := x1) 1 (by decide +kernel) rfl rfl ?_
  refine wp_if_ne (off := 13) (tgt := 14) (by decide +kernel) (by decide) (fun c1 => ?_) (fun c1 => ?_)
  · rw [if_neg c1] at H
    refine wp_aload_n (z := 0) (i := 0) (r := (some h)) 0 (by decide +kernel) rfl rfl ?_
    refine wp_aload_n (z := 0) (i := 0) (r := (some h)) 0 (by decide +kernel) rfl rfl ?_
    refine wp_getI (idx := 59) (by decide +kernel) fl4_59 rfl ok.1 ?_
    refine wp_iload_n (z := 2) (i := 2) (x := x2) 2 (by decide +kernel) rfl rfl ?_
    refine wp_mmax (idx := 193) (by decide +kernel) (in_g (List.mem_of_getElem? (i := 645) (by decide +kernel)) rfl) (in_g (List.mem_of_getElem? (i := 646) (by decide +kernel)) rfl) (in_g (List.mem_of_getElem? (i := 127) (by decide +kernel)) rfl) (in_g (List.mem_of_getElem? (i := 647) (by decide +kernel)) (by decide +kernel)) (Nat.le_of_ble_eq_true rfl) (Nat.le_of_ble_eq_true rfl) (Nat.le_of_ble_eq_true rfl) (Nat.le_of_ble_eq_true rfl) ?_
    refine wp_putI (idx := 59) (by decide +kernel) fl4_59 rfl ok.1 ?_
    refine wp_memI (fun I2 eI2 => ?_)
    replace H := H I2 eI2
    refine wp_iload_n (z := 1) (i := 1) (x := x1) 1 (by decide +kernel) rfl rfl ?_
    refine wp_iconst (z := 1) (v := 1) (by decide +kernel) (by decide) ?_
    refine wp_icmp_ne (off := 15) (tgt := 43) (by decide +kernel) (by decide) (fun c3 => ?_) (fun c3 => ?_)
    · rw [if_neg c3] at H
      refine wp_iload_n (z := 1) (i := 1) (x := x1) 1 (by decide +kernel) rfl rfl ?_
      refine wp_iconst (z := 2) (v := 2) (by decide +kernel) (by decide) ?_
      refine wp_icmp_ne (off := 14) (tgt := 59) (by decide +kernel) (by decide) (fun c4 => ?_) (fun c4 => ?_)
      · rw [if_neg c4] at H
        refine wp_iload_n (z := 1) (i := 1) (x := x1) 1 (by decide +kernel) rfl rfl ?_
        refine wp_iconst (z := 3) (v := 3) (by decide +kernel) (by decide) ?_
        refine wp_icmp_ne (off := 12) (tgt := 73) (by decide +kernel) (by decide) (fun c5 => ?_) (fun c5 => ?_)
        · rw [if_neg c5] at H
          exact wp_vret (by decide +kernel) rfl (Nat.zero_le _) (Nat.zero_le _) ⟨_, _, rfl, rfl, H⟩
        · rw [if_pos c5] at H
          refine wp_aload_n (z := 0) (i := 0) (r := (some h)) 0 (by decide +kernel) rfl rfl ?_
          refine wp_getR (idx := 31) (by decide +kernel) fl4_31 rfl ok.1 ?_
          refine wp_topr (fun r6 er6 => ?_)
          replace H := H r6 er6
          refine wp_iload_n (z := 2) (i := 2) (x := x2) 2 (by decide +kernel) rfl rfl ?_
          refine wp_iload_n (z := 3) (i := 3) (x := x3) 3 (by decide +kernel) rfl rfl ?_
          obtain ⟨q7, e8, H⟩ := H
          subst e8
          show wp X B4_keepWallLine 70 [(0, .ref h), (1, .int x1), (2, .int x2), (3, .int x3)] [.int x3, .int x2, .ref q7] (G, I2, L) 0 0 _
          obtain ⟨f9, H⟩ := H
          refine wp_callV (idx := 202) (B2 := B7_addFeeler) (As := [.int x2, .int x3]) (a := q7) (st := []) (by decide +kernel) m7_addFeeler ml4_202 k7_addFeeler e7_addFeeler ck7 f9.1 (⟨Nat.le_of_ble_eq_true rfl, Nat.le_of_ble_eq_true rfl⟩ : rOK B4_keepWallLine B7_addFeeler) rfl (Nat.le_of_ble_eq_true rfl) (Nat.le_of_ble_eq_true rfl) ⟨Nat.le_of_ble_eq_true rfl, Nat.le_of_ble_eq_true rfl⟩ rfl (wp_mono H (fun v9 M9 hq9 => ?_))
          clear H
          obtain ⟨I10, L11, rfl, rfl, H⟩ := hq9
          show wp X B4_keepWallLine 73 [(0, .ref h), (1, .int x1), (2, .int x2), (3, .int x3)] [] (G, I10, L11) 0 0 _
          exact wp_vret (by decide +kernel) rfl (Nat.zero_le _) (Nat.zero_le _) ⟨_, _, rfl, rfl, H⟩
      · rw [if_pos c4] at H
        refine wp_aload_n (z := 0) (i := 0) (r := (some h)) 0 (by decide +kernel) rfl rfl ?_
        refine wp_getR (idx := 31) (by decide +kernel) fl4_31 rfl ok.1 ?_
        refine wp_topr (fun r13 er13 => ?_)
        replace H := H r13 er13
        refine wp_iload_n (z := 2) (i := 2) (x := x2) 2 (by decide +kernel) rfl rfl ?_
        obtain ⟨q14, e15, H⟩ := H
        subst e15
        show wp X B4_keepWallLine 53 [(0, .ref h), (1, .int x1), (2, .int x2), (3, .int x3)] [.int x2, .ref q14] (G, I2, L) 0 0 _
        obtain ⟨f16, H⟩ := H
        refine wp_callV (idx := 199) (B2 := B7_putSource) (As := [.int x2]) (a := q14) (st := []) (by decide +kernel) m7_putSource ml4_199 k7_putSource e7_putSource ck7 f16.1 (⟨Nat.le_of_ble_eq_true rfl, Nat.le_of_ble_eq_true rfl⟩ : rOK B4_keepWallLine B7_putSource) rfl (Nat.le_of_ble_eq_true rfl) (Nat.le_of_ble_eq_true rfl) ⟨Nat.le_of_ble_eq_true rfl, Nat.le_of_ble_eq_true rfl⟩ rfl (wp_mono H (fun v9 M9 hq9 => ?_))
        clear H
        obtain ⟨I17, L18, rfl, rfl, H⟩ := hq9
        show wp X B4_keepWallLine 56 [(0, .ref h), (1, .int x1), (2, .int x2), (3, .int x3)] [] (G, I17, L18) 0 0 _
        refine wp_goto (off := 17) (tgt := 73) (by decide +kernel) (by decide) ?_
        exact wp_vret (by decide +kernel) rfl (Nat.zero_le _) (Nat.zero_le _) ⟨_, _, rfl, rfl, H⟩
    · rw [if_pos c3] at H
      refine wp_aload_n (z := 0) (i := 0) (r := (some h)) 0 (by decide +kernel) rfl rfl ?_
      refine wp_getR (idx := 31) (by decide +kernel) fl4_31 rfl ok.1 ?_
      refine wp_topr (fun r20 er20 => ?_)
      replace H := H r20 er20
      refine wp_iload_n (z := 2) (i := 2) (x := x2) 2 (by decide +kernel) rfl rfl ?_
      refine wp_iload_n (z := 3) (i := 3) (x := x3) 3 (by decide +kernel) rfl rfl ?_
      obtain ⟨q21, e22, H⟩ := H
      subst e22
      show wp X B4_keepWallLine 37 [(0, .ref h), (1, .int x1), (2, .int x2), (3, .int x3)] [.int x3, .int x2, .ref q21] (G, I2, L) 0 0 _
      obtain ⟨f23, H⟩ := H
      refine wp_callV (idx := 196) (B2 := B7_deaden) (As := [.int x2, .int x3]) (a := q21) (st := []) (by decide +kernel) m7_deaden ml4_196 k7_deaden e7_deaden ck7 f23.1 (⟨Nat.le_of_ble_eq_true rfl, Nat.le_of_ble_eq_true rfl⟩ : rOK B4_keepWallLine B7_deaden) rfl (Nat.le_of_ble_eq_true rfl) (Nat.le_of_ble_eq_true rfl) ⟨Nat.le_of_ble_eq_true rfl, Nat.le_of_ble_eq_true rfl⟩ rfl (wp_mono H (fun v9 M9 hq9 => ?_))
      clear H
      obtain ⟨I24, L25, rfl, rfl, H⟩ := hq9
      show wp X B4_keepWallLine 40 [(0, .ref h), (1, .int x1), (2, .int x2), (3, .int x3)] [] (G, I24, L25) 0 0 _
      refine wp_goto (off := 33) (tgt := 73) (by decide +kernel) (by decide) ?_
      exact wp_vret (by decide +kernel) rfl (Nat.zero_le _) (Nat.zero_le _) ⟨_, _, rfl, rfl, H⟩
  · rw [if_pos c1] at H
    refine wp_aload_n (z := 0) (i := 0) (r := (some h)) 0 (by decide +kernel) rfl rfl ?_
    refine wp_getR (idx := 31) (by decide +kernel) fl4_31 rfl ok.1 ?_
    refine wp_topr (fun r27 er27 => ?_)
    replace H := H r27 er27
    refine wp_iload_n (z := 2) (i := 2) (x := x2) 2 (by decide +kernel) rfl rfl ?_
    refine wp_iload_n (z := 3) (i := 3) (x := x3) 3 (by decide +kernel) rfl rfl ?_
    obtain ⟨q28, e29, H⟩ := H
    subst e29
    show wp X B4_keepWallLine 10 [(0, .ref h), (1, .int x1), (2, .int x2), (3, .int x3)] [.int x3, .int x2, .ref q28] (G, I, L) 0 0 _
    obtain ⟨f30, H⟩ := H
    refine wp_callV (idx := 190) (B2 := B7_resize) (As := [.int x2, .int x3]) (a := q28) (st := []) (by decide +kernel) m7_resize ml4_190 k7_resize e7_resize ck7 f30.1 (⟨Nat.le_of_ble_eq_true rfl, Nat.le_of_ble_eq_true rfl⟩ : rOK B4_keepWallLine B7_resize) rfl (Nat.le_of_ble_eq_true rfl) (Nat.le_of_ble_eq_true rfl) ⟨Nat.le_of_ble_eq_true rfl, Nat.le_of_ble_eq_true rfl⟩ rfl (wp_mono H (fun v9 M9 hq9 => ?_))
    clear H
    obtain ⟨I31, L32, rfl, rfl, H⟩ := hq9
    show wp X B4_keepWallLine 13 [(0, .ref h), (1, .int x1), (2, .int x2), (3, .int x3)] [] (G, I31, L32) 0 0 _
    exact wp_vret (by decide +kernel) rfl (Nat.zero_le _) (Nat.zero_le _) ⟨_, _, rfl, rfl, H⟩
/-! DeafWall$Reader.keepLine(III)V -/
set_option maxRecDepth 20000 in
theorem b4_keepLine {X : XX} {G : GG} {I : Nat → Nat → Int32} {L : Nat → Nat → Int64} {h : Nat} {x1 : Int32} {x2 : Int32} {x3 : Int32} {Q : (Nat → Nat → Int32) → (Nat → Nat → Int64) → Prop} (ok : OK4 G h) (H : ∀ r1, r1 = G.2.1 h 1 → (r1 = none → ∀ r4, r4 = G.2.1 h 0 → (r4 = none → Q I L) ∧ (∀ q6, r4 = some q6 → wpV X B4_keepWallLine 0 [(0, .ref h), (1, .int x1), (2, .int x2), (3, .int x3)] [] G I L (fun I7 L8 => Q I7 L8))) ∧ (∀ q3, r1 = some q3 → ∀ r10, r10 = G.2.1 h 1 → vp_in (I h 6) 4 ∧ (∃ q11, r10 = some q11 ∧ (∃ n14, OK2 G q11 n14 ∧ (wpV X B2_addLine 0 [(0, .ref q11), (1, .int (x1 - (([0, 5, 11, 13] : List Int32).getD (cl (I h 6)) 0))), (2, .int x2), (3, .int x3)] [] G I L (fun I15 L16 => Q I15 L16)))))) : wpV X B4_keepLine 0 [(0, .ref h), (1, .int x1), (2, .int x2), (3, .int x3)] [] G I L Q := by
  refine wp_aload_n (z := 0) (i := 0) (r := (some h)) 0 (by decide +kernel) rfl rfl ?_
  refine wp_getR (idx := 40) (by decide +kernel) fl4_40 rfl ok.1 ?_
  refine wp_topr (fun r1 er1 => ?_)
  replace H := H r1 er1
  refine wp_ifnull (off := 25) (tgt := 29) (r := r1) (by decide +kernel) (by decide) (fun c2 => ?_) (fun q3 c2 => ?_)
  · replace H := H.1 c2
    subst c2
    show wp X B4_keepLine 29 [(0, .ref h), (1, .int x1), (2, .int x2), (3, .int x3)] [] (G, I, L) 0 0 _
    refine wp_aload_n (z := 0) (i := 0) (r := (some h)) 0 (by decide +kernel) rfl rfl ?_
    refine wp_getR (idx := 31) (by decide +kernel) fl4_31 rfl ok.1 ?_
    refine wp_topr (fun r4 er4 => ?_)
    replace H := H r4 er4
    refine wp_ifnull (off := 10) (tgt := 43) (r := r4) (by decide +kernel) (by decide) (fun c5 => ?_) (fun q6 c5 => ?_)
    · replace H := H.1 c5
      subst c5
      show wp X B4_keepLine 43 [(0, .ref h), (1, .int x1), (2, .int x2), (3, .int x3)] [] (G, I, L) 0 0 _
      exact wp_vret (by decide +kernel) rfl (Nat.zero_le _) (Nat.zero_le _) ⟨_, _, rfl, rfl, H⟩
    · replace H := H.2 q6 c5
      subst c5
      show wp X B4_keepLine 36 [(0, .ref h), (1, .int x1), (2, .int x2), (3, .int x3)] [] (G, I, L) 0 0 _
      refine wp_aload_n (z := 0) (i := 0) (r := (some h)) 0 (by decide +kernel) rfl rfl ?_
      refine wp_iload_n (z := 1) (i := 1) (x := x1) 1 (by decide +kernel) rfl rfl ?_
      refine wp_iload_n (z := 2) (i := 2) (x := x2) 2 (by decide +kernel) rfl rfl ?_
      refine wp_iload_n (z := 3) (i := 3) (x := x3) 3 (by decide +kernel) rfl rfl ?_
      refine wp_callV (idx := 187) (B2 := B4_keepWallLine) (As := [.int x1, .int x2, .int x3]) (a := h) (st := []) (by decide +kernel) m4_keepWallLine ml4_187 k4_keepWallLine e4_keepWallLine ck4 ok.1 (⟨Nat.le_of_ble_eq_true rfl, Nat.le_of_ble_eq_true rfl⟩ : rOK B4_keepLine B4_keepWallLine) rfl (Nat.le_of_ble_eq_true rfl) (Nat.le_of_ble_eq_true rfl) ⟨Nat.le_of_ble_eq_true rfl, Nat.le_of_ble_eq_true rfl⟩ rfl (wp_mono H (fun v9 M9 hq9 => ?_))
      clear H
      obtain ⟨I7, L8, rfl, rfl, H⟩ := hq9
      show wp X B4_keepLine 43 [(0, .ref h), (1, .int x1), (2, .int x2), (3, .int x3)] [] (G, I7, L8) 0 0 _
      exact wp_vret (by decide +kernel) rfl (Nat.zero_le _) (Nat.zero_le _) ⟨_, _, rfl, rfl, H⟩
  · replace H := H.2 q3 c2
    subst c2
    show wp X B4_keepLine 7 [(0, .ref h), (1, .int x1), (2, .int x2), (3, .int x3)] [] (G, I, L) 0 0 _
    refine wp_aload_n (z := 0) (i := 0) (r := (some h)) 0 (by decide +kernel) rfl rfl ?_
    refine wp_getR (idx := 40) (by decide +kernel) fl4_40 rfl ok.1 ?_
    refine wp_topr (fun r10 er10 => ?_)
    replace H := H r10 er10
    refine wp_iload_n (z := 1) (i := 1) (x := x1) 1 (by decide +kernel) rfl rfl ?_
    refine wp_gets (idx := 123) (j := 0) (by decide +kernel) rfl (in_g (List.mem_of_getElem? (i := 524) (by decide +kernel)) rfl) ?_
    refine wp_aload_n (z := 0) (i := 0) (r := (some h)) 0 (by decide +kernel) rfl rfl ?_
    refine wp_getI (idx := 25) (by decide +kernel) fl4_25 rfl ok.1 ?_
    obtain ⟨o18, H⟩ := H
    refine wp_tald (j := 0) (N := 4) (i9 := (cl (I h 6))) (by decide +kernel) rfl rfl o18 rfl ?_
    refine wp_isub (by decide +kernel) ?_
    refine wp_iload_n (z := 2) (i := 2) (x := x2) 2 (by decide +kernel) rfl rfl ?_
    refine wp_iload_n (z := 3) (i := 3) (x := x3) 3 (by decide +kernel) rfl rfl ?_
    obtain ⟨q11, e12, H⟩ := H
    subst e12
    show wp X B4_keepLine 23 [(0, .ref h), (1, .int x1), (2, .int x2), (3, .int x3)] [.int x3, .int x2, .int (x1 - (([0, 5, 11, 13] : List Int32).getD (cl (I h 6)) 0)), .ref q11] (G, I, L) 0 0 _
    obtain ⟨n14, f13, H⟩ := H
    refine wp_callV (idx := 184) (B2 := B2_addLine) (As := [.int (x1 - (([0, 5, 11, 13] : List Int32).getD (cl (I h 6)) 0)), .int x2, .int x3]) (a := q11) (st := []) (by decide +kernel) m2_addLine ml4_184 k2_addLine e2_addLine ck2 f13.1 (⟨Nat.le_of_ble_eq_true rfl, Nat.le_of_ble_eq_true rfl⟩ : rOK B4_keepLine B2_addLine) rfl (Nat.le_of_ble_eq_true rfl) (Nat.le_of_ble_eq_true rfl) ⟨Nat.le_of_ble_eq_true rfl, Nat.le_of_ble_eq_true rfl⟩ rfl (wp_mono H (fun v9 M9 hq9 => ?_))
    clear H
    obtain ⟨I15, L16, rfl, rfl, H⟩ := hq9
    show wp X B4_keepLine 26 [(0, .ref h), (1, .int x1), (2, .int x2), (3, .int x3)] [] (G, I15, L16) 0 0 _
    refine wp_goto (off := 17) (tgt := 43) (by decide +kernel) (by decide) ?_
    exact wp_vret (by decide +kernel) rfl (Nat.zero_le _) (Nat.zero_le _) ⟨_, _, rfl, rfl, H⟩
/-! DeafWall$Reader.readLine()Z -/
set_option maxRecDepth 20000 in
theorem b4_readLine {X : XX} {G : GG} {I : Nat → Nat → Int32} {L : Nat → Nat → Int64} {h : Nat} {Q : Int32 → (Nat → Nat → Int32) → (Nat → Nat → Int64) → Prop} (ok : OK4 G h) (H : if (I h 7) = (0 : Int32) then (wpI X B4_kindOfWord 0 [(0, .ref h)] [] G I L (fun r9 I7 L8 => if r9 = (-1) then (wpI X B4_refuse 0 [(0, .ref h)] [] G I7 L8 (fun r24 I22 L23 => (r24 = 0 ∨ r24 = 1) ∧ (Q r24 I22 L23))) else (wpV X B4_countLine 0 [(0, .ref h), (1, .int r9)] [] G I7 L8 (fun I11 L12 => wpV X B4_nextToken 0 [(0, .ref h)] [] G I11 L12 (fun I14 L15 => if r9 = 4 then (wpI X B4_readTale 0 [(0, .ref h)] [] G I14 L15 (fun r20 I18 L19 => (r20 = 0 ∨ r20 = 1) ∧ (Q r20 I18 L19))) else (wpI X B4_readLine 52 [(0, .ref h), (1, .int r9), (2, .int 0), (3, .int (-1)), (4, .int 0)] [] G I14 L15 Q)))))) else (wpI X B4_refuse 0 [(0, .ref h)] [] G I L (fun r5 I3 L4 => (r5 = 0 ∨ r5 = 1) ∧ (Q r5 I3 L4)))) : wpI X B4_readLine 0 [(0, .ref h)] [] G I L Q := by
  refine wp_aload_n (z := 0) (i := 0) (r := (some h)) 0 (by decide +kernel) rfl rfl ?_
  refine wp_getI (idx := 68) (by decide +kernel) fl4_68 rfl ok.1 ?_
  refine wp_if_ne (off := 10) (tgt := 14) (by decide +kernel) (by decide) (fun c1 => ?_) (fun c1 => ?_)
  · rw [if_neg c1] at H
    refine wp_iconst (z := -1) (v := (-1)) (by decide +kernel) (by decide) ?_
    refine wp_istore_n (z := 1) (i := 1) (lv' := [(1, .int (-1)), (0, .ref h)]) (by decide +kernel) rfl (by decide) rfl ?_
    refine wp_iload_n (z := 1) (i := 1) (x := (-1)) 0 (by decide +kernel) rfl rfl ?_
    refine wp_iconst (z := -1) (v := (-1)) (by decide +kernel) (by decide) ?_
    refine wp_icmp_ne (off := 8) (tgt := 26) (by decide +kernel) (by decide) (fun c9 => absurd c9 (by decide)) (fun _ => ?_)
    refine wp_aload_n (z := 0) (i := 0) (r := (some h)) 1 (by decide +kernel) rfl rfl ?_
    refine wp_callV (idx := 102) (B2 := B4_refuse) (As := []) (a := h) (st := []) (by decide +kernel) m4_refuse ml4_102 k4_refuse e4_refuse ck4 ok.1 (⟨Nat.le_of_ble_eq_true rfl, Nat.le_of_ble_eq_true rfl⟩ : rOK B4_readLine B4_refuse) rfl (Nat.le_of_ble_eq_true rfl) (Nat.le_of_ble_eq_true rfl) ⟨Nat.le_of_ble_eq_true rfl, Nat.le_of_ble_eq_true rfl⟩ rfl (wp_mono H (fun v9 M9 hq9 => ?_))
    clear H
    obtain ⟨r5, I3, L4, rfl, rfl, H⟩ := hq9
    show wp X B4_readLine 25 [(1, .int (-1)), (0, .ref h)] [.int r5] (G, I3, L4) 0 0 _
    obtain ⟨o6, H⟩ := H
    exact wp_zret (by decide +kernel) rfl o6 (Nat.zero_le _) (Nat.zero_le _) ⟨_, _, _, rfl, rfl, H⟩
  · rw [if_pos c1] at H
    refine wp_aload_n (z := 0) (i := 0) (r := (some h)) 0 (by decide +kernel) rfl rfl ?_
    refine wp_callV (idx := 98) (B2 := B4_kindOfWord) (As := []) (a := h) (st := []) (by decide +kernel) m4_kindOfWord ml4_98 k4_kindOfWord e4_kindOfWord ck4 ok.1 (⟨Nat.le_of_ble_eq_true rfl, Nat.le_of_ble_eq_true rfl⟩ : rOK B4_readLine B4_kindOfWord) rfl (Nat.le_of_ble_eq_true rfl) (Nat.le_of_ble_eq_true rfl) ⟨Nat.le_of_ble_eq_true rfl, Nat.le_of_ble_eq_true rfl⟩ rfl (wp_mono H (fun v9 M9 hq9 => ?_))
    clear H
    obtain ⟨r9, I7, L8, rfl, rfl, H⟩ := hq9
    show wp X B4_readLine 11 [(0, .ref h)] [.int r9] (G, I7, L8) 0 0 _
    refine wp_goto (off := 4) (tgt := 15) (by decide +kernel) (by decide) ?_
    refine wp_istore_n (z := 1) (i := 1) (lv' := [(1, .int r9), (0, .ref h)]) (by decide +kernel) rfl (by decide) rfl ?_
    refine wp_iload_n (z := 1) (i := 1) (x := r9) 0 (by decide +kernel) rfl rfl ?_
    refine wp_iconst (z := -1) (v := (-1)) (by decide +kernel) (by decide) ?_
    refine wp_icmp_ne (off := 8) (tgt := 26) (by decide +kernel) (by decide) (fun c10 => ?_) (fun c10 => ?_)
    · rw [if_neg c10] at H
      refine wp_aload_n (z := 0) (i := 0) (r := (some h)) 1 (by decide +kernel) rfl rfl ?_
      refine wp_iload_n (z := 1) (i := 1) (x := r9) 0 (by decide +kernel) rfl rfl ?_
      refine wp_callV (idx := 105) (B2 := B4_countLine) (As := [.int r9]) (a := h) (st := []) (by decide +kernel) m4_countLine ml4_105 k4_countLine e4_countLine ck4 ok.1 (⟨Nat.le_of_ble_eq_true rfl, Nat.le_of_ble_eq_true rfl⟩ : rOK B4_readLine B4_countLine) rfl (Nat.le_of_ble_eq_true rfl) (Nat.le_of_ble_eq_true rfl) ⟨Nat.le_of_ble_eq_true rfl, Nat.le_of_ble_eq_true rfl⟩ rfl (wp_mono H (fun v9 M9 hq9 => ?_))
      clear H
      obtain ⟨I11, L12, rfl, rfl, H⟩ := hq9
      show wp X B4_readLine 31 [(1, .int r9), (0, .ref h)] [] (G, I11, L12) 0 0 _
      refine wp_aload_n (z := 0) (i := 0) (r := (some h)) 1 (by decide +kernel) rfl rfl ?_
      refine wp_callV (idx := 65) (B2 := B4_nextToken) (As := []) (a := h) (st := []) (by decide +kernel) m4_nextToken ml4_65 k4_nextToken e4_nextToken ck4 ok.1 (⟨Nat.le_of_ble_eq_true rfl, Nat.le_of_ble_eq_true rfl⟩ : rOK B4_readLine B4_nextToken) rfl (Nat.le_of_ble_eq_true rfl) (Nat.le_of_ble_eq_true rfl) ⟨Nat.le_of_ble_eq_true rfl, Nat.le_of_ble_eq_true rfl⟩ rfl (wp_mono H (fun v9 M9 hq9 => ?_))
      clear H
      obtain ⟨I14, L15, rfl, rfl, H⟩ := hq9
      show wp X B4_readLine 35 [(1, .int r9), (0, .ref h)] [] (G, I14, L15) 0 0 _
      refine wp_iload_n (z := 1) (i := 1) (x := r9) 0 (by decide +kernel) rfl rfl ?_
      refine wp_iconst (z := 4) (v := 4) (by decide +kernel) (by decide) ?_
      refine wp_icmp_ne (off := 8) (tgt := 45) (by decide +kernel) (by decide) (fun c17 => ?_) (fun c17 => ?_)
      · rw [if_neg c17] at H
        refine wp_iconst (z := 0) (v := 0) (by decide +kernel) (by decide) ?_
        refine wp_istore_n (z := 2) (i := 2) (lv' := [(2, .int 0), (1, .int r9), (0, .ref h)]) (by decide +kernel) rfl (by decide) rfl ?_
        refine wp_iconst (z := -1) (v := (-1)) (by decide +kernel) (by decide) ?_
        refine wp_istore_n (z := 3) (i := 3) (lv' := [(3, .int (-1)), (2, .int 0), (1, .int r9), (0, .ref h)]) (by decide +kernel) rfl (by decide) rfl ?_
        refine wp_iconst (z := 0) (v := 0) (by decide +kernel) (by decide) ?_
        refine wp_istore (i := 4) (lv' := [(4, .int 0), (3, .int (-1)), (2, .int 0), (1, .int r9), (0, .ref h)]) (by decide +kernel) (by decide) rfl ?_
        exact wp_sub [4, 3, 2, 1, 0] rfl H
      · rw [if_pos c17] at H
        refine wp_aload_n (z := 0) (i := 0) (r := (some h)) 1 (by decide +kernel) rfl rfl ?_
        refine wp_callV (idx := 109) (B2 := B4_readTale) (As := []) (a := h) (st := []) (by decide +kernel) m4_readTale ml4_109 k4_readTale e4_readTale ck4 ok.1 (⟨Nat.le_of_ble_eq_true rfl, Nat.le_of_ble_eq_true rfl⟩ : rOK B4_readLine B4_readTale) rfl (Nat.le_of_ble_eq_true rfl) (Nat.le_of_ble_eq_true rfl) ⟨Nat.le_of_ble_eq_true rfl, Nat.le_of_ble_eq_true rfl⟩ rfl (wp_mono H (fun v9 M9 hq9 => ?_))
        clear H
        obtain ⟨r20, I18, L19, rfl, rfl, H⟩ := hq9
        show wp X B4_readLine 44 [(1, .int r9), (0, .ref h)] [.int r20] (G, I18, L19) 0 0 _
        obtain ⟨o21, H⟩ := H
        exact wp_zret (by decide +kernel) rfl o21 (Nat.zero_le _) (Nat.zero_le _) ⟨_, _, _, rfl, rfl, H⟩
    · rw [if_pos c10] at H
      refine wp_aload_n (z := 0) (i := 0) (r := (some h)) 1 (by decide +kernel) rfl rfl ?_
      refine wp_callV (idx := 102) (B2 := B4_refuse) (As := []) (a := h) (st := []) (by decide +kernel) m4_refuse ml4_102 k4_refuse e4_refuse ck4 ok.1 (⟨Nat.le_of_ble_eq_true rfl, Nat.le_of_ble_eq_true rfl⟩ : rOK B4_readLine B4_refuse) rfl (Nat.le_of_ble_eq_true rfl) (Nat.le_of_ble_eq_true rfl) ⟨Nat.le_of_ble_eq_true rfl, Nat.le_of_ble_eq_true rfl⟩ rfl (wp_mono H (fun v9 M9 hq9 => ?_))
      clear H
      obtain ⟨r24, I22, L23, rfl, rfl, H⟩ := hq9
      show wp X B4_readLine 25 [(1, .int r9), (0, .ref h)] [.int r24] (G, I22, L23) 0 0 _
      obtain ⟨o25, H⟩ := H
      exact wp_zret (by decide +kernel) rfl o25 (Nat.zero_le _) (Nat.zero_le _) ⟨_, _, _, rfl, rfl, H⟩
set_option maxRecDepth 20000 in
theorem b4_readLine_52 {X : XX} {G : GG} {I : Nat → Nat → Int32} {L : Nat → Nat → Int64} {h : Nat} {x1 : Int32} {x2 : Int32} {x3 : Int32} {x4 : Int32} {Q : Int32 → (Nat → Nat → Int32) → (Nat → Nat → Int64) → Prop} (ok : OK4 G h) (H : vp_in x1 13 ∧ (if (([2, 2, 1, 2, 1, 1, 1, 1, 1, 1, 2, 2, 2] : List Int32).getD (cl x1) 0) ≤ x4 then (if (I h 7) = 2 then (wpV X B4_nextToken 0 [(0, .ref h)] [] G I L (fun I3 L4 => wpV X B4_keepLine 0 [(0, .ref h), (1, .int x1), (2, .int x2), (3, .int x3)] [] G I3 L4 (fun I6 L7 => Q 1 I6 L7))) else (wpI X B4_refuse 0 [(0, .ref h)] [] G I L (fun r11 I9 L10 => (r11 = 0 ∨ r11 = 1) ∧ (Q r11 I9 L10)))) else (if (I h 7) = 1 then (wpV X B4_lookAtNumber 0 [(0, .ref h), (1, .int x1), (2, .int x4)] [] G I L (fun I14 L15 => if x4 = (0 : Int32) then (wpV X B4_nextToken 0 [(0, .ref h)] [] G I14 L15 (fun I21 L22 => wpI X B4_readLine 52 [(0, .ref h), (1, .int x1), (2, .int (I14 h 10)), (3, .int x3), (4, .int (x4 + 1))] [] G I21 L22 Q)) else (wpV X B4_nextToken 0 [(0, .ref h)] [] G I14 L15 (fun I18 L19 => wpI X B4_readLine 52 [(0, .ref h), (1, .int x1), (2, .int x2), (3, .int (I14 h 10)), (4, .int (x4 + 1))] [] G I18 L19 Q)))) else (wpI X B4_refuse 0 [(0, .ref h)] [] G I L (fun r26 I24 L25 => (r26 = 0 ∨ r26 = 1) ∧ (Q r26 I24 L25)))))) : wpI X B4_readLine 52 [(0, .ref h), (1, .int x1), (2, .int x2), (3, .int x3), (4, .int x4)] [] G I L Q := by
  refine wp_iload (i := 4) (x := x4) 4 (by decide +kernel) rfl ?_
  refine wp_gets (idx := 112) (j := 1) (by decide +kernel) rfl (in_g (List.mem_of_getElem? (i := 627) (by decide +kernel)) rfl) ?_
  refine wp_iload_n (z := 1) (i := 1) (x := x1) 1 (by decide +kernel) rfl rfl ?_
  obtain ⟨o28, H⟩ := H
  refine wp_tald (j := 1) (N := 13) (i9 := (cl x1)) (by decide +kernel) rfl rfl o28 rfl ?_
  refine wp_icmp_ge (off := 51) (tgt := 110) (by decide +kernel) (by decide) (fun c1 => ?_) (fun c1 => ?_)
  · rw [if_pos c1] at H
    refine wp_aload_n (z := 0) (i := 0) (r := (some h)) 0 (by decide +kernel) rfl rfl ?_
    refine wp_getI (idx := 68) (by decide +kernel) fl4_68 rfl ok.1 ?_
    refine wp_iconst (z := 2) (v := 2) (by decide +kernel) (by decide) ?_
    refine wp_icmp_eq (off := 8) (tgt := 123) (by decide +kernel) (by decide) (fun c2 => ?_) (fun c2 => ?_)
    · rw [if_pos c2] at H
      refine wp_aload_n (z := 0) (i := 0) (r := (some h)) 0 (by decide +kernel) rfl rfl ?_
      refine wp_callV (idx := 65) (B2 := B4_nextToken) (As := []) (a := h) (st := []) (by decide +kernel) m4_nextToken ml4_65 k4_nextToken e4_nextToken ck4 ok.1 (⟨Nat.le_of_ble_eq_true rfl, Nat.le_of_ble_eq_true rfl⟩ : rOK B4_readLine B4_nextToken) rfl (Nat.le_of_ble_eq_true rfl) (Nat.le_of_ble_eq_true rfl) ⟨Nat.le_of_ble_eq_true rfl, Nat.le_of_ble_eq_true rfl⟩ rfl (wp_mono H (fun v9 M9 hq9 => ?_))
      clear H
      obtain ⟨I3, L4, rfl, rfl, H⟩ := hq9
      show wp X B4_readLine 127 [(0, .ref h), (1, .int x1), (2, .int x2), (3, .int x3), (4, .int x4)] [] (G, I3, L4) 0 0 _
      refine wp_aload_n (z := 0) (i := 0) (r := (some h)) 0 (by decide +kernel) rfl rfl ?_
      refine wp_iload_n (z := 1) (i := 1) (x := x1) 1 (by decide +kernel) rfl rfl ?_
      refine wp_iload_n (z := 2) (i := 2) (x := x2) 2 (by decide +kernel) rfl rfl ?_
      refine wp_iload_n (z := 3) (i := 3) (x := x3) 3 (by decide +kernel) rfl rfl ?_
      refine wp_callV (idx := 119) (B2 := B4_keepLine) (As := [.int x1, .int x2, .int x3]) (a := h) (st := []) (by decide +kernel) m4_keepLine ml4_119 k4_keepLine e4_keepLine ck4 ok.1 (⟨Nat.le_of_ble_eq_true rfl, Nat.le_of_ble_eq_true rfl⟩ : rOK B4_readLine B4_keepLine) rfl (Nat.le_of_ble_eq_true rfl) (Nat.le_of_ble_eq_true rfl) ⟨Nat.le_of_ble_eq_true rfl, Nat.le_of_ble_eq_true rfl⟩ rfl (wp_mono H (fun v9 M9 hq9 => ?_))
      clear H
      obtain ⟨I6, L7, rfl, rfl, H⟩ := hq9
      show wp X B4_readLine 134 [(0, .ref h), (1, .int x1), (2, .int x2), (3, .int x3), (4, .int x4)] [] (G, I6, L7) 0 0 _
      refine wp_iconst (z := 1) (v := 1) (by decide +kernel) (by decide) ?_
      exact wp_zret (by decide +kernel) rfl (by decide) (Nat.zero_le _) (Nat.zero_le _) ⟨_, _, _, rfl, rfl, H⟩
    · rw [if_neg c2] at H
      refine wp_aload_n (z := 0) (i := 0) (r := (some h)) 0 (by decide +kernel) rfl rfl ?_
      refine wp_callV (idx := 102) (B2 := B4_refuse) (As := []) (a := h) (st := []) (by decide +kernel) m4_refuse ml4_102 k4_refuse e4_refuse ck4 ok.1 (⟨Nat.le_of_ble_eq_true rfl, Nat.le_of_ble_eq_true rfl⟩ : rOK B4_readLine B4_refuse) rfl (Nat.le_of_ble_eq_true rfl) (Nat.le_of_ble_eq_true rfl) ⟨Nat.le_of_ble_eq_true rfl, Nat.le_of_ble_eq_true rfl⟩ rfl (wp_mono H (fun v9 M9 hq9 => ?_))
      clear H
      obtain ⟨r11, I9, L10, rfl, rfl, H⟩ := hq9
      show wp X B4_readLine 122 [(0, .ref h), (1, .int x1), (2, .int x2), (3, .int x3), (4, .int x4)] [.int r11] (G, I9, L10) 0 0 _
      obtain ⟨o12, H⟩ := H
      exact wp_zret (by decide +kernel) rfl o12 (Nat.zero_le _) (Nat.zero_le _) ⟨_, _, _, rfl, rfl, H⟩
  · rw [if_neg c1] at H
    refine wp_aload_n (z := 0) (i := 0) (r := (some h)) 0 (by decide +kernel) rfl rfl ?_
    refine wp_getI (idx := 68) (by decide +kernel) fl4_68 rfl ok.1 ?_
    refine wp_iconst (z := 1) (v := 1) (by decide +kernel) (by decide) ?_
    refine wp_icmp_eq (off := 8) (tgt := 75) (by decide +kernel) (by decide) (fun c13 => ?_) (fun c13 => ?_)
    · rw [if_pos c13] at H
      refine wp_aload_n (z := 0) (i := 0) (r := (some h)) 0 (by decide +kernel) rfl rfl ?_
      refine wp_iload_n (z := 1) (i := 1) (x := x1) 1 (by decide +kernel) rfl rfl ?_
      refine wp_iload (i := 4) (x := x4) 4 (by decide +kernel) rfl ?_
      refine wp_callV (idx := 116) (B2 := B4_lookAtNumber) (As := [.int x1, .int x4]) (a := h) (st := []) (by decide +kernel) m4_lookAtNumber ml4_116 k4_lookAtNumber e4_lookAtNumber ck4 ok.1 (⟨Nat.le_of_ble_eq_true rfl, Nat.le_of_ble_eq_true rfl⟩ : rOK B4_readLine B4_lookAtNumber) rfl (Nat.le_of_ble_eq_true rfl) (Nat.le_of_ble_eq_true rfl) ⟨Nat.le_of_ble_eq_true rfl, Nat.le_of_ble_eq_true rfl⟩ rfl (wp_mono H (fun v9 M9 hq9 => ?_))
      clear H
      obtain ⟨I14, L15, rfl, rfl, H⟩ := hq9
      show wp X B4_readLine 82 [(0, .ref h), (1, .int x1), (2, .int x2), (3, .int x3), (4, .int x4)] [] (G, I14, L15) 0 0 _
      refine wp_iload (i := 4) (x := x4) 4 (by decide +kernel) rfl ?_
      refine wp_if_ne (off := 11) (tgt := 95) (by decide +kernel) (by decide) (fun c17 => ?_) (fun c17 => ?_)
      · rw [if_neg c17] at H
        refine wp_aload_n (z := 0) (i := 0) (r := (some h)) 0 (by decide +kernel) rfl rfl ?_
        refine wp_getI (idx := 95) (by decide +kernel) fl4_95 rfl ok.1 ?_
        refine wp_istore_n (z := 3) (i := 3) (lv' := [(3, .int (I14 h 10)), (0, .ref h), (1, .int x1), (2, .int x2), (4, .int x4)]) (by decide +kernel) rfl (by decide) rfl ?_
        refine wp_aload_n (z := 0) (i := 0) (r := (some h)) 1 (by decide +kernel) rfl rfl ?_
        refine wp_callV (idx := 65) (B2 := B4_nextToken) (As := []) (a := h) (st := []) (by decide +kernel) m4_nextToken ml4_65 k4_nextToken e4_nextToken ck4 ok.1 (⟨Nat.le_of_ble_eq_true rfl, Nat.le_of_ble_eq_true rfl⟩ : rOK B4_readLine B4_nextToken) rfl (Nat.le_of_ble_eq_true rfl) (Nat.le_of_ble_eq_true rfl) ⟨Nat.le_of_ble_eq_true rfl, Nat.le_of_ble_eq_true rfl⟩ rfl (wp_mono H (fun v9 M9 hq9 => ?_))
        clear H
        obtain ⟨I18, L19, rfl, rfl, H⟩ := hq9
        show wp X B4_readLine 104 [(3, .int (I14 h 10)), (0, .ref h), (1, .int x1), (2, .int x2), (4, .int x4)] [] (G, I18, L19) 0 0 _
        refine wp_iinc (i := 4) (z := 1) (v := 1) (lv' := [(4, .int (x4 + 1)), (3, .int (I14 h 10)), (0, .ref h), (1, .int x1), (2, .int x2)]) 4 (by decide +kernel) rfl (by decide) (by decide) rfl ?_
        refine wp_goto (off := -55) (tgt := 52) (by decide +kernel) (by decide) ?_
        exact wp_sub [2, 3, 4, 1, 0] rfl H
      · rw [if_pos c17] at H
        refine wp_aload_n (z := 0) (i := 0) (r := (some h)) 0 (by decide +kernel) rfl rfl ?_
        refine wp_getI (idx := 95) (by decide +kernel) fl4_95 rfl ok.1 ?_
        refine wp_istore_n (z := 2) (i := 2) (lv' := [(2, .int (I14 h 10)), (0, .ref h), (1, .int x1), (3, .int x3), (4, .int x4)]) (by decide +kernel) rfl (by decide) rfl ?_
        refine wp_goto (off := 8) (tgt := 100) (by decide +kernel) (by decide) ?_
        refine wp_aload_n (z := 0) (i := 0) (r := (some h)) 1 (by decide +kernel) rfl rfl ?_
        refine wp_callV (idx := 65) (B2 := B4_nextToken) (As := []) (a := h) (st := []) (by decide +kernel) m4_nextToken ml4_65 k4_nextToken e4_nextToken ck4 ok.1 (⟨Nat.le_of_ble_eq_true rfl, Nat.le_of_ble_eq_true rfl⟩ : rOK B4_readLine B4_nextToken) rfl (Nat.le_of_ble_eq_true rfl) (Nat.le_of_ble_eq_true rfl) ⟨Nat.le_of_ble_eq_true rfl, Nat.le_of_ble_eq_true rfl⟩ rfl (wp_mono H (fun v9 M9 hq9 => ?_))
        clear H
        obtain ⟨I21, L22, rfl, rfl, H⟩ := hq9
        show wp X B4_readLine 104 [(2, .int (I14 h 10)), (0, .ref h), (1, .int x1), (3, .int x3), (4, .int x4)] [] (G, I21, L22) 0 0 _
        refine wp_iinc (i := 4) (z := 1) (v := 1) (lv' := [(4, .int (x4 + 1)), (2, .int (I14 h 10)), (0, .ref h), (1, .int x1), (3, .int x3)]) 4 (by decide +kernel) rfl (by decide) (by decide) rfl ?_
        refine wp_goto (off := -55) (tgt := 52) (by decide +kernel) (by decide) ?_
        exact wp_sub [2, 3, 1, 4, 0] rfl H
    · rw [if_neg c13] at H
      refine wp_aload_n (z := 0) (i := 0) (r := (some h)) 0 (by decide +kernel) rfl rfl ?_
      refine wp_callV (idx := 102) (B2 := B4_refuse) (As := []) (a := h) (st := []) (by decide +kernel) m4_refuse ml4_102 k4_refuse e4_refuse ck4 ok.1 (⟨Nat.le_of_ble_eq_true rfl, Nat.le_of_ble_eq_true rfl⟩ : rOK B4_readLine B4_refuse) rfl (Nat.le_of_ble_eq_true rfl) (Nat.le_of_ble_eq_true rfl) ⟨Nat.le_of_ble_eq_true rfl, Nat.le_of_ble_eq_true rfl⟩ rfl (wp_mono H (fun v9 M9 hq9 => ?_))
      clear H
      obtain ⟨r26, I24, L25, rfl, rfl, H⟩ := hq9
      show wp X B4_readLine 74 [(0, .ref h), (1, .int x1), (2, .int x2), (3, .int x3), (4, .int x4)] [.int r26] (G, I24, L25) 0 0 _
      obtain ⟨o27, H⟩ := H
      exact wp_zret (by decide +kernel) rfl o27 (Nat.zero_le _) (Nat.zero_le _) ⟨_, _, _, rfl, rfl, H⟩
