/-! DeafWallModel.does(III)Z -/
set_option maxRecDepth 20000 in
theorem b9_does {X : XX} {G : GG} {I : Nat → Nat → Int32} {L : Nat → Nat → Int64} {h : Nat} {x1 : Int32} {x2 : Int32} {x3 : Int32} {Q : Int32 → (Nat → Nat → Int32) → (Nat → Nat → Int64) → Prop} (ok : OK9 G h) (H : if x1 = 0 then (wpV X B9_beat 0 [(0, .ref h), (1, .int x2)] [] G I L (fun I2 L3 => Q 1 I2 L3)) else (if x1 = 1 then (wpI X B9_wets 0 [(0, .ref h), (1, .int x2), (2, .int 1)] [] G I L (fun r8 I6 L7 => (r8 = 0 ∨ r8 = 1) ∧ (Q r8 I6 L7))) else (if x1 = 2 then (wpI X B9_wets 0 [(0, .ref h), (1, .int x2), (2, .int (-1))] [] G I L (fun r13 I11 L12 => (r13 = 0 ∨ r13 = 1) ∧ (Q r13 I11 L12))) else (if x1 = 3 then (if (v9_isFeeler I h x2) = (0 : Int32) then (Q 0 I L) else (if x1 = 3 then (∀ I19, I19 = up2 I h 18 ((I h 18) ||| ((1 : Int32) <<< (x2 &&& 31))) → Q 1 I19 L) else (∀ I18, I18 = up2 I h 18 ((I h 18) &&& (((1 : Int32) <<< (x2 &&& 31)) ^^^ (-1))) → Q 1 I18 L))) else (if x1 = 4 then (if (v9_isFeeler I h x2) = (0 : Int32) then (Q 0 I L) else (if x1 = 3 then (∀ I25, I25 = up2 I h 18 ((I h 18) ||| ((1 : Int32) <<< (x2 &&& 31))) → Q 1 I25 L) else (∀ I24, I24 = up2 I h 18 ((I h 18) &&& (((1 : Int32) <<< (x2 &&& 31)) ^^^ (-1))) → Q 1 I24 L))) else (wpI X B9_moves 0 [(0, .ref h), (1, .int x2), (2, .int x3)] [] G I L (fun r29 I27 L28 => (r29 = 0 ∨ r29 = 1) ∧ (Q r29 I27 L28)))))))) : wpI X B9_does 0 [(0, .ref h), (1, .int x1), (2, .int x2), (3, .int x3)] [] G I L Q := by
  refine wp_iload_n (z := 1) (i := 1) (x := x1) 1 (by decide +kernel) rfl rfl ?_
  by_cases c1 : x1 = 0
  · rw [if_pos c1] at H
    refine wp_tableIn (dflt := 98) (lo := 0) (hi := 4) (offs := #[35, 42, 49, 56, 56]) (len := 35) (off := 35) (tgt := 36) (by decide +kernel) (by rw [c1]; decide) (by rw [c1]; decide) (by rw [c1]; rfl) (by decide) ?_
    refine wp_aload_n (z := 0) (i := 0) (r := (some h)) 0 (by decide +kernel) rfl rfl ?_
    refine wp_iload_n (z := 2) (i := 2) (x := x2) 2 (by decide +kernel) rfl rfl ?_
    refine wp_callV (idx := 256) (B2 := B9_beat) (As := [.int x2]) (a := h) (st := []) (by decide +kernel) m9_beat ml9_256 k9_beat e9_beat ck9 ok.1 (⟨Nat.le_of_ble_eq_true rfl, Nat.le_of_ble_eq_true rfl⟩ : rOK B9_does B9_beat) rfl (Nat.le_of_ble_eq_true rfl) (Nat.le_of_ble_eq_true rfl) ⟨Nat.le_of_ble_eq_true rfl, Nat.le_of_ble_eq_true rfl⟩ rfl (wp_mono H (fun v9 M9 hq9 => ?_))
    clear H
    obtain ⟨I2, L3, rfl, rfl, H⟩ := hq9
    show wp X B9_does 41 [(0, .ref h), (1, .int x1), (2, .int x2), (3, .int x3)] [] (G, I2, L3) 0 0 _
    refine wp_iconst (z := 1) (v := 1) (by decide +kernel) (by decide) ?_
    exact wp_zret (by decide +kernel) rfl (by decide) (Nat.zero_le _) (Nat.zero_le _) ⟨_, _, _, rfl, rfl, H⟩
  rw [if_neg c1] at H
  by_cases c5 : x1 = 1
  · rw [if_pos c5] at H
    refine wp_tableIn (dflt := 98) (lo := 0) (hi := 4) (offs := #[35, 42, 49, 56, 56]) (len := 35) (off := 42) (tgt := 43) (by decide +kernel) (by rw [c5]; decide) (by rw [c5]; decide) (by rw [c5]; rfl) (by decide) ?_
    refine wp_aload_n (z := 0) (i := 0) (r := (some h)) 0 (by decide +kernel) rfl rfl ?_
    refine wp_iload_n (z := 2) (i := 2) (x := x2) 2 (by decide +kernel) rfl rfl ?_
    refine wp_iconst (z := 1) (v := 1) (by decide +kernel) (by decide) ?_
    refine wp_callV (idx := 362) (B2 := B9_wets) (As := [.int x2, .int 1]) (a := h) (st := []) (by decide +kernel) m9_wets ml9_362 k9_wets e9_wets ck9 ok.1 (⟨Nat.le_of_ble_eq_true rfl, Nat.le_of_ble_eq_true rfl⟩ : rOK B9_does B9_wets) rfl (Nat.le_of_ble_eq_true rfl) (Nat.le_of_ble_eq_true rfl) ⟨Nat.le_of_ble_eq_true rfl, Nat.le_of_ble_eq_true rfl⟩ rfl (wp_mono H (fun v9 M9 hq9 => ?_))
    clear H
    obtain ⟨r8, I6, L7, rfl, rfl, H⟩ := hq9
    show wp X B9_does 49 [(0, .ref h), (1, .int x1), (2, .int x2), (3, .int x3)] [.int r8] (G, I6, L7) 0 0 _
    obtain ⟨o9, H⟩ := H
    exact wp_zret (by decide +kernel) rfl o9 (Nat.zero_le _) (Nat.zero_le _) ⟨_, _, _, rfl, rfl, H⟩
  rw [if_neg c5] at H
  by_cases c10 : x1 = 2
  · rw [if_pos c10] at H
    refine wp_tableIn (dflt := 98) (lo := 0) (hi := 4) (offs := #[35, 42, 49, 56, 56]) (len := 35) (off := 49) (tgt := 50) (by decide +kernel) (by rw [c10]; decide) (by rw [c10]; decide) (by rw [c10]; rfl) (by decide) ?_
    refine wp_aload_n (z := 0) (i := 0) (r := (some h)) 0 (by decide +kernel) rfl rfl ?_
    refine wp_iload_n (z := 2) (i := 2) (x := x2) 2 (by decide +kernel) rfl rfl ?_
    refine wp_iconst (z := -1) (v := (-1)) (by decide +kernel) (by decide) ?_
    refine wp_callV (idx := 362) (B2 := B9_wets) (As := [.int x2, .int (-1)]) (a := h) (st := []) (by decide +kernel) m9_wets ml9_362 k9_wets e9_wets ck9 ok.1 (⟨Nat.le_of_ble_eq_true rfl, Nat.le_of_ble_eq_true rfl⟩ : rOK B9_does B9_wets) rfl (Nat.le_of_ble_eq_true rfl) (Nat.le_of_ble_eq_true rfl) ⟨Nat.le_of_ble_eq_true rfl, Nat.le_of_ble_eq_true rfl⟩ rfl (wp_mono H (fun v9 M9 hq9 => ?_))
    clear H
    obtain ⟨r13, I11, L12, rfl, rfl, H⟩ := hq9
    show wp X B9_does 56 [(0, .ref h), (1, .int x1), (2, .int x2), (3, .int x3)] [.int r13] (G, I11, L12) 0 0 _
    obtain ⟨o14, H⟩ := H
    exact wp_zret (by decide +kernel) rfl o14 (Nat.zero_le _) (Nat.zero_le _) ⟨_, _, _, rfl, rfl, H⟩
  rw [if_neg c10] at H
  by_cases c15 : x1 = 3
  · rw [if_pos c15] at H
    refine wp_tableIn (dflt := 98) (lo := 0) (hi := 4) (offs := #[35, 42, 49, 56, 56]) (len := 35) (off := 56) (tgt := 57) (by decide +kernel) (by rw [c15]; decide) (by rw [c15]; decide) (by rw [c15]; rfl) (by decide) ?_
    refine wp_aload_n (z := 0) (i := 0) (r := (some h)) 0 (by decide +kernel) rfl rfl ?_
    refine wp_iload_n (z := 2) (i := 2) (x := x2) 2 (by decide +kernel) rfl rfl ?_
    refine wp_callV (idx := 199) (B2 := B9_isFeeler) (As := [.int x2]) (a := h) (st := []) (by decide +kernel) m9_isFeeler ml9_199 k9_isFeeler e9_isFeeler ck9 ok.1 (⟨Nat.le_of_ble_eq_true rfl, Nat.le_of_ble_eq_true rfl⟩ : rOK B9_does B9_isFeeler) rfl (Nat.le_of_ble_eq_true rfl) (Nat.le_of_ble_eq_true rfl) ⟨Nat.le_of_ble_eq_true rfl, Nat.le_of_ble_eq_true rfl⟩ rfl (wp_mono (b9_isFeeler (Q := (fun r I' L' => r = (v9_isFeeler I h x2) ∧ I = I' ∧ L = L')) ok ⟨rfl, rfl, rfl⟩) (fun v9 M9 hq9 => ?_))
    obtain ⟨_, _, _, rfl, rfl, rfl, rfl, rfl⟩ := hq9
    show wp X B9_does 62 [(0, .ref h), (1, .int x1), (2, .int x2), (3, .int x3)] [.int (v9_isFeeler I h x2)] (G, I, L) 0 0 _
    refine wp_if_ne (off := 5) (tgt := 67) (by decide +kernel) (by decide) (fun c16 => ?_) (fun c16 => ?_)
    · rw [if_neg c16] at H
      refine wp_aload_n (z := 0) (i := 0) (r := (some h)) 0 (by decide +kernel) rfl rfl ?_
      refine wp_iload_n (z := 1) (i := 1) (x := x1) 1 (by decide +kernel) rfl rfl ?_
      refine wp_iconst (z := 3) (v := 3) (by decide +kernel) (by decide) ?_
      refine wp_icmp_ne (off := 14) (tgt := 84) (by decide +kernel) (by decide) (fun c17 => ?_) (fun c17 => ?_)
      · rw [if_neg c17] at H
        refine wp_aload_n (z := 0) (i := 0) (r := (some h)) 0 (by decide +kernel) rfl rfl ?_
        refine wp_getI (idx := 223) (by decide +kernel) fl9_223 rfl ok.1 ?_
        refine wp_iconst (z := 1) (v := 1) (by decide +kernel) (by decide) ?_
        refine wp_iload_n (z := 2) (i := 2) (x := x2) 2 (by decide +kernel) rfl rfl ?_
        refine wp_ishl (by decide +kernel) ?_
        refine wp_iconst (z := -1) (v := (-1)) (by decide +kernel) (by decide) ?_
        refine wp_ixor (by decide +kernel) ?_
        refine wp_iand (by decide +kernel) ?_
        refine wp_putI (idx := 223) (by decide +kernel) fl9_223 rfl ok.1 ?_
        refine wp_memI (fun I18 eI18 => ?_)
        replace H := H I18 eI18
        refine wp_iconst (z := 1) (v := 1) (by decide +kernel) (by decide) ?_
        exact wp_zret (by decide +kernel) rfl (by decide) (Nat.zero_le _) (Nat.zero_le _) ⟨_, _, _, rfl, rfl, H⟩
      · rw [if_pos c17] at H
        refine wp_aload_n (z := 0) (i := 0) (r := (some h)) 0 (by decide +kernel) rfl rfl ?_
        refine wp_getI (idx := 223) (by decide +kernel) fl9_223 rfl ok.1 ?_
        refine wp_iconst (z := 1) (v := 1) (by decide +kernel) (by decide) ?_
        refine wp_iload_n (z := 2) (i := 2) (x := x2) 2 (by decide +kernel) rfl rfl ?_
        refine wp_ishl (by decide +kernel) ?_
        refine wp_ior (by decide +kernel) ?_
        refine wp_goto (off := 13) (tgt := 94) (by decide +kernel) (by decide) ?_
        refine wp_putI (idx := 223) (by decide +kernel) fl9_223 rfl ok.1 ?_
        refine wp_memI (fun I19 eI19 => ?_)
        replace H := H I19 eI19
        refine wp_iconst (z := 1) (v := 1) (by decide +kernel) (by decide) ?_
        exact wp_zret (by decide +kernel) rfl (by decide) (Nat.zero_le _) (Nat.zero_le _) ⟨_, _, _, rfl, rfl, H⟩
    · rw [if_pos c16] at H
      refine wp_iconst (z := 0) (v := 0) (by decide +kernel) (by decide) ?_
      exact wp_zret (by decide +kernel) rfl (by decide) (Nat.zero_le _) (Nat.zero_le _) ⟨_, _, _, rfl, rfl, H⟩
  rw [if_neg c15] at H
  by_cases c21 : x1 = 4
  · rw [if_pos c21] at H
    refine wp_tableIn (dflt := 98) (lo := 0) (hi := 4) (offs := #[35, 42, 49, 56, 56]) (len := 35) (off := 56) (tgt := 57) (by decide +kernel) (by rw [c21]; decide) (by rw [c21]; decide) (by rw [c21]; rfl) (by decide) ?_
    refine wp_aload_n (z := 0) (i := 0) (r := (some h)) 0 (by decide +kernel) rfl rfl ?_
    refine wp_iload_n (z := 2) (i := 2) (x := x2) 2 (by decide +kernel) rfl rfl ?_
    refine wp_callV (idx := 199) (B2 := B9_isFeeler) (As := [.int x2]) (a := h) (st := []) (by decide +kernel) m9_isFeeler ml9_199 k9_isFeeler e9_isFeeler ck9 ok.1 (⟨Nat.le_of_ble_eq_true rfl, Nat.le_of_ble_eq_true rfl⟩ : rOK B9_does B9_isFeeler) rfl (Nat.le_of_ble_eq_true rfl) (Nat.le_of_ble_eq_true rfl) ⟨Nat.le_of_ble_eq_true rfl, Nat.le_of_ble_eq_true rfl⟩ rfl (wp_mono (b9_isFeeler (Q := (fun r I' L' => r = (v9_isFeeler I h x2) ∧ I = I' ∧ L = L')) ok ⟨rfl, rfl, rfl⟩) (fun v9 M9 hq9 => ?_))
    obtain ⟨_, _, _, rfl, rfl, rfl, rfl, rfl⟩ := hq9
    show wp X B9_does 62 [(0, .ref h), (1, .int x1), (2, .int x2), (3, .int x3)] [.int (v9_isFeeler I h x2)] (G, I, L) 0 0 _
    refine wp_if_ne (off := 5) (tgt := 67) (by decide +kernel) (by decide) (fun c22 => ?_) (fun c22 => ?_)
    · rw [if_neg c22] at H
      refine wp_aload_n (z := 0) (i := 0) (r := (some h)) 0 (by decide +kernel) rfl rfl ?_
      refine wp_iload_n (z := 1) (i := 1) (x := x1) 1 (by decide +kernel) rfl rfl ?_
      refine wp_iconst (z := 3) (v := 3) (by decide +kernel) (by decide) ?_
      refine wp_icmp_ne (off := 14) (tgt := 84) (by decide +kernel) (by decide) (fun c23 => ?_) (fun c23 => ?_)
      · rw [if_neg c23] at H
        refine wp_aload_n (z := 0) (i := 0) (r := (some h)) 0 (by decide +kernel) rfl rfl ?_
        refine wp_getI (idx := 223) (by decide +kernel) fl9_223 rfl ok.1 ?_
        refine wp_iconst (z := 1) (v := 1) (by decide +kernel) (by decide) ?_
        refine wp_iload_n (z := 2) (i := 2) (x := x2) 2 (by decide +kernel) rfl rfl ?_
        refine wp_ishl (by decide +kernel) ?_
        refine wp_iconst (z := -1) (v := (-1)) (by decide +kernel) (by decide) ?_
        refine wp_ixor (by decide +kernel) ?_
        refine wp_iand (by decide +kernel) ?_
        refine wp_putI (idx := 223) (by decide +kernel) fl9_223 rfl ok.1 ?_
        refine wp_memI (fun I24 eI24 => ?_)
        replace H := H I24 eI24
        refine wp_iconst (z := 1) (v := 1) (by decide +kernel) (by decide) ?_
        exact wp_zret (by decide +kernel) rfl (by decide) (Nat.zero_le _) (Nat.zero_le _) ⟨_, _, _, rfl, rfl, H⟩
      · rw [if_pos c23] at H
        refine wp_aload_n (z := 0) (i := 0) (r := (some h)) 0 (by decide +kernel) rfl rfl ?_
        refine wp_getI (idx := 223) (by decide +kernel) fl9_223 rfl ok.1 ?_
        refine wp_iconst (z := 1) (v := 1) (by decide +kernel) (by decide) ?_
        refine wp_iload_n (z := 2) (i := 2) (x := x2) 2 (by decide +kernel) rfl rfl ?_
        refine wp_ishl (by decide +kernel) ?_
        refine wp_ior (by decide +kernel) ?_
        refine wp_goto (off := 13) (tgt := 94) (by decide +kernel) (by decide) ?_
        refine wp_putI (idx := 223) (by decide +kernel) fl9_223 rfl ok.1 ?_
        refine wp_memI (fun I25 eI25 => ?_)
        replace H := H I25 eI25
        refine wp_iconst (z := 1) (v := 1) (by decide +kernel) (by decide) ?_
        exact wp_zret (by decide +kernel) rfl (by decide) (Nat.zero_le _) (Nat.zero_le _) ⟨_, _, _, rfl, rfl, H⟩
    · rw [if_pos c22] at H
      refine wp_iconst (z := 0) (v := 0) (by decide +kernel) (by decide) ?_
      exact wp_zret (by decide +kernel) rfl (by decide) (Nat.zero_le _) (Nat.zero_le _) ⟨_, _, _, rfl, rfl, H⟩
  rw [if_neg c21] at H
  have qc1 := sw_ne c1 (z := 0) (by decide)
  have qc5 := sw_ne c5 (z := 1) (by decide)
  have qc10 := sw_ne c10 (z := 2) (by decide)
  have qc15 := sw_ne c15 (z := 3) (by decide)
  have qc21 := sw_ne c21 (z := 4) (by decide)
  refine wp_tableOut (dflt := 98) (lo := 0) (hi := 4) (offs := #[35, 42, 49, 56, 56]) (len := 35) (tgt := 99) (by decide +kernel) (by omega) (by decide) ?_
  refine wp_aload_n (z := 0) (i := 0) (r := (some h)) 0 (by decide +kernel) rfl rfl ?_
  refine wp_iload_n (z := 2) (i := 2) (x := x2) 2 (by decide +kernel) rfl rfl ?_
  refine wp_iload_n (z := 3) (i := 3) (x := x3) 3 (by decide +kernel) rfl rfl ?_
  refine wp_callV (idx := 365) (B2 := B9_moves) (As := [.int x2, .int x3]) (a := h) (st := []) (by decide +kernel) m9_moves ml9_365 k9_moves e9_moves ck9 ok.1 (⟨Nat.le_of_ble_eq_true rfl, Nat.le_of_ble_eq_true rfl⟩ : rOK B9_does B9_moves) rfl (Nat.le_of_ble_eq_true rfl) (Nat.le_of_ble_eq_true rfl) ⟨Nat.le_of_ble_eq_true rfl, Nat.le_of_ble_eq_true rfl⟩ rfl (wp_mono H (fun v9 M9 hq9 => ?_))
  clear H
  obtain ⟨r29, I27, L28, rfl, rfl, H⟩ := hq9
  show wp X B9_does 105 [(0, .ref h), (1, .int x1), (2, .int x2), (3, .int x3)] [.int r29] (G, I27, L28) 0 0 _
  obtain ⟨o30, H⟩ := H
  exact wp_zret (by decide +kernel) rfl o30 (Nat.zero_le _) (Nat.zero_le _) ⟨_, _, _, rfl, rfl, H⟩
/-! DeafWallModel.doesTold(I)Z -/
set_option maxRecDepth 20000 in
theorem b9_doesTold {X : XX} {G : GG} {I : Nat → Nat → Int32} {L : Nat → Nat → Int64} {h : Nat} {x1 : Int32} {Q : Int32 → (Nat → Nat → Int32) → (Nat → Nat → Int64) → Prop} (ok : OK9 G h) (H : vp_in (((I h 36) + 1) + (3 * x1)) 4096 ∧ (vp_in (((I h 36) + 2) + (3 * x1)) 4096 ∧ (vp_in (((I h 36) + 3) + (3 * x1)) 4096 ∧ (wpI X B9_does 0 [(0, .ref h), (1, .int (I (h + 1) (cl (((I h 36) + 1) + (3 * x1))))), (2, .int (I (h + 1) (cl (((I h 36) + 2) + (3 * x1))))), (3, .int (I (h + 1) (cl (((I h 36) + 3) + (3 * x1)))))] [] G I L (fun r3 I1 L2 => (r3 = 0 ∨ r3 = 1) ∧ (Q r3 I1 L2)))))) : wpI X B9_doesTold 0 [(0, .ref h), (1, .int x1)] [] G I L Q := by
  refine wp_aload_n (z := 0) (i := 0) (r := (some h)) 0 (by decide +kernel) rfl rfl ?_
  refine wp_aload_n (z := 0) (i := 0) (r := (some h)) 0 (by decide +kernel) rfl rfl ?_
  refine wp_getS (idx := 7) (q := (h + 1)) (by decide +kernel) fl9_7 rfl ok.1 (okr9_0 ok) ?_
  refine wp_aload_n (z := 0) (i := 0) (r := (some h)) 0 (by decide +kernel) rfl rfl ?_
  refine wp_getI (idx := 356) (by decide +kernel) fl9_356 rfl ok.1 ?_
  refine wp_iconst (z := 1) (v := 1) (by decide +kernel) (by decide) ?_
  refine wp_iadd (by decide +kernel) ?_
  refine wp_iconst (z := 3) (v := 3) (by decide +kernel) (by decide) ?_
  refine wp_iload_n (z := 1) (i := 1) (x := x1) 1 (by decide +kernel) rfl rfl ?_
  refine wp_imul (by decide +kernel) ?_
  refine wp_iadd (by decide +kernel) ?_
  obtain ⟨o7, H⟩ := H
  refine wp_iald (j := (cl (((I h 36) + 1) + (3 * x1)))) (by decide +kernel) (oks9_0 ok) o7 rfl ?_
  refine wp_aload_n (z := 0) (i := 0) (r := (some h)) 0 (by decide +kernel) rfl rfl ?_
  refine wp_getS (idx := 7) (q := (h + 1)) (by decide +kernel) fl9_7 rfl ok.1 (okr9_0 ok) ?_
  refine wp_aload_n (z := 0) (i := 0) (r := (some h)) 0 (by decide +kernel) rfl rfl ?_
  refine wp_getI (idx := 356) (by decide +kernel) fl9_356 rfl ok.1 ?_
  refine wp_iconst (z := 2) (v := 2) (by decide +kernel) (by decide) ?_
  refine wp_iadd (by decide +kernel) ?_
  refine wp_iconst (z := 3) (v := 3) (by decide +kernel) (by decide) ?_
  refine wp_iload_n (z := 1) (i := 1) (x := x1) 1 (by decide +kernel) rfl rfl ?_
  refine wp_imul (by decide +kernel) ?_
  refine wp_iadd (by decide +kernel) ?_
  obtain ⟨o6, H⟩ := H
  refine wp_iald (j := (cl (((I h 36) + 2) + (3 * x1)))) (by decide +kernel) (oks9_0 ok) o6 rfl ?_
  refine wp_aload_n (z := 0) (i := 0) (r := (some h)) 0 (by decide +kernel) rfl rfl ?_
  refine wp_getS (idx := 7) (q := (h + 1)) (by decide +kernel) fl9_7 rfl ok.1 (okr9_0 ok) ?_
  refine wp_aload_n (z := 0) (i := 0) (r := (some h)) 0 (by decide +kernel) rfl rfl ?_
  refine wp_getI (idx := 356) (by decide +kernel) fl9_356 rfl ok.1 ?_
  refine wp_iconst (z := 3) (v := 3) (by decide +kernel) (by decide) ?_
  refine wp_iadd (by decide +kernel) ?_
  refine wp_iconst (z := 3) (v := 3) (by decide +kernel) (by decide) ?_
  refine wp_iload_n (z := 1) (i := 1) (x := x1) 1 (by decide +kernel) rfl rfl ?_
  refine wp_imul (by decide +kernel) ?_
  refine wp_iadd (by decide +kernel) ?_
  obtain ⟨o5, H⟩ := H
  refine wp_iald (j := (cl (((I h 36) + 3) + (3 * x1)))) (by decide +kernel) (oks9_0 ok) o5 rfl ?_
  refine wp_callV (idx := 368) (B2 := B9_does) (As := [.int (I (h + 1) (cl (((I h 36) + 1) + (3 * x1)))), .int (I (h + 1) (cl (((I h 36) + 2) + (3 * x1)))), .int (I (h + 1) (cl (((I h 36) + 3) + (3 * x1))))]) (a := h) (st := []) (by decide +kernel) m9_does ml9_368 k9_does e9_does ck9 ok.1 (⟨Nat.le_of_ble_eq_true rfl, Nat.le_of_ble_eq_true rfl⟩ : rOK B9_doesTold B9_does) rfl (Nat.le_of_ble_eq_true rfl) (Nat.le_of_ble_eq_true rfl) ⟨Nat.le_of_ble_eq_true rfl, Nat.le_of_ble_eq_true rfl⟩ rfl (wp_mono H (fun v9 M9 hq9 => ?_))
  clear H
  obtain ⟨r3, I1, L2, rfl, rfl, H⟩ := hq9
  show wp X B9_doesTold 49 [(0, .ref h), (1, .int x1)] [.int r3] (G, I1, L2) 0 0 _
  obtain ⟨o4, H⟩ := H
  exact wp_zret (by decide +kernel) rfl o4 (Nat.zero_le _) (Nat.zero_le _) ⟨_, _, _, rfl, rfl, H⟩
/-! DeafWallModel.runs(I)V -/
set_option maxRecDepth 20000 in
theorem b9_runs {X : XX} {G : GG} {I : Nat → Nat → Int32} {L : Nat → Nat → Int64} {h : Nat} {x1 : Int32} {Q : (Nat → Nat → Int32) → (Nat → Nat → Int64) → Prop} (ok : OK9 G h) (H : wpV X B9_begins 0 [(0, .ref h)] [] G I L (fun I1 L2 => wpV X B9_runs 4 [(0, .ref h), (1, .int x1)] [] G I1 L2 Q)) : wpV X B9_runs 0 [(0, .ref h), (1, .int x1)] [] G I L Q := by
  refine wp_aload_n (z := 0) (i := 0) (r := (some h)) 0 (by decide +kernel) rfl rfl ?_
  refine wp_callV (idx := 253) (B2 := B9_begins) (As := []) (a := h) (st := []) (by decide +kernel) m9_begins ml9_253 k9_begins e9_begins ck9 ok.1 (⟨Nat.le_of_ble_eq_true rfl, Nat.le_of_ble_eq_true rfl⟩ : rOK B9_runs B9_begins) rfl (Nat.le_of_ble_eq_true rfl) (Nat.le_of_ble_eq_true rfl) ⟨Nat.le_of_ble_eq_true rfl, Nat.le_of_ble_eq_true rfl⟩ rfl (wp_mono H (fun v9 M9 hq9 => ?_))
  clear H
  obtain ⟨I1, L2, rfl, rfl, H⟩ := hq9
  show wp X B9_runs 4 [(0, .ref h), (1, .int x1)] [] (G, I1, L2) 0 0 _
  exact wp_sub [0, 1] rfl H
set_option maxRecDepth 20000 in
theorem b9_runs_4 {X : XX} {G : GG} {I : Nat → Nat → Int32} {L : Nat → Nat → Int64} {h : Nat} {x1 : Int32} {Q : (Nat → Nat → Int32) → (Nat → Nat → Int64) → Prop} (ok : OK9 G h) (H : if x1 ≤ (I h 19) then (Q I L) else (vp_in (I h 36) 4096 ∧ (if (I (h + 1) (cl (I h 36))) ≤ (I h 19) then (Q I L) else (wpI X B9_doesTold 0 [(0, .ref h), (1, .int (I h 19))] [] G I L (fun r5 I3 L4 => if r5 = (0 : Int32) then (Q I3 L4) else (∀ I7, I7 = up2 I3 h 19 ((I3 h 19) + 1) → wpV X B9_runs 4 [(0, .ref h), (1, .int x1)] [] G I7 L4 Q)))))) : wpV X B9_runs 4 [(0, .ref h), (1, .int x1)] [] G I L Q := by
  refine wp_aload_n (z := 0) (i := 0) (r := (some h)) 0 (by decide +kernel) rfl rfl ?_
  refine wp_getI (idx := 226) (by decide +kernel) fl9_226 rfl ok.1 ?_
  refine wp_iload_n (z := 1) (i := 1) (x := x1) 1 (by decide +kernel) rfl rfl ?_
  refine wp_icmp_ge (off := 43) (tgt := 52) (by decide +kernel) (by decide) (fun c1 => ?_) (fun c1 => ?_)
  · rw [if_pos c1] at H
    exact wp_vret (by decide +kernel) rfl (Nat.zero_le _) (Nat.zero_le _) ⟨_, _, rfl, rfl, H⟩
  · rw [if_neg c1] at H
    refine wp_aload_n (z := 0) (i := 0) (r := (some h)) 0 (by decide +kernel) rfl rfl ?_
    refine wp_getI (idx := 226) (by decide +kernel) fl9_226 rfl ok.1 ?_
    refine wp_aload_n (z := 0) (i := 0) (r := (some h)) 0 (by decide +kernel) rfl rfl ?_
    refine wp_getS (idx := 7) (q := (h + 1)) (by decide +kernel) fl9_7 rfl ok.1 (okr9_0 ok) ?_
    refine wp_aload_n (z := 0) (i := 0) (r := (some h)) 0 (by decide +kernel) rfl rfl ?_
    refine wp_getI (idx := 356) (by decide +kernel) fl9_356 rfl ok.1 ?_
    obtain ⟨o8, H⟩ := H
    refine wp_iald (j := (cl (I h 36))) (by decide +kernel) (oks9_0 ok) o8 rfl ?_
    refine wp_icmp_ge (off := 27) (tgt := 52) (by decide +kernel) (by decide) (fun c2 => ?_) (fun c2 => ?_)
    · rw [if_pos c2] at H
      exact wp_vret (by decide +kernel) rfl (Nat.zero_le _) (Nat.zero_le _) ⟨_, _, rfl, rfl, H⟩
    · rw [if_neg c2] at H
      refine wp_aload_n (z := 0) (i := 0) (r := (some h)) 0 (by decide +kernel) rfl rfl ?_
      refine wp_aload_n (z := 0) (i := 0) (r := (some h)) 0 (by decide +kernel) rfl rfl ?_
      refine wp_getI (idx := 226) (by decide +kernel) fl9_226 rfl ok.1 ?_
      refine wp_callV (idx := 371) (B2 := B9_doesTold) (As := [.int (I h 19)]) (a := h) (st := []) (by decide +kernel) m9_doesTold ml9_371 k9_doesTold e9_doesTold ck9 ok.1 (⟨Nat.le_of_ble_eq_true rfl, Nat.le_of_ble_eq_true rfl⟩ : rOK B9_runs B9_doesTold) rfl (Nat.le_of_ble_eq_true rfl) (Nat.le_of_ble_eq_true rfl) ⟨Nat.le_of_ble_eq_true rfl, Nat.le_of_ble_eq_true rfl⟩ rfl (wp_mono H (fun v9 M9 hq9 => ?_))
      clear H
      obtain ⟨r5, I3, L4, rfl, rfl, H⟩ := hq9
      show wp X B9_runs 36 [(0, .ref h), (1, .int x1)] [.int r5] (G, I3, L4) 0 0 _
      refine wp_if_eq (off := 16) (tgt := 52) (by decide +kernel) (by decide) (fun c6 => ?_) (fun c6 => ?_)
      · rw [if_pos c6] at H
        exact wp_vret (by decide +kernel) rfl (Nat.zero_le _) (Nat.zero_le _) ⟨_, _, rfl, rfl, H⟩
      · rw [if_neg c6] at H
        refine wp_aload_n (z := 0) (i := 0) (r := (some h)) 0 (by decide +kernel) rfl rfl ?_
        refine wp_dup (by decide +kernel) rfl ?_
        refine wp_getI (idx := 226) (by decide +kernel) fl9_226 rfl ok.1 ?_
        refine wp_iconst (z := 1) (v := 1) (by decide +kernel) (by decide) ?_
        refine wp_iadd (by decide +kernel) ?_
        refine wp_putI (idx := 226) (by decide +kernel) fl9_226 rfl ok.1 ?_
        refine wp_memI (fun I7 eI7 => ?_)
        replace H := H I7 eI7
        refine wp_goto (off := -45) (tgt := 4) (by decide +kernel) (by decide) ?_
        exact wp_sub [0, 1] rfl H
/-! DeafWallModel.stop(II)I -/
set_option maxRecDepth 20000 in
theorem b9_stop {X : XX} {G : GG} {I : Nat → Nat → Int32} {L : Nat → Nat → Int64} {h : Nat} {x1 : Int32} {x2 : Int32} {Q : Int32 → (Nat → Nat → Int32) → (Nat → Nat → Int64) → Prop} (ok : OK9 G h) (H : wpI X B9_isWall 0 [(0, .ref h), (1, .int x1)] [] G I L (fun r3 I1 L2 => if r3 = (0 : Int32) then (Q (-1) I1 L2) else (wpI X B9_isDay 0 [(0, .ref h), (1, .int x2)] [] G I1 L2 (fun r7 I5 L6 => if r7 = (0 : Int32) then (Q (-1) I5 L6) else (wpV X B9_runs 0 [(0, .ref h), (1, .int 40)] [] G I5 L6 (fun I9 L10 => Q (I9 h 19) I9 L10)))))) : wpI X B9_stop 0 [(0, .ref h), (1, .int x1), (2, .int x2)] [] G I L Q := by
  refine wp_aload_n (z := 0) (i := 0) (r := (some h)) 0 (by decide +kernel) rfl rfl ?_
  refine wp_iload_n (z := 1) (i := 1) (x := x1) 1 (by decide +kernel) rfl rfl ?_
  refine wp_callV (idx := 196) (B2 := B9_isWall) (As := [.int x1]) (a := h) (st := []) (by decide +kernel) m9_isWall ml9_196 k9_isWall e9_isWall ck9 ok.1 (⟨Nat.le_of_ble_eq_true rfl, Nat.le_of_ble_eq_true rfl⟩ : rOK B9_stop B9_isWall) rfl (Nat.le_of_ble_eq_true rfl) (Nat.le_of_ble_eq_true rfl) ⟨Nat.le_of_ble_eq_true rfl, Nat.le_of_ble_eq_true rfl⟩ rfl (wp_mono H (fun v9 M9 hq9 => ?_))
  clear H
  obtain ⟨r3, I1, L2, rfl, rfl, H⟩ := hq9
  show wp X B9_stop 5 [(0, .ref h), (1, .int x1), (2, .int x2)] [.int r3] (G, I1, L2) 0 0 _
  refine wp_if_eq (off := 11) (tgt := 16) (by decide +kernel) (by decide) (fun c4 => ?_) (fun c4 => ?_)
  · rw [if_pos c4] at H
    refine wp_iconst (z := -1) (v := (-1)) (by decide +kernel) (by decide) ?_
    exact wp_iret (by decide +kernel) rfl (Nat.zero_le _) (Nat.zero_le _) ⟨_, _, _, rfl, rfl, H⟩
  · rw [if_neg c4] at H
    refine wp_aload_n (z := 0) (i := 0) (r := (some h)) 0 (by decide +kernel) rfl rfl ?_
    refine wp_iload_n (z := 2) (i := 2) (x := x2) 2 (by decide +kernel) rfl rfl ?_
    refine wp_callV (idx := 359) (B2 := B9_isDay) (As := [.int x2]) (a := h) (st := []) (by decide +kernel) m9_isDay ml9_359 k9_isDay e9_isDay ck9 ok.1 (⟨Nat.le_of_ble_eq_true rfl, Nat.le_of_ble_eq_true rfl⟩ : rOK B9_stop B9_isDay) rfl (Nat.le_of_ble_eq_true rfl) (Nat.le_of_ble_eq_true rfl) ⟨Nat.le_of_ble_eq_true rfl, Nat.le_of_ble_eq_true rfl⟩ rfl (wp_mono H (fun v9 M9 hq9 => ?_))
    clear H
    obtain ⟨r7, I5, L6, rfl, rfl, H⟩ := hq9
    show wp X B9_stop 13 [(0, .ref h), (1, .int x1), (2, .int x2)] [.int r7] (G, I5, L6) 0 0 _
    refine wp_if_ne (off := 5) (tgt := 18) (by decide +kernel) (by decide) (fun c8 => ?_) (fun c8 => ?_)
    · rw [if_neg c8] at H
      refine wp_aload_n (z := 0) (i := 0) (r := (some h)) 0 (by decide +kernel) rfl rfl ?_
      refine wp_bipush (z := 40) (v := 40) (by decide +kernel) (by decide) ?_
      refine wp_callV (idx := 374) (B2 := B9_runs) (As := [.int 40]) (a := h) (st := []) (by decide +kernel) m9_runs ml9_374 k9_runs e9_runs ck9 ok.1 (⟨Nat.le_of_ble_eq_true rfl, Nat.le_of_ble_eq_true rfl⟩ : rOK B9_stop B9_runs) rfl (Nat.le_of_ble_eq_true rfl) (Nat.le_of_ble_eq_true rfl) ⟨Nat.le_of_ble_eq_true rfl, Nat.le_of_ble_eq_true rfl⟩ rfl (wp_mono H (fun v9 M9 hq9 => ?_))
      clear H
      obtain ⟨I9, L10, rfl, rfl, H⟩ := hq9
      show wp X B9_stop 24 [(0, .ref h), (1, .int x1), (2, .int x2)] [] (G, I9, L10) 0 0 _
      refine wp_aload_n (z := 0) (i := 0) (r := (some h)) 0 (by decide +kernel) rfl rfl ?_
      refine wp_getI (idx := 226) (by decide +kernel) fl9_226 rfl ok.1 ?_
      exact wp_iret (by decide +kernel) rfl (Nat.zero_le _) (Nat.zero_le _) ⟨_, _, _, rfl, rfl, H⟩
    · rw [if_pos c8] at H
      refine wp_iconst (z := -1) (v := (-1)) (by decide +kernel) (by decide) ?_
      exact wp_iret (by decide +kernel) rfl (Nat.zero_le _) (Nat.zero_le _) ⟨_, _, _, rfl, rfl, H⟩
/-! DeafWallModel.nowOf(I)I -/
set_option maxRecDepth 20000 in
theorem b9_nowOf {X : XX} {G : GG} {I : Nat → Nat → Int32} {L : Nat → Nat → Int64} {h : Nat} {x1 : Int32} {Q : Int32 → (Nat → Nat → Int32) → (Nat → Nat → Int64) → Prop} (ok : OK9 G h) (H : if x1 = 0 then (Q (I h 17) I L) else (if x1 = 1 then (Q (I h 18) I L) else (if x1 = 2 then (wpI X B9_couplesTold 0 [(0, .ref h)] [] G I L (fun r6 I4 L5 => Q r6 I4 L5)) else (if x1 < 200 then (if x1 < 100 then (∀ u9, u9 = (x1 - x1 / 10 * 10) → if (v9_isFeeler I h u9) = (0 : Int32) then (Q (-2) I L) else (if (x1 / 10) = 1 then (vp_in u9 6 ∧ (Q (I (h + 7) (cl u9)) I L)) else (if (x1 / 10) = 2 then (vp_in u9 6 ∧ (Q (I (h + 9) (cl u9)) I L)) else (if (x1 / 10) = 3 then (vp_in u9 6 ∧ (Q (I (h + 10) (cl u9)) I L)) else (if (x1 / 10) = 4 then (vp_in u9 6 ∧ (Q (I (h + 8) (cl u9)) I L)) else (Q (-2) I L)))))) else (if (v9_isCell I h (x1 - 100)) = (0 : Int32) then (Q (-2) I L) else (vp_in (x1 - 100) 32 ∧ (Q (I (h + 5) (cl (x1 - 100))) I L)))) else (if (v9_isCell I h (x1 - 200)) = (0 : Int32) then (Q (-2) I L) else (vp_in (x1 - 200) 32 ∧ (Q (I (h + 4) (cl (x1 - 200))) I L))))))) : wpI X B9_nowOf 0 [(0, .ref h), (1, .int x1)] [] G I L Q := by
  refine wp_iload_n (z := 1) (i := 1) (x := x1) 1 (by decide +kernel) rfl rfl ?_
  by_cases c1 : x1 = 0
  · rw [if_pos c1] at H
    refine wp_tableIn (dflt := 42) (lo := 0) (hi := 2) (offs := #[27, 32, 37]) (len := 27) (off := 27) (tgt := 28) (by decide +kernel) (by rw [c1]; decide) (by rw [c1]; decide) (by rw [c1]; rfl) (by decide) ?_
    refine wp_aload_n (z := 0) (i := 0) (r := (some h)) 0 (by decide +kernel) rfl rfl ?_
    refine wp_getI (idx := 220) (by decide +kernel) fl9_220 rfl ok.1 ?_
    exact wp_iret (by decide +kernel) rfl (Nat.zero_le _) (Nat.zero_le _) ⟨_, _, _, rfl, rfl, H⟩
  rw [if_neg c1] at H
  by_cases c2 : x1 = 1
  · rw [if_pos c2] at H
    refine wp_tableIn (dflt := 42) (lo := 0) (hi := 2) (offs := #[27, 32, 37]) (len := 27) (off := 32) (tgt := 33) (by decide +kernel) (by rw [c2]; decide) (by rw [c2]; decide) (by rw [c2]; rfl) (by decide) ?_
    refine wp_aload_n (z := 0) (i := 0) (r := (some h)) 0 (by decide +kernel) rfl rfl ?_
    refine wp_getI (idx := 223) (by decide +kernel) fl9_223 rfl ok.1 ?_
    exact wp_iret (by decide +kernel) rfl (Nat.zero_le _) (Nat.zero_le _) ⟨_, _, _, rfl, rfl, H⟩
  rw [if_neg c2] at H
  by_cases c3 : x1 = 2
  · rw [if_pos c3] at H
    refine wp_tableIn (dflt := 42) (lo := 0) (hi := 2) (offs := #[27, 32, 37]) (len := 27) (off := 37) (tgt := 38) (by decide +kernel) (by rw [c3]; decide) (by rw [c3]; decide) (by rw [c3]; rfl) (by decide) ?_
    refine wp_aload_n (z := 0) (i := 0) (r := (some h)) 0 (by decide +kernel) rfl rfl ?_
    refine wp_callV (idx := 274) (B2 := B9_couplesTold) (As := []) (a := h) (st := []) (by decide +kernel) m9_couplesTold ml9_274 k9_couplesTold e9_couplesTold ck9 ok.1 (⟨Nat.le_of_ble_eq_true rfl, Nat.le_of_ble_eq_true rfl⟩ : rOK B9_nowOf B9_couplesTold) rfl (Nat.le_of_ble_eq_true rfl) (Nat.le_of_ble_eq_true rfl) ⟨Nat.le_of_ble_eq_true rfl, Nat.le_of_ble_eq_true rfl⟩ rfl (wp_mono H (fun v9 M9 hq9 => ?_))
    clear H
    obtain ⟨r6, I4, L5, rfl, rfl, H⟩ := hq9
    show wp X B9_nowOf 42 [(0, .ref h), (1, .int x1)] [.int r6] (G, I4, L5) 0 0 _
    exact wp_iret (by decide +kernel) rfl (Nat.zero_le _) (Nat.zero_le _) ⟨_, _, _, rfl, rfl, H⟩
  rw [if_neg c3] at H
  have qc1 := sw_ne c1 (z := 0) (by decide)
  have qc2 := sw_ne c2 (z := 1) (by decide)
  have qc3 := sw_ne c3 (z := 2) (by decide)
  refine wp_tableOut (dflt := 42) (lo := 0) (hi := 2) (offs := #[27, 32, 37]) (len := 27) (tgt := 43) (by decide +kernel) (by omega) (by decide) ?_
  refine wp_iload_n (z := 1) (i := 1) (x := x1) 1 (by decide +kernel) rfl rfl ?_
  refine wp_sipush (z := 200) (v := 200) (by decide +kernel) (by decide) ?_
  refine wp_icmp_lt (off := 31) (tgt := 78) (by decide +kernel) (by decide) (fun c7 => ?_) (fun c7 => ?_)
  · rw [if_pos c7] at H
    refine wp_iload_n (z := 1) (i := 1) (x := x1) 1 (by decide +kernel) rfl rfl ?_
    refine wp_bipush (z := 100) (v := 100) (by decide +kernel) (by decide) ?_
    refine wp_icmp_lt (off := 29) (tgt := 110) (by decide +kernel) (by decide) (fun c8 => ?_) (fun c8 => ?_)
    · rw [if_pos c8] at H
      refine wp_iload_n (z := 1) (i := 1) (x := x1) 1 (by decide +kernel) rfl rfl ?_
      refine wp_bipush (z := 10) (v := 10) (by decide +kernel) (by decide) ?_
      refine wp_irem (by decide +kernel) (by decide) ?_
      refine wp_topi (fun u9 eu9 => ?_)
      replace H := H u9 eu9
      refine wp_istore_n (z := 2) (i := 2) (lv' := [(2, .int u9), (0, .ref h), (1, .int x1)]) (by decide +kernel) rfl (by decide) rfl ?_
      refine wp_aload_n (z := 0) (i := 0) (r := (some h)) 1 (by decide +kernel) rfl rfl ?_
      refine wp_iload_n (z := 2) (i := 2) (x := u9) 0 (by decide +kernel) rfl rfl ?_
      refine wp_callV (idx := 199) (B2 := B9_isFeeler) (As := [.int u9]) (a := h) (st := []) (by decide +kernel) m9_isFeeler ml9_199 k9_isFeeler e9_isFeeler ck9 ok.1 (⟨Nat.le_of_ble_eq_true rfl, Nat.le_of_ble_eq_true rfl⟩ : rOK B9_nowOf B9_isFeeler) rfl (Nat.le_of_ble_eq_true rfl) (Nat.le_of_ble_eq_true rfl) ⟨Nat.le_of_ble_eq_true rfl, Nat.le_of_ble_eq_true rfl⟩ rfl (wp_mono (b9_isFeeler (Q := (fun r I' L' => r = (v9_isFeeler I h u9) ∧ I = I' ∧ L = L')) ok ⟨rfl, rfl, rfl⟩) (fun v9 M9 hq9 => ?_))
      obtain ⟨_, _, _, rfl, rfl, rfl, rfl, rfl⟩ := hq9
      show wp X B9_nowOf 120 [(2, .int u9), (0, .ref h), (1, .int x1)] [.int (v9_isFeeler I h u9)] (G, I, L) 0 0 _
      refine wp_if_ne (off := 6) (tgt := 126) (by decide +kernel) (by decide) (fun c10 => ?_) (fun c10 => ?_)
      · rw [if_neg c10] at H
        refine wp_iload_n (z := 1) (i := 1) (x := x1) 2 (by decide +kernel) rfl rfl ?_
        refine wp_bipush (z := 10) (v := 10) (by decide +kernel) (by decide) ?_
        refine wp_idiv (by decide +kernel) (by decide) ?_
        by_cases c11 : (x1 / 10) = 1
        · rw [if_pos c11] at H
          refine wp_tableIn (dflt := 58) (lo := 1) (hi := 4) (offs := #[30, 37, 44, 51]) (len := 30) (off := 30) (tgt := 160) (by decide +kernel) (by rw [c11]; decide) (by rw [c11]; decide) (by rw [c11]; rfl) (by decide) ?_
          refine wp_aload_n (z := 0) (i := 0) (r := (some h)) 1 (by decide +kernel) rfl rfl ?_
          refine wp_getS (idx := 29) (q := (h + 7)) (by decide +kernel) fl9_29 rfl ok.1 (okr9_26 ok) ?_
          refine wp_iload_n (z := 2) (i := 2) (x := u9) 0 (by decide +kernel) rfl rfl ?_
          obtain ⟨o12, H⟩ := H
          refine wp_iald (j := (cl u9)) (by decide +kernel) (oks9_26 ok) o12 rfl ?_
          exact wp_iret (by decide +kernel) rfl (Nat.zero_le _) (Nat.zero_le _) ⟨_, _, _, rfl, rfl, H⟩
        rw [if_neg c11] at H
        by_cases c13 : (x1 / 10) = 2
        · rw [if_pos c13] at H
          refine wp_tableIn (dflt := 58) (lo := 1) (hi := 4) (offs := #[30, 37, 44, 51]) (len := 30) (off := 37) (tgt := 167) (by decide +kernel) (by rw [c13]; decide) (by rw [c13]; decide) (by rw [c13]; rfl) (by decide) ?_
          refine wp_aload_n (z := 0) (i := 0) (r := (some h)) 1 (by decide +kernel) rfl rfl ?_
          refine wp_getS (idx := 35) (q := (h + 9)) (by decide +kernel) fl9_35 rfl ok.1 (okr9_28 ok) ?_
          refine wp_iload_n (z := 2) (i := 2) (x := u9) 0 (by decide +kernel) rfl rfl ?_
          obtain ⟨o14, H⟩ := H
          refine wp_iald (j := (cl u9)) (by decide +kernel) (oks9_28 ok) o14 rfl ?_
          exact wp_iret (by decide +kernel) rfl (Nat.zero_le _) (Nat.zero_le _) ⟨_, _, _, rfl, rfl, H⟩
        rw [if_neg c13] at H
        by_cases c15 : (x1 / 10) = 3
        · rw [if_pos c15] at H
          refine wp_tableIn (dflt := 58) (lo := 1) (hi := 4) (offs := #[30, 37, 44, 51]) (len := 30) (off := 44) (tgt := 174) (by decide +kernel) (by rw [c15]; decide) (by rw [c15]; decide) (by rw [c15]; rfl) (by decide) ?_
          refine wp_aload_n (z := 0) (i := 0) (r := (some h)) 1 (by decide +kernel) rfl rfl ?_
          refine wp_getS (idx := 38) (q := (h + 10)) (by decide +kernel) fl9_38 rfl ok.1 (okr9_29 ok) ?_
          refine wp_iload_n (z := 2) (i := 2) (x := u9) 0 (by decide +kernel) rfl rfl ?_
          obtain ⟨o16, H⟩ := H
          refine wp_iald (j := (cl u9)) (by decide +kernel) (oks9_29 ok) o16 rfl ?_
          exact wp_iret (by decide +kernel) rfl (Nat.zero_le _) (Nat.zero_le _) ⟨_, _, _, rfl, rfl, H⟩
        rw [if_neg c15] at H
        by_cases c17 : (x1 / 10) = 4
        · rw [if_pos c17] at H
          refine wp_tableIn (dflt := 58) (lo := 1) (hi := 4) (offs := #[30, 37, 44, 51]) (len := 30) (off := 51) (tgt := 181) (by decide +kernel) (by rw [c17]; decide) (by rw [c17]; decide) (by rw [c17]; rfl) (by decide) ?_
          refine wp_aload_n (z := 0) (i := 0) (r := (some h)) 1 (by decide +kernel) rfl rfl ?_
          refine wp_getS (idx := 32) (q := (h + 8)) (by decide +kernel) fl9_32 rfl ok.1 (okr9_27 ok) ?_
          refine wp_iload_n (z := 2) (i := 2) (x := u9) 0 (by decide +kernel) rfl rfl ?_
          obtain ⟨o18, H⟩ := H
          refine wp_iald (j := (cl u9)) (by decide +kernel) (oks9_27 ok) o18 rfl ?_
          exact wp_iret (by decide +kernel) rfl (Nat.zero_le _) (Nat.zero_le _) ⟨_, _, _, rfl, rfl, H⟩
        rw [if_neg c17] at H
        have qc11 := sw_ne c11 (z := 1) (by decide)
        have qc13 := sw_ne c13 (z := 2) (by decide)
        have qc15 := sw_ne c15 (z := 3) (by decide)
        have qc17 := sw_ne c17 (z := 4) (by decide)
        refine wp_tableOut (dflt := 58) (lo := 1) (hi := 4) (offs := #[30, 37, 44, 51]) (len := 30) (tgt := 188) (by decide +kernel) (by omega) (by decide) ?_
        refine wp_bipush (z := -2) (v := (-2)) (by decide +kernel) (by decide) ?_
        exact wp_iret (by decide +kernel) rfl (Nat.zero_le _) (Nat.zero_le _) ⟨_, _, _, rfl, rfl, H⟩
      · rw [if_pos c10] at H
        refine wp_bipush (z := -2) (v := (-2)) (by decide +kernel) (by decide) ?_
        exact wp_iret (by decide +kernel) rfl (Nat.zero_le _) (Nat.zero_le _) ⟨_, _, _, rfl, rfl, H⟩
    · rw [if_neg c8] at H
      refine wp_aload_n (z := 0) (i := 0) (r := (some h)) 0 (by decide +kernel) rfl rfl ?_
      refine wp_iload_n (z := 1) (i := 1) (x := x1) 1 (by decide +kernel) rfl rfl ?_
      refine wp_bipush (z := 100) (v := 100) (by decide +kernel) (by decide) ?_
      refine wp_isub (by decide +kernel) ?_
      refine wp_callV (idx := 214) (B2 := B9_isCell) (As := [.int (x1 - 100)]) (a := h) (st := []) (by decide +kernel) m9_isCell ml9_214 k9_isCell e9_isCell ck9 ok.1 (⟨Nat.le_of_ble_eq_true rfl, Nat.le_of_ble_eq_true rfl⟩ : rOK B9_nowOf B9_isCell) rfl (Nat.le_of_ble_eq_true rfl) (Nat.le_of_ble_eq_true rfl) ⟨Nat.le_of_ble_eq_true rfl, Nat.le_of_ble_eq_true rfl⟩ rfl (wp_mono (b9_isCell (Q := (fun r I' L' => r = (v9_isCell I h (x1 - 100)) ∧ I = I' ∧ L = L')) ok ⟨rfl, rfl, rfl⟩) (fun v9 M9 hq9 => ?_))
      obtain ⟨_, _, _, rfl, rfl, rfl, rfl, rfl⟩ := hq9
      show wp X B9_nowOf 92 [(0, .ref h), (1, .int x1)] [.int (v9_isCell I h (x1 - 100))] (G, I, L) 0 0 _
      refine wp_if_eq (off := 15) (tgt := 107) (by decide +kernel) (by decide) (fun c20 => ?_) (fun c20 => ?_)
      · rw [if_pos c20] at H
        refine wp_bipush (z := -2) (v := (-2)) (by decide +kernel) (by decide) ?_
        exact wp_iret (by decide +kernel) rfl (Nat.zero_le _) (Nat.zero_le _) ⟨_, _, _, rfl, rfl, H⟩
      · rw [if_neg c20] at H
        refine wp_aload_n (z := 0) (i := 0) (r := (some h)) 0 (by decide +kernel) rfl rfl ?_
        refine wp_getS (idx := 23) (q := (h + 5)) (by decide +kernel) fl9_23 rfl ok.1 (okr9_24 ok) ?_
        refine wp_iload_n (z := 1) (i := 1) (x := x1) 1 (by decide +kernel) rfl rfl ?_
        refine wp_bipush (z := 100) (v := 100) (by decide +kernel) (by decide) ?_
        refine wp_isub (by decide +kernel) ?_
        obtain ⟨o21, H⟩ := H
        refine wp_iald (j := (cl (x1 - 100))) (by decide +kernel) (oks9_24 ok) o21 rfl ?_
        refine wp_goto (off := 5) (tgt := 109) (by decide +kernel) (by decide) ?_
        exact wp_iret (by decide +kernel) rfl (Nat.zero_le _) (Nat.zero_le _) ⟨_, _, _, rfl, rfl, H⟩
  · rw [if_neg c7] at H
    refine wp_aload_n (z := 0) (i := 0) (r := (some h)) 0 (by decide +kernel) rfl rfl ?_
    refine wp_iload_n (z := 1) (i := 1) (x := x1) 1 (by decide +kernel) rfl rfl ?_
    refine wp_sipush (z := 200) (v := 200) (by decide +kernel) (by decide) ?_
    refine wp_isub (by decide +kernel) ?_
    refine wp_callV (idx := 214) (B2 := B9_isCell) (As := [.int (x1 - 200)]) (a := h) (st := []) (by decide +kernel) m9_isCell ml9_214 k9_isCell e9_isCell ck9 ok.1 (⟨Nat.le_of_ble_eq_true rfl, Nat.le_of_ble_eq_true rfl⟩ : rOK B9_nowOf B9_isCell) rfl (Nat.le_of_ble_eq_true rfl) (Nat.le_of_ble_eq_true rfl) ⟨Nat.le_of_ble_eq_true rfl, Nat.le_of_ble_eq_true rfl⟩ rfl (wp_mono (b9_isCell (Q := (fun r I' L' => r = (v9_isCell I h (x1 - 200)) ∧ I = I' ∧ L = L')) ok ⟨rfl, rfl, rfl⟩) (fun v9 M9 hq9 => ?_))
    obtain ⟨_, _, _, rfl, rfl, rfl, rfl, rfl⟩ := hq9
    show wp X B9_nowOf 59 [(0, .ref h), (1, .int x1)] [.int (v9_isCell I h (x1 - 200))] (G, I, L) 0 0 _
    refine wp_if_eq (off := 16) (tgt := 75) (by decide +kernel) (by decide) (fun c23 => ?_) (fun c23 => ?_)
    · rw [if_pos c23] at H
      refine wp_bipush (z := -2) (v := (-2)) (by decide +kernel) (by decide) ?_
      exact wp_iret (by decide +kernel) rfl (Nat.zero_le _) (Nat.zero_le _) ⟨_, _, _, rfl, rfl, H⟩
    · rw [if_neg c23] at H
      refine wp_aload_n (z := 0) (i := 0) (r := (some h)) 0 (by decide +kernel) rfl rfl ?_
      refine wp_getS (idx := 20) (q := (h + 4)) (by decide +kernel) fl9_20 rfl ok.1 (okr9_23 ok) ?_
      refine wp_iload_n (z := 1) (i := 1) (x := x1) 1 (by decide +kernel) rfl rfl ?_
      refine wp_sipush (z := 200) (v := 200) (by decide +kernel) (by decide) ?_
      refine wp_isub (by decide +kernel) ?_
      obtain ⟨o24, H⟩ := H
      refine wp_iald (j := (cl (x1 - 200))) (by decide +kernel) (oks9_23 ok) o24 rfl ?_
      refine wp_goto (off := 5) (tgt := 77) (by decide +kernel) (by decide) ?_
      exact wp_iret (by decide +kernel) rfl (Nat.zero_le _) (Nat.zero_le _) ⟨_, _, _, rfl, rfl, H⟩
/-! DeafWallModel.state(IIII)I -/
set_option maxRecDepth 20000 in
theorem b9_state {X : XX} {G : GG} {I : Nat → Nat → Int32} {L : Nat → Nat → Int64} {h : Nat} {x1 : Int32} {x2 : Int32} {x3 : Int32} {x4 : Int32} {Q : Int32 → (Nat → Nat → Int32) → (Nat → Nat → Int64) → Prop} (ok : OK9 G h) (H : wpI X B9_isWall 0 [(0, .ref h), (1, .int x1)] [] G I L (fun r3 I1 L2 => if r3 = (0 : Int32) then (Q (-2) I1 L2) else (wpI X B9_isDay 0 [(0, .ref h), (1, .int x2)] [] G I1 L2 (fun r7 I5 L6 => if r7 = (0 : Int32) then (Q (-2) I5 L6) else (if (0 : Int32) ≤ x3 then (wpV X B9_runs 0 [(0, .ref h), (1, .int x3)] [] G I5 L6 (fun I10 L11 => if (I10 h 19) = x3 then (wpI X B9_nowOf 0 [(0, .ref h), (1, .int x4)] [] G I10 L11 (fun r16 I14 L15 => Q r16 I14 L15)) else (Q (-2) I10 L11))) else (Q (-2) I5 L6)))))) : wpI X B9_state 0 [(0, .ref h), (1, .int x1), (2, .int x2), (3, .int x3), (4, .int x4)] [] G I L Q := by
  refine wp_aload_n (z := 0) (i := 0) (r := (some h)) 0 (by decide +kernel) rfl rfl ?_
  refine wp_iload_n (z := 1) (i := 1) (x := x1) 1 (by decide +kernel) rfl rfl ?_
  refine wp_callV (idx := 196) (B2 := B9_isWall) (As := [.int x1]) (a := h) (st := []) (by decide +kernel) m9_isWall ml9_196 k9_isWall e9_isWall ck9 ok.1 (⟨Nat.le_of_ble_eq_true rfl, Nat.le_of_ble_eq_true rfl⟩ : rOK B9_state B9_isWall) rfl (Nat.le_of_ble_eq_true rfl) (Nat.le_of_ble_eq_true rfl) ⟨Nat.le_of_ble_eq_true rfl, Nat.le_of_ble_eq_true rfl⟩ rfl (wp_mono H (fun v9 M9 hq9 => ?_))
  clear H
  obtain ⟨r3, I1, L2, rfl, rfl, H⟩ := hq9
  show wp X B9_state 5 [(0, .ref h), (1, .int x1), (2, .int x2), (3, .int x3), (4, .int x4)] [.int r3] (G, I1, L2) 0 0 _
  refine wp_if_eq (off := 15) (tgt := 20) (by decide +kernel) (by decide) (fun c4 => ?_) (fun c4 => ?_)
  · rw [if_pos c4] at H
    refine wp_bipush (z := -2) (v := (-2)) (by decide +kernel) (by decide) ?_
    exact wp_iret (by decide +kernel) rfl (Nat.zero_le _) (Nat.zero_le _) ⟨_, _, _, rfl, rfl, H⟩
  · rw [if_neg c4] at H
    refine wp_aload_n (z := 0) (i := 0) (r := (some h)) 0 (by decide +kernel) rfl rfl ?_
    refine wp_iload_n (z := 2) (i := 2) (x := x2) 2 (by decide +kernel) rfl rfl ?_
    refine wp_callV (idx := 359) (B2 := B9_isDay) (As := [.int x2]) (a := h) (st := []) (by decide +kernel) m9_isDay ml9_359 k9_isDay e9_isDay ck9 ok.1 (⟨Nat.le_of_ble_eq_true rfl, Nat.le_of_ble_eq_true rfl⟩ : rOK B9_state B9_isDay) rfl (Nat.le_of_ble_eq_true rfl) (Nat.le_of_ble_eq_true rfl) ⟨Nat.le_of_ble_eq_true rfl, Nat.le_of_ble_eq_true rfl⟩ rfl (wp_mono H (fun v9 M9 hq9 => ?_))
    clear H
    obtain ⟨r7, I5, L6, rfl, rfl, H⟩ := hq9
    show wp X B9_state 13 [(0, .ref h), (1, .int x1), (2, .int x2), (3, .int x3), (4, .int x4)] [.int r7] (G, I5, L6) 0 0 _
    refine wp_if_eq (off := 7) (tgt := 20) (by decide +kernel) (by decide) (fun c8 => ?_) (fun c8 => ?_)
    · rw [if_pos c8] at H
      refine wp_bipush (z := -2) (v := (-2)) (by decide +kernel) (by decide) ?_
      exact wp_iret (by decide +kernel) rfl (Nat.zero_le _) (Nat.zero_le _) ⟨_, _, _, rfl, rfl, H⟩
    · rw [if_neg c8] at H
      refine wp_iload_n (z := 3) (i := 3) (x := x3) 3 (by decide +kernel) rfl rfl ?_
      refine wp_if_ge (off := 6) (tgt := 23) (by decide +kernel) (by decide) (fun c9 => ?_) (fun c9 => ?_)
      · rw [if_pos c9] at H
        refine wp_aload_n (z := 0) (i := 0) (r := (some h)) 0 (by decide +kernel) rfl rfl ?_
        refine wp_iload_n (z := 3) (i := 3) (x := x3) 3 (by decide +kernel) rfl rfl ?_
        refine wp_callV (idx := 374) (B2 := B9_runs) (As := [.int x3]) (a := h) (st := []) (by decide +kernel) m9_runs ml9_374 k9_runs e9_runs ck9 ok.1 (⟨Nat.le_of_ble_eq_true rfl, Nat.le_of_ble_eq_true rfl⟩ : rOK B9_state B9_runs) rfl (Nat.le_of_ble_eq_true rfl) (Nat.le_of_ble_eq_true rfl) ⟨Nat.le_of_ble_eq_true rfl, Nat.le_of_ble_eq_true rfl⟩ rfl (wp_mono H (fun v9 M9 hq9 => ?_))
        clear H
        obtain ⟨I10, L11, rfl, rfl, H⟩ := hq9
        show wp X B9_state 28 [(0, .ref h), (1, .int x1), (2, .int x2), (3, .int x3), (4, .int x4)] [] (G, I10, L11) 0 0 _
        refine wp_aload_n (z := 0) (i := 0) (r := (some h)) 0 (by decide +kernel) rfl rfl ?_
        refine wp_getI (idx := 226) (by decide +kernel) fl9_226 rfl ok.1 ?_
        refine wp_iload_n (z := 3) (i := 3) (x := x3) 3 (by decide +kernel) rfl rfl ?_
        refine wp_icmp_ne (off := 12) (tgt := 45) (by decide +kernel) (by decide) (fun c13 => ?_) (fun c13 => ?_)
        · rw [if_neg c13] at H
          refine wp_bipush (z := -2) (v := (-2)) (by decide +kernel) (by decide) ?_
          exact wp_iret (by decide +kernel) rfl (Nat.zero_le _) (Nat.zero_le _) ⟨_, _, _, rfl, rfl, H⟩
        · rw [if_pos c13] at H
          refine wp_aload_n (z := 0) (i := 0) (r := (some h)) 0 (by decide +kernel) rfl rfl ?_
          refine wp_iload (i := 4) (x := x4) 4 (by decide +kernel) rfl ?_
          refine wp_callV (idx := 377) (B2 := B9_nowOf) (As := [.int x4]) (a := h) (st := []) (by decide +kernel) m9_nowOf ml9_377 k9_nowOf e9_nowOf ck9 ok.1 (⟨Nat.le_of_ble_eq_true rfl, Nat.le_of_ble_eq_true rfl⟩ : rOK B9_state B9_nowOf) rfl (Nat.le_of_ble_eq_true rfl) (Nat.le_of_ble_eq_true rfl) ⟨Nat.le_of_ble_eq_true rfl, Nat.le_of_ble_eq_true rfl⟩ rfl (wp_mono H (fun v9 M9 hq9 => ?_))
          clear H
          obtain ⟨r16, I14, L15, rfl, rfl, H⟩ := hq9
          show wp X B9_state 42 [(0, .ref h), (1, .int x1), (2, .int x2), (3, .int x3), (4, .int x4)] [.int r16] (G, I14, L15) 0 0 _
          refine wp_goto (off := 5) (tgt := 47) (by decide +kernel) (by decide) ?_
          exact wp_iret (by decide +kernel) rfl (Nat.zero_le _) (Nat.zero_le _) ⟨_, _, _, rfl, rfl, H⟩
      · rw [if_neg c9] at H
        refine wp_bipush (z := -2) (v := (-2)) (by decide +kernel) (by decide) ?_
        exact wp_iret (by decide +kernel) rfl (Nat.zero_le _) (Nat.zero_le _) ⟨_, _, _, rfl, rfl, H⟩
/-! DeafWallModel.busiestOf()I -/
set_option maxRecDepth 20000 in
theorem b9_busiestOf {X : XX} {G : GG} {I : Nat → Nat → Int32} {L : Nat → Nat → Int64} {h : Nat} {Q : Int32 → (Nat → Nat → Int32) → (Nat → Nat → Int64) → Prop} (ok : OK9 G h) (H : if (I h 17) = (0 : Int32) then (wpI X B9_busiestOf 15 [(0, .ref h), (1, .int (-1)), (2, .int 1)] [] G I L Q) else (wpI X B9_busiestOf 15 [(0, .ref h), (1, .int 0), (2, .int 1)] [] G I L Q)) : wpI X B9_busiestOf 0 [(0, .ref h)] [] G I L Q := by
  refine wp_aload_n (z := 0) (i := 0) (r := (some h)) 0 (by decide +kernel) rfl rfl ?_
  refine wp_getI (idx := 220) (by decide +kernel) fl9_220 rfl ok.1 ?_
  refine wp_if_ne (off := 7) (tgt := 11) (by decide +kernel) (by decide) (fun c1 => ?_) (fun c1 => ?_)
  · rw [if_neg c1] at H
    refine wp_iconst (z := 0) (v := 0) (by decide +kernel) (by decide) ?_
    refine wp_istore_n (z := 1) (i := 1) (lv' := [(1, .int 0), (0, .ref h)]) (by decide +kernel) rfl (by decide) rfl ?_
    refine wp_iconst (z := 1) (v := 1) (by decide +kernel) (by decide) ?_
    refine wp_istore_n (z := 2) (i := 2) (lv' := [(2, .int 1), (1, .int 0), (0, .ref h)]) (by decide +kernel) rfl (by decide) rfl ?_
    exact wp_sub [2, 1, 0] rfl H
  · rw [if_pos c1] at H
    refine wp_iconst (z := -1) (v := (-1)) (by decide +kernel) (by decide) ?_
    refine wp_goto (off := 4) (tgt := 12) (by decide +kernel) (by decide) ?_
    refine wp_istore_n (z := 1) (i := 1) (lv' := [(1, .int (-1)), (0, .ref h)]) (by decide +kernel) rfl (by decide) rfl ?_
    refine wp_iconst (z := 1) (v := 1) (by decide +kernel) (by decide) ?_
    refine wp_istore_n (z := 2) (i := 2) (lv' := [(2, .int 1), (1, .int (-1)), (0, .ref h)]) (by decide +kernel) rfl (by decide) rfl ?_
    exact wp_sub [2, 1, 0] rfl H
set_option maxRecDepth 20000 in
theorem b9_busiestOf_15 {X : XX} {G : GG} {I : Nat → Nat → Int32} {L : Nat → Nat → Int64} {h : Nat} {x1 : Int32} {x2 : Int32} {Q : Int32 → (Nat → Nat → Int32) → (Nat → Nat → Int64) → Prop} (ok : OK9 G h) (H : if (I h 17) ≤ x2 then (Q x1 I L) else (vp_in x2 64 ∧ (wpI X B9_bitsOf 0 [(0, .int (I (h + 11) (cl x2)))] [] G I L (fun r4 I2 L3 => vp_in x1 64 ∧ (wpI X B9_bitsOf 0 [(0, .int (I2 (h + 11) (cl x1)))] [] G I2 L3 (fun r7 I5 L6 => if r4 ≤ r7 then (wpI X B9_busiestOf 15 [(0, .ref h), (1, .int x1), (2, .int (x2 + 1))] [] G I5 L6 Q) else (wpI X B9_busiestOf 15 [(0, .ref h), (1, .int x2), (2, .int (x2 + 1))] [] G I5 L6 Q))))))) : wpI X B9_busiestOf 15 [(0, .ref h), (1, .int x1), (2, .int x2)] [] G I L Q := by
  refine wp_iload_n (z := 2) (i := 2) (x := x2) 2 (by decide +kernel) rfl rfl ?_
  refine wp_aload_n (z := 0) (i := 0) (r := (some h)) 0 (by decide +kernel) rfl rfl ?_
  refine wp_getI (idx := 220) (by decide +kernel) fl9_220 rfl ok.1 ?_
  refine wp_icmp_ge (off := 36) (tgt := 56) (by decide +kernel) (by decide) (fun c1 => ?_) (fun c1 => ?_)
  · rw [if_pos c1] at H
    refine wp_iload_n (z := 1) (i := 1) (x := x1) 1 (by decide +kernel) rfl rfl ?_
    exact wp_iret (by decide +kernel) rfl (Nat.zero_le _) (Nat.zero_le _) ⟨_, _, _, rfl, rfl, H⟩
  · rw [if_neg c1] at H
    refine wp_aload_n (z := 0) (i := 0) (r := (some h)) 0 (by decide +kernel) rfl rfl ?_
    refine wp_getS (idx := 41) (q := (h + 11)) (by decide +kernel) fl9_41 rfl ok.1 (okr9_30 ok) ?_
    refine wp_iload_n (z := 2) (i := 2) (x := x2) 2 (by decide +kernel) rfl rfl ?_
    obtain ⟨o10, H⟩ := H
    refine wp_iald (j := (cl x2)) (by decide +kernel) (oks9_30 ok) o10 rfl ?_
    refine wp_callS (idx := 250) (B2 := B9_bitsOf) (As := [.int (I (h + 11) (cl x2))]) (st := []) (by decide +kernel) m9_bitsOf ml9_250 k9_bitsOf (⟨Nat.le_of_ble_eq_true rfl, Nat.le_of_ble_eq_true rfl⟩ : rOK B9_busiestOf B9_bitsOf) rfl (Nat.le_of_ble_eq_true rfl) (Nat.le_of_ble_eq_true rfl) ⟨Nat.le_of_ble_eq_true rfl, Nat.le_of_ble_eq_true rfl⟩ rfl (wp_mono H (fun v9 M9 hq9 => ?_))
    clear H
    obtain ⟨r4, I2, L3, rfl, rfl, H⟩ := hq9
    show wp X B9_busiestOf 32 [(0, .ref h), (1, .int x1), (2, .int x2)] [.int r4] (G, I2, L3) 0 0 _
    refine wp_aload_n (z := 0) (i := 0) (r := (some h)) 0 (by decide +kernel) rfl rfl ?_
    refine wp_getS (idx := 41) (q := (h + 11)) (by decide +kernel) fl9_41 rfl ok.1 (okr9_30 ok) ?_
    refine wp_iload_n (z := 1) (i := 1) (x := x1) 1 (by decide +kernel) rfl rfl ?_
    obtain ⟨o9, H⟩ := H
    refine wp_iald (j := (cl x1)) (by decide +kernel) (oks9_30 ok) o9 rfl ?_
    refine wp_callS (idx := 250) (B2 := B9_bitsOf) (As := [.int (I2 (h + 11) (cl x1))]) (st := [.int r4]) (by decide +kernel) m9_bitsOf ml9_250 k9_bitsOf (⟨Nat.le_of_ble_eq_true rfl, Nat.le_of_ble_eq_true rfl⟩ : rOK B9_busiestOf B9_bitsOf) rfl (Nat.le_of_ble_eq_true rfl) (Nat.le_of_ble_eq_true rfl) ⟨Nat.le_of_ble_eq_true rfl, Nat.le_of_ble_eq_true rfl⟩ rfl (wp_mono H (fun v9 M9 hq9 => ?_))
    clear H
    obtain ⟨r7, I5, L6, rfl, rfl, H⟩ := hq9
    show wp X B9_busiestOf 41 [(0, .ref h), (1, .int x1), (2, .int x2)] [.int r7, .int r4] (G, I5, L6) 0 0 _
    refine wp_icmp_le (off := 7) (tgt := 48) (by decide +kernel) (by decide) (fun c8 => ?_) (fun c8 => ?_)
    · rw [if_pos c8] at H
      refine wp_iload_n (z := 1) (i := 1) (x := x1) 1 (by decide +kernel) rfl rfl ?_
      refine wp_istore_n (z := 1) (i := 1) (lv' := [(1, .int x1), (0, .ref h), (2, .int x2)]) (by decide +kernel) rfl (by decide) rfl ?_
      refine wp_iinc (i := 2) (z := 1) (v := 1) (lv' := [(2, .int (x2 + 1)), (1, .int x1), (0, .ref h)]) 2 (by decide +kernel) rfl (by decide) (by decide) rfl ?_
      refine wp_goto (off := -38) (tgt := 15) (by decide +kernel) (by decide) ?_
      exact wp_sub [2, 1, 0] rfl H
    · rw [if_neg c8] at H
      refine wp_iload_n (z := 2) (i := 2) (x := x2) 2 (by decide +kernel) rfl rfl ?_
      refine wp_goto (off := 4) (tgt := 49) (by decide +kernel) (by decide) ?_
      refine wp_istore_n (z := 1) (i := 1) (lv' := [(1, .int x2), (0, .ref h), (2, .int x2)]) (by decide +kernel) rfl (by decide) rfl ?_
      refine wp_iinc (i := 2) (z := 1) (v := 1) (lv' := [(2, .int (x2 + 1)), (1, .int x2), (0, .ref h)]) 2 (by decide +kernel) rfl (by decide) (by decide) rfl ?_
      refine wp_goto (off := -38) (tgt := 15) (by decide +kernel) (by decide) ?_
      exact wp_sub [2, 1, 0] rfl H
/-! DeafWallModel.keenestOf()I -/
set_option maxRecDepth 20000 in
theorem b9_keenestOf {X : XX} {G : GG} {I : Nat → Nat → Int32} {L : Nat → Nat → Int64} {h : Nat} {Q : Int32 → (Nat → Nat → Int32) → (Nat → Nat → Int64) → Prop} (ok : OK9 G h) (H : wpI X B9_keenestOf 4 [(0, .ref h), (1, .int (-1)), (2, .int 0)] [] G I L Q) : wpI X B9_keenestOf 0 [(0, .ref h)] [] G I L Q := by
  refine wp_iconst (z := -1) (v := (-1)) (by decide +kernel) (by decide) ?_
  refine wp_istore_n (z := 1) (i := 1) (lv' := [(1, .int (-1)), (0, .ref h)]) (by decide +kernel) rfl (by decide) rfl ?_
  refine wp_iconst (z := 0) (v := 0) (by decide +kernel) (by decide) ?_
  refine wp_istore_n (z := 2) (i := 2) (lv' := [(2, .int 0), (1, .int (-1)), (0, .ref h)]) (by decide +kernel) rfl (by decide) rfl ?_
  exact wp_sub [2, 1, 0] rfl H
set_option maxRecDepth 20000 in
theorem b9_keenestOf_4 {X : XX} {G : GG} {I : Nat → Nat → Int32} {L : Nat → Nat → Int64} {h : Nat} {x1 : Int32} {x2 : Int32} {Q : Int32 → (Nat → Nat → Int32) → (Nat → Nat → Int64) → Prop} (ok : OK9 G h) (H : if (I h 15) ≤ x2 then (Q x1 I L) else (vp_in x2 6 ∧ (if x1 = (-1) then (if (I (h + 9) (cl x2)) ≤ 0 then (wpI X B9_keenestOf 4 [(0, .ref h), (1, .int x1), (2, .int (x2 + 1))] [] G I L Q) else (wpI X B9_keenestOf 4 [(0, .ref h), (1, .int x2), (2, .int (x2 + 1))] [] G I L Q)) else (vp_in x1 6 ∧ (if (I (h + 9) (cl x2)) ≤ (I (h + 9) (cl x1)) then (wpI X B9_keenestOf 4 [(0, .ref h), (1, .int x1), (2, .int (x2 + 1))] [] G I L Q) else (wpI X B9_keenestOf 4 [(0, .ref h), (1, .int x2), (2, .int (x2 + 1))] [] G I L Q)))))) : wpI X B9_keenestOf 4 [(0, .ref h), (1, .int x1), (2, .int x2)] [] G I L Q := by
  refine wp_iload_n (z := 2) (i := 2) (x := x2) 2 (by decide +kernel) rfl rfl ?_
  refine wp_aload_n (z := 0) (i := 0) (r := (some h)) 0 (by decide +kernel) rfl rfl ?_
  refine wp_getI (idx := 190) (by decide +kernel) fl9_190 rfl ok.1 ?_
  refine wp_icmp_ge (off := 35) (tgt := 44) (by decide +kernel) (by decide) (fun c1 => ?_) (fun c1 => ?_)
  · rw [if_pos c1] at H
    refine wp_iload_n (z := 1) (i := 1) (x := x1) 1 (by decide +kernel) rfl rfl ?_
    exact wp_iret (by decide +kernel) rfl (Nat.zero_le _) (Nat.zero_le _) ⟨_, _, _, rfl, rfl, H⟩
  · rw [if_neg c1] at H
    refine wp_aload_n (z := 0) (i := 0) (r := (some h)) 0 (by decide +kernel) rfl rfl ?_
    refine wp_getS (idx := 35) (q := (h + 9)) (by decide +kernel) fl9_35 rfl ok.1 (okr9_28 ok) ?_
    refine wp_iload_n (z := 2) (i := 2) (x := x2) 2 (by decide +kernel) rfl rfl ?_
    obtain ⟨o6, H⟩ := H
    refine wp_iald (j := (cl x2)) (by decide +kernel) (oks9_28 ok) o6 rfl ?_
    refine wp_iload_n (z := 1) (i := 1) (x := x1) 1 (by decide +kernel) rfl rfl ?_
    refine wp_iconst (z := -1) (v := (-1)) (by decide +kernel) (by decide) ?_
    refine wp_icmp_ne (off := 7) (tgt := 27) (by decide +kernel) (by decide) (fun c2 => ?_) (fun c2 => ?_)
    · rw [if_neg c2] at H
      refine wp_aload_n (z := 0) (i := 0) (r := (some h)) 0 (by decide +kernel) rfl rfl ?_
      refine wp_getS (idx := 35) (q := (h + 9)) (by decide +kernel) fl9_35 rfl ok.1 (okr9_28 ok) ?_
      refine wp_iload_n (z := 1) (i := 1) (x := x1) 1 (by decide +kernel) rfl rfl ?_
      obtain ⟨o4, H⟩ := H
      refine wp_iald (j := (cl x1)) (by decide +kernel) (oks9_28 ok) o4 rfl ?_
      refine wp_icmp_le (off := 5) (tgt := 38) (by decide +kernel) (by decide) (fun c3 => ?_) (fun c3 => ?_)
      · rw [if_pos c3] at H
        refine wp_iinc (i := 2) (z := 1) (v := 1) (lv' := [(2, .int (x2 + 1)), (0, .ref h), (1, .int x1)]) 2 (by decide +kernel) rfl (by decide) (by decide) rfl ?_
        refine wp_goto (off := -37) (tgt := 4) (by decide +kernel) (by decide) ?_
        exact wp_sub [1, 2, 0] rfl H
      · rw [if_neg c3] at H
        refine wp_iload_n (z := 2) (i := 2) (x := x2) 2 (by decide +kernel) rfl rfl ?_
        refine wp_istore_n (z := 1) (i := 1) (lv' := [(1, .int x2), (0, .ref h), (2, .int x2)]) (by decide +kernel) rfl (by decide) rfl ?_
        refine wp_iinc (i := 2) (z := 1) (v := 1) (lv' := [(2, .int (x2 + 1)), (1, .int x2), (0, .ref h)]) 2 (by decide +kernel) rfl (by decide) (by decide) rfl ?_
        refine wp_goto (off := -37) (tgt := 4) (by decide +kernel) (by decide) ?_
        exact wp_sub [2, 1, 0] rfl H
    · rw [if_pos c2] at H
      refine wp_iconst (z := 0) (v := 0) (by decide +kernel) (by decide) ?_
      refine wp_goto (off := 9) (tgt := 33) (by decide +kernel) (by decide) ?_
      refine wp_icmp_le (off := 5) (tgt := 38) (by decide +kernel) (by decide) (fun c5 => ?_) (fun c5 => ?_)
      · rw [if_pos c5] at H
        refine wp_iinc (i := 2) (z := 1) (v := 1) (lv' := [(2, .int (x2 + 1)), (0, .ref h), (1, .int x1)]) 2 (by decide +kernel) rfl (by decide) (by decide) rfl ?_
        refine wp_goto (off := -37) (tgt := 4) (by decide +kernel) (by decide) ?_
        exact wp_sub [1, 2, 0] rfl H
      · rw [if_neg c5] at H
        refine wp_iload_n (z := 2) (i := 2) (x := x2) 2 (by decide +kernel) rfl rfl ?_
        refine wp_istore_n (z := 1) (i := 1) (lv' := [(1, .int x2), (0, .ref h), (2, .int x2)]) (by decide +kernel) rfl (by decide) rfl ?_
        refine wp_iinc (i := 2) (z := 1) (v := 1) (lv' := [(2, .int (x2 + 1)), (1, .int x2), (0, .ref h)]) 2 (by decide +kernel) rfl (by decide) (by decide) rfl ?_
        refine wp_goto (off := -37) (tgt := 4) (by decide +kernel) (by decide) ?_
        exact wp_sub [2, 1, 0] rfl H
/-! DeafWallModel.after(III)I -/
set_option maxRecDepth 20000 in
theorem b9_after {X : XX} {G : GG} {I : Nat → Nat → Int32} {L : Nat → Nat → Int64} {h : Nat} {x1 : Int32} {x2 : Int32} {x3 : Int32} {Q : Int32 → (Nat → Nat → Int32) → (Nat → Nat → Int64) → Prop} (ok : OK9 G h) (H : wpI X B9_isWall 0 [(0, .ref h), (1, .int x1)] [] G I L (fun r3 I1 L2 => if r3 = (0 : Int32) then (Q (-2) I1 L2) else (wpI X B9_isDay 0 [(0, .ref h), (1, .int x2)] [] G I1 L2 (fun r7 I5 L6 => if r7 = (0 : Int32) then (Q (-2) I5 L6) else (wpV X B9_runs 0 [(0, .ref h), (1, .int 40)] [] G I5 L6 (fun I9 L10 => ∀ u12, u12 = ((I9 h 17) - 1) → wpI X B9_after 39 [(0, .ref h), (3, .int x3), (4, .int (-1)), (5, .int 0), (6, .int u12)] [] G I9 L10 Q)))))) : wpI X B9_after 0 [(0, .ref h), (1, .int x1), (2, .int x2), (3, .int x3)] [] G I L Q := by
  refine wp_aload_n (z := 0) (i := 0) (r := (some h)) 0 (by decide +kernel) rfl rfl ?_
  refine wp_iload_n (z := 1) (i := 1) (x := x1) 1 (by decide +kernel) rfl rfl ?_
  refine wp_callV (idx := 196) (B2 := B9_isWall) (As := [.int x1]) (a := h) (st := []) (by decide +kernel) m9_isWall ml9_196 k9_isWall e9_isWall ck9 ok.1 (⟨Nat.le_of_ble_eq_true rfl, Nat.le_of_ble_eq_true rfl⟩ : rOK B9_after B9_isWall) rfl (Nat.le_of_ble_eq_true rfl) (Nat.le_of_ble_eq_true rfl) ⟨Nat.le_of_ble_eq_true rfl, Nat.le_of_ble_eq_true rfl⟩ rfl (wp_mono H (fun v9 M9 hq9 => ?_))
  clear H
  obtain ⟨r3, I1, L2, rfl, rfl, H⟩ := hq9
  show wp X B9_after 5 [(0, .ref h), (1, .int x1), (2, .int x2), (3, .int x3)] [.int r3] (G, I1, L2) 0 0 _
  refine wp_if_eq (off := 11) (tgt := 16) (by decide +kernel) (by decide) (fun c4 => ?_) (fun c4 => ?_)
  · rw [if_pos c4] at H
    refine wp_bipush (z := -2) (v := (-2)) (by decide +kernel) (by decide) ?_
    exact wp_iret (by decide +kernel) rfl (Nat.zero_le _) (Nat.zero_le _) ⟨_, _, _, rfl, rfl, H⟩
  · rw [if_neg c4] at H
    refine wp_aload_n (z := 0) (i := 0) (r := (some h)) 0 (by decide +kernel) rfl rfl ?_
    refine wp_iload_n (z := 2) (i := 2) (x := x2) 2 (by decide +kernel) rfl rfl ?_
    refine wp_callV (idx := 359) (B2 := B9_isDay) (As := [.int x2]) (a := h) (st := []) (by decide +kernel) m9_isDay ml9_359 k9_isDay e9_isDay ck9 ok.1 (⟨Nat.le_of_ble_eq_true rfl, Nat.le_of_ble_eq_true rfl⟩ : rOK B9_after B9_isDay) rfl (Nat.le_of_ble_eq_true rfl) (Nat.le_of_ble_eq_true rfl) ⟨Nat.le_of_ble_eq_true rfl, Nat.le_of_ble_eq_true rfl⟩ rfl (wp_mono H (fun v9 M9 hq9 => ?_))
    clear H
    obtain ⟨r7, I5, L6, rfl, rfl, H⟩ := hq9
    show wp X B9_after 13 [(0, .ref h), (1, .int x1), (2, .int x2), (3, .int x3)] [.int r7] (G, I5, L6) 0 0 _
    refine wp_if_ne (off := 6) (tgt := 19) (by decide +kernel) (by decide) (fun c8 => ?_) (fun c8 => ?_)
    · rw [if_neg c8] at H
      refine wp_aload_n (z := 0) (i := 0) (r := (some h)) 0 (by decide +kernel) rfl rfl ?_
      refine wp_bipush (z := 40) (v := 40) (by decide +kernel) (by decide) ?_
      refine wp_callV (idx := 374) (B2 := B9_runs) (As := [.int 40]) (a := h) (st := []) (by decide +kernel) m9_runs ml9_374 k9_runs e9_runs ck9 ok.1 (⟨Nat.le_of_ble_eq_true rfl, Nat.le_of_ble_eq_true rfl⟩ : rOK B9_after B9_runs) rfl (Nat.le_of_ble_eq_true rfl) (Nat.le_of_ble_eq_true rfl) ⟨Nat.le_of_ble_eq_true rfl, Nat.le_of_ble_eq_true rfl⟩ rfl (wp_mono H (fun v9 M9 hq9 => ?_))
      clear H
      obtain ⟨I9, L10, rfl, rfl, H⟩ := hq9
      show wp X B9_after 25 [(0, .ref h), (1, .int x1), (2, .int x2), (3, .int x3)] [] (G, I9, L10) 0 0 _
      refine wp_iconst (z := -1) (v := (-1)) (by decide +kernel) (by decide) ?_
      refine wp_istore (i := 4) (lv' := [(4, .int (-1)), (0, .ref h), (1, .int x1), (2, .int x2), (3, .int x3)]) (by decide +kernel) (by decide) rfl ?_
      refine wp_iconst (z := 0) (v := 0) (by decide +kernel) (by decide) ?_
      refine wp_istore (i := 5) (lv' := [(5, .int 0), (4, .int (-1)), (0, .ref h), (1, .int x1), (2, .int x2), (3, .int x3)]) (by decide +kernel) (by decide) rfl ?_
      refine wp_aload_n (z := 0) (i := 0) (r := (some h)) 2 (by decide +kernel) rfl rfl ?_
      refine wp_getI (idx := 220) (by decide +kernel) fl9_220 rfl ok.1 ?_
      refine wp_iconst (z := 1) (v := 1) (by decide +kernel) (by decide) ?_
      refine wp_isub (by decide +kernel) ?_
      refine wp_topi (fun u12 eu12 => ?_)
      replace H := H u12 eu12
      refine wp_istore (i := 6) (lv' := [(6, .int u12), (5, .int 0), (4, .int (-1)), (0, .ref h), (1, .int x1), (2, .int x2), (3, .int x3)]) (by decide +kernel) (by decide) rfl ?_
      exact wp_sub [3, 6, 2, 1, 0] rfl H
    · rw [if_pos c8] at H
      refine wp_bipush (z := -2) (v := (-2)) (by decide +kernel) (by decide) ?_
      exact wp_iret (by decide +kernel) rfl (Nat.zero_le _) (Nat.zero_le _) ⟨_, _, _, rfl, rfl, H⟩
set_option maxRecDepth 20000 in
theorem b9_after_39 {X : XX} {G : GG} {I : Nat → Nat → Int32} {L : Nat → Nat → Int64} {h : Nat} {x3 : Int32} {x4 : Int32} {x5 : Int32} {x6 : Int32} {Q : Int32 → (Nat → Nat → Int32) → (Nat → Nat → Int64) → Prop} (ok : OK9 G h) (H : if x6 < (0 : Int32) then (if x3 = 0 then (Q x4 I L) else (if x3 = 1 then (wpI X B9_busiestOf 0 [(0, .ref h)] [] G I L (fun r6 I4 L5 => Q r6 I4 L5)) else (if x3 = 2 then (wpI X B9_keenestOf 0 [(0, .ref h)] [] G I L (fun r10 I8 L9 => Q r10 I8 L9)) else (if x3 = 3 then (Q (I h 21) I L) else (if x3 = 4 then (Q x5 I L) else (if x3 = 5 then (Q (I h 20) I L) else (Q (-2) I L))))))) else (vp_in x6 64 ∧ (if (I (h + 11) (cl x6)) = (0 : Int32) then (vp_in x6 64 ∧ (if (I (h + 11) (cl x6)) = (0 : Int32) then (wpI X B9_after 39 [(0, .ref h), (3, .int x3), (4, .int x4), (5, .int (x5 + 1)), (6, .int (x6 + (-1)))] [] G I L Q) else (wpI X B9_after 39 [(0, .ref h), (3, .int x3), (4, .int x4), (5, .int (x5 + 0)), (6, .int (x6 + (-1)))] [] G I L Q))) else (vp_in x6 64 ∧ (if (I (h + 11) (cl x6)) = (0 : Int32) then (wpI X B9_after 39 [(0, .ref h), (3, .int x3), (4, .int x6), (5, .int (x5 + 1)), (6, .int (x6 + (-1)))] [] G I L Q) else (wpI X B9_after 39 [(0, .ref h), (3, .int x3), (4, .int x6), (5, .int (x5 + 0)), (6, .int (x6 + (-1)))] [] G I L Q)))))) : wpI X B9_after 39 [(0, .ref h), (3, .int x3), (4, .int x4), (5, .int x5), (6, .int x6)] [] G I L Q := by
  refine wp_iload (i := 6) (x := x6) 4 (by decide +kernel) rfl ?_
  refine wp_if_lt (off := 48) (tgt := 89) (by decide +kernel) (by decide) (fun c1 => ?_) (fun c1 => ?_)
  · rw [if_pos c1] at H
    refine wp_iload_n (z := 3) (i := 3) (x := x3) 1 (by decide +kernel) rfl rfl ?_
    by_cases c2 : x3 = 0
    · rw [if_pos c2] at H
      refine wp_tableIn (dflt := 64) (lo := 0) (hi := 5) (offs := #[38, 41, 46, 51, 56, 59]) (len := 38) (off := 38) (tgt := 128) (by decide +kernel) (by rw [c2]; decide) (by rw [c2]; decide) (by rw [c2]; rfl) (by decide) ?_
      refine wp_iload (i := 4) (x := x4) 2 (by decide +kernel) rfl ?_
      exact wp_iret (by decide +kernel) rfl (Nat.zero_le _) (Nat.zero_le _) ⟨_, _, _, rfl, rfl, H⟩
    rw [if_neg c2] at H
    by_cases c3 : x3 = 1
    · rw [if_pos c3] at H
      refine wp_tableIn (dflt := 64) (lo := 0) (hi := 5) (offs := #[38, 41, 46, 51, 56, 59]) (len := 38) (off := 41) (tgt := 131) (by decide +kernel) (by rw [c3]; decide) (by rw [c3]; decide) (by rw [c3]; rfl) (by decide) ?_
      refine wp_aload_n (z := 0) (i := 0) (r := (some h)) 0 (by decide +kernel) rfl rfl ?_
      refine wp_callV (idx := 380) (B2 := B9_busiestOf) (As := []) (a := h) (st := []) (by decide +kernel) m9_busiestOf ml9_380 k9_busiestOf e9_busiestOf ck9 ok.1 (⟨Nat.le_of_ble_eq_true rfl, Nat.le_of_ble_eq_true rfl⟩ : rOK B9_after B9_busiestOf) rfl (Nat.le_of_ble_eq_true rfl) (Nat.le_of_ble_eq_true rfl) ⟨Nat.le_of_ble_eq_true rfl, Nat.le_of_ble_eq_true rfl⟩ rfl (wp_mono H (fun v9 M9 hq9 => ?_))
      clear H
      obtain ⟨r6, I4, L5, rfl, rfl, H⟩ := hq9
      show wp X B9_after 135 [(0, .ref h), (3, .int x3), (4, .int x4), (5, .int x5), (6, .int x6)] [.int r6] (G, I4, L5) 0 0 _
      exact wp_iret (by decide +kernel) rfl (Nat.zero_le _) (Nat.zero_le _) ⟨_, _, _, rfl, rfl, H⟩
    rw [if_neg c3] at H
    by_cases c7 : x3 = 2
    · rw [if_pos c7] at H
      refine wp_tableIn (dflt := 64) (lo := 0) (hi := 5) (offs := #[38, 41, 46, 51, 56, 59]) (len := 38) (off := 46) (tgt := 136) (by decide +kernel) (by rw [c7]; decide) (by rw [c7]; decide) (by rw [c7]; rfl) (by decide) ?_
      refine wp_aload_n (z := 0) (i := 0) (r := (some h)) 0 (by decide +kernel) rfl rfl ?_
      refine wp_callV (idx := 383) (B2 := B9_keenestOf) (As := []) (a := h) (st := []) (by decide +kernel) m9_keenestOf ml9_383 k9_keenestOf e9_keenestOf ck9 ok.1 (⟨Nat.le_of_ble_eq_true rfl, Nat.le_of_ble_eq_true rfl⟩ : rOK B9_after B9_keenestOf) rfl (Nat.le_of_ble_eq_true rfl) (Nat.le_of_ble_eq_true rfl) ⟨Nat.le_of_ble_eq_true rfl, Nat.le_of_ble_eq_true rfl⟩ rfl (wp_mono H (fun v9 M9 hq9 => ?_))
      clear H
      obtain ⟨r10, I8, L9, rfl, rfl, H⟩ := hq9
      show wp X B9_after 140 [(0, .ref h), (3, .int x3), (4, .int x4), (5, .int x5), (6, .int x6)] [.int r10] (G, I8, L9) 0 0 _
      exact wp_iret (by decide +kernel) rfl (Nat.zero_le _) (Nat.zero_le _) ⟨_, _, _, rfl, rfl, H⟩
    rw [if_neg c7] at H
    by_cases c11 : x3 = 3
    · rw [if_pos c11] at H
      refine wp_tableIn (dflt := 64) (lo := 0) (hi := 5) (offs := #[38, 41, 46, 51, 56, 59]) (len := 38) (off := 51) (tgt := 141) (by decide +kernel) (by rw [c11]; decide) (by rw [c11]; decide) (by rw [c11]; rfl) (by decide) ?_
      refine wp_aload_n (z := 0) (i := 0) (r := (some h)) 0 (by decide +kernel) rfl rfl ?_
      refine wp_getI (idx := 232) (by decide +kernel) fl9_232 rfl ok.1 ?_
      exact wp_iret (by decide +kernel) rfl (Nat.zero_le _) (Nat.zero_le _) ⟨_, _, _, rfl, rfl, H⟩
    rw [if_neg c11] at H
    by_cases c12 : x3 = 4
    · rw [if_pos c12] at H
      refine wp_tableIn (dflt := 64) (lo := 0) (hi := 5) (offs := #[38, 41, 46, 51, 56, 59]) (len := 38) (off := 56) (tgt := 146) (by decide +kernel) (by rw [c12]; decide) (by rw [c12]; decide) (by rw [c12]; rfl) (by decide) ?_
      refine wp_iload (i := 5) (x := x5) 3 (by decide +kernel) rfl ?_
      exact wp_iret (by decide +kernel) rfl (Nat.zero_le _) (Nat.zero_le _) ⟨_, _, _, rfl, rfl, H⟩
    rw [if_neg c12] at H
    by_cases c13 : x3 = 5
    · rw [if_pos c13] at H
      refine wp_tableIn (dflt := 64) (lo := 0) (hi := 5) (offs := #[38, 41, 46, 51, 56, 59]) (len := 38) (off := 59) (tgt := 149) (by decide +kernel) (by rw [c13]; decide) (by rw [c13]; decide) (by rw [c13]; rfl) (by decide) ?_
      refine wp_aload_n (z := 0) (i := 0) (r := (some h)) 0 (by decide +kernel) rfl rfl ?_
      refine wp_getI (idx := 229) (by decide +kernel) fl9_229 rfl ok.1 ?_
      exact wp_iret (by decide +kernel) rfl (Nat.zero_le _) (Nat.zero_le _) ⟨_, _, _, rfl, rfl, H⟩
    rw [if_neg c13] at H
    have qc2 := sw_ne c2 (z := 0) (by decide)
    have qc3 := sw_ne c3 (z := 1) (by decide)
    have qc7 := sw_ne c7 (z := 2) (by decide)
    have qc11 := sw_ne c11 (z := 3) (by decide)
    have qc12 := sw_ne c12 (z := 4) (by decide)
    have qc13 := sw_ne c13 (z := 5) (by decide)
    refine wp_tableOut (dflt := 64) (lo := 0) (hi := 5) (offs := #[38, 41, 46, 51, 56, 59]) (len := 38) (tgt := 154) (by decide +kernel) (by omega) (by decide) ?_
    refine wp_bipush (z := -2) (v := (-2)) (by decide +kernel) (by decide) ?_
    exact wp_iret (by decide +kernel) rfl (Nat.zero_le _) (Nat.zero_le _) ⟨_, _, _, rfl, rfl, H⟩
  · rw [if_neg c1] at H
    refine wp_aload_n (z := 0) (i := 0) (r := (some h)) 0 (by decide +kernel) rfl rfl ?_
    refine wp_getS (idx := 41) (q := (h + 11)) (by decide +kernel) fl9_41 rfl ok.1 (okr9_30 ok) ?_
    refine wp_iload (i := 6) (x := x6) 4 (by decide +kernel) rfl ?_
    obtain ⟨o19, H⟩ := H
    refine wp_iald (j := (cl x6)) (by decide +kernel) (oks9_30 ok) o19 rfl ?_
    refine wp_if_eq (off := 8) (tgt := 59) (by decide +kernel) (by decide) (fun c14 => ?_) (fun c14 => ?_)
    · rw [if_pos c14] at H
      refine wp_iload (i := 4) (x := x4) 2 (by decide +kernel) rfl ?_
      refine wp_istore (i := 4) (lv' := [(4, .int x4), (0, .ref h), (3, .int x3), (5, .int x5), (6, .int x6)]) (by decide +kernel) (by decide) rfl ?_
      refine wp_iload (i := 5) (x := x5) 3 (by decide +kernel) rfl ?_
      refine wp_aload_n (z := 0) (i := 0) (r := (some h)) 1 (by decide +kernel) rfl rfl ?_
      refine wp_getS (idx := 41) (q := (h + 11)) (by decide +kernel) fl9_41 rfl ok.1 (okr9_30 ok) ?_
      refine wp_iload (i := 6) (x := x6) 4 (by decide +kernel) rfl ?_
      obtain ⟨o16, H⟩ := H
      refine wp_iald (j := (cl x6)) (by decide +kernel) (oks9_30 ok) o16 rfl ?_
      refine wp_if_ne (off := 7) (tgt := 79) (by decide +kernel) (by decide) (fun c15 => ?_) (fun c15 => ?_)
      · rw [if_neg c15] at H
        refine wp_iconst (z := 0) (v := 0) (by decide +kernel) (by decide) ?_
        refine wp_iadd (by decide +kernel) ?_
        refine wp_istore (i := 5) (lv' := [(5, .int (x5 + 0)), (4, .int x4), (0, .ref h), (3, .int x3), (6, .int x6)]) (by decide +kernel) (by decide) rfl ?_
        refine wp_iinc (i := 6) (z := -1) (v := (-1)) (lv' := [(6, .int (x6 + (-1))), (5, .int (x5 + 0)), (4, .int x4), (0, .ref h), (3, .int x3)]) 4 (by decide +kernel) rfl (by decide) (by decide) rfl ?_
        refine wp_goto (off := -47) (tgt := 39) (by decide +kernel) (by decide) ?_
        exact wp_sub [3, 4, 2, 1, 0] rfl H
      · rw [if_pos c15] at H
        refine wp_iconst (z := 1) (v := 1) (by decide +kernel) (by decide) ?_
        refine wp_goto (off := 4) (tgt := 80) (by decide +kernel) (by decide) ?_
        refine wp_iadd (by decide +kernel) ?_
        refine wp_istore (i := 5) (lv' := [(5, .int (x5 + 1)), (4, .int x4), (0, .ref h), (3, .int x3), (6, .int x6)]) (by decide +kernel) (by decide) rfl ?_
        refine wp_iinc (i := 6) (z := -1) (v := (-1)) (lv' := [(6, .int (x6 + (-1))), (5, .int (x5 + 1)), (4, .int x4), (0, .ref h), (3, .int x3)]) 4 (by decide +kernel) rfl (by decide) (by decide) rfl ?_
        refine wp_goto (off := -47) (tgt := 39) (by decide +kernel) (by decide) ?_
        exact wp_sub [3, 4, 2, 1, 0] rfl H
    · rw [if_neg c14] at H
      refine wp_iload (i := 6) (x := x6) 4 (by decide +kernel) rfl ?_
      refine wp_goto (off := 5) (tgt := 61) (by decide +kernel) (by decide) ?_
      refine wp_istore (i := 4) (lv' := [(4, .int x6), (0, .ref h), (3, .int x3), (5, .int x5), (6, .int x6)]) (by decide +kernel) (by decide) rfl ?_
      refine wp_iload (i := 5) (x := x5) 3 (by decide +kernel) rfl ?_
      refine wp_aload_n (z := 0) (i := 0) (r := (some h)) 1 (by decide +kernel) rfl rfl ?_
      refine wp_getS (idx := 41) (q := (h + 11)) (by decide +kernel) fl9_41 rfl ok.1 (okr9_30 ok) ?_
      refine wp_iload (i := 6) (x := x6) 4 (by decide +kernel) rfl ?_
      obtain ⟨o18, H⟩ := H
      refine wp_iald (j := (cl x6)) (by decide +kernel) (oks9_30 ok) o18 rfl ?_
      refine wp_if_ne (off := 7) (tgt := 79) (by decide +kernel) (by decide) (fun c17 => ?_) (fun c17 => ?_)
      · rw [if_neg c17] at H
        refine wp_iconst (z := 0) (v := 0) (by decide +kernel) (by decide) ?_
        refine wp_iadd (by decide +kernel) ?_
        refine wp_istore (i := 5) (lv' := [(5, .int (x5 + 0)), (4, .int x6), (0, .ref h), (3, .int x3), (6, .int x6)]) (by decide +kernel) (by decide) rfl ?_
        refine wp_iinc (i := 6) (z := -1) (v := (-1)) (lv' := [(6, .int (x6 + (-1))), (5, .int (x5 + 0)), (4, .int x6), (0, .ref h), (3, .int x3)]) 4 (by decide +kernel) rfl (by decide) (by decide) rfl ?_
        refine wp_goto (off := -47) (tgt := 39) (by decide +kernel) (by decide) ?_
        exact wp_sub [3, 4, 2, 1, 0] rfl H
      · rw [if_pos c17] at H
        refine wp_iconst (z := 1) (v := 1) (by decide +kernel) (by decide) ?_
        refine wp_goto (off := 4) (tgt := 80) (by decide +kernel) (by decide) ?_
        refine wp_iadd (by decide +kernel) ?_
        refine wp_istore (i := 5) (lv' := [(5, .int (x5 + 1)), (4, .int x6), (0, .ref h), (3, .int x3), (6, .int x6)]) (by decide +kernel) (by decide) rfl ?_
        refine wp_iinc (i := 6) (z := -1) (v := (-1)) (lv' := [(6, .int (x6 + (-1))), (5, .int (x5 + 1)), (4, .int x6), (0, .ref h), (3, .int x3)]) 4 (by decide +kernel) rfl (by decide) (by decide) rfl ?_
        refine wp_goto (off := -47) (tgt := 39) (by decide +kernel) (by decide) ?_
        exact wp_sub [3, 4, 2, 1, 0] rfl H
/-! DeafWallModel.isLog(I)Z -/
set_option maxRecDepth 20000 in
theorem b9_isLog {X : XX} {G : GG} {I : Nat → Nat → Int32} {L : Nat → Nat → Int64} {h : Nat} {x1 : Int32} {Q : Int32 → (Nat → Nat → Int32) → (Nat → Nat → Int64) → Prop} (ok : OK9 G h) (H : p9_isOf I h 2 x1 ∧ (if (v9_isOf I h 2 x1) = (0 : Int32) then (Q 0 I L) else (∀ I2, I2 = up2 I h 37 (v9_placeOf 2 x1) → Q 1 I2 L))) : wpI X B9_isLog 0 [(0, .ref h), (1, .int x1)] [] G I L Q := by
  refine wp_aload_n (z := 0) (i := 0) (r := (some h)) 0 (by decide +kernel) rfl rfl ?_
  refine wp_iconst (z := 2) (v := 2) (by decide +kernel) (by decide) ?_
  refine wp_iload_n (z := 1) (i := 1) (x := x1) 1 (by decide +kernel) rfl rfl ?_
  obtain ⟨o4, H⟩ := H
  refine wp_callV (idx := 156) (B2 := B9_isOf) (As := [.int 2, .int x1]) (a := h) (st := []) (by decide +kernel) m9_isOf ml9_156 k9_isOf e9_isOf ck9 ok.1 (⟨Nat.le_of_ble_eq_true rfl, Nat.le_of_ble_eq_true rfl⟩ : rOK B9_isLog B9_isOf) rfl (Nat.le_of_ble_eq_true rfl) (Nat.le_of_ble_eq_true rfl) ⟨Nat.le_of_ble_eq_true rfl, Nat.le_of_ble_eq_true rfl⟩ rfl (wp_mono (b9_isOf (Q := (fun r I' L' => r = (v9_isOf I h 2 x1) ∧ I = I' ∧ L = L')) ok o4 ⟨rfl, rfl, rfl⟩) (fun v9 M9 hq9 => ?_))
  obtain ⟨_, _, _, rfl, rfl, rfl, rfl, rfl⟩ := hq9
  show wp X B9_isLog 6 [(0, .ref h), (1, .int x1)] [.int (v9_isOf I h 2 x1)] (G, I, L) 0 0 _
  refine wp_if_ne (off := 5) (tgt := 11) (by decide +kernel) (by decide) (fun c1 => ?_) (fun c1 => ?_)
  · rw [if_neg c1] at H
    refine wp_aload_n (z := 0) (i := 0) (r := (some h)) 0 (by decide +kernel) rfl rfl ?_
    refine wp_iconst (z := 2) (v := 2) (by decide +kernel) (by decide) ?_
    refine wp_iload_n (z := 1) (i := 1) (x := x1) 1 (by decide +kernel) rfl rfl ?_
    refine wp_callS (idx := 175) (B2 := B9_placeOf) (As := [.int 2, .int x1]) (st := [.ref h]) (by decide +kernel) m9_placeOf ml9_175 k9_placeOf (⟨Nat.le_of_ble_eq_true rfl, Nat.le_of_ble_eq_true rfl⟩ : rOK B9_isLog B9_placeOf) rfl (Nat.le_of_ble_eq_true rfl) (Nat.le_of_ble_eq_true rfl) ⟨Nat.le_of_ble_eq_true rfl, Nat.le_of_ble_eq_true rfl⟩ rfl (wp_mono (b9_placeOf (Q := (fun r I' L' => r = (v9_placeOf 2 x1) ∧ I = I' ∧ L = L'))  ⟨rfl, rfl, rfl⟩) (fun v9 M9 hq9 => ?_))
    obtain ⟨_, _, _, rfl, rfl, rfl, rfl, rfl⟩ := hq9
    show wp X B9_isLog 17 [(0, .ref h), (1, .int x1)] [.int (v9_placeOf 2 x1), .ref h] (G, I, L) 0 0 _
    refine wp_putI (idx := 386) (by decide +kernel) fl9_386 rfl ok.1 ?_
    refine wp_memI (fun I2 eI2 => ?_)
    replace H := H I2 eI2
    refine wp_iconst (z := 1) (v := 1) (by decide +kernel) (by decide) ?_
    exact wp_zret (by decide +kernel) rfl (by decide) (Nat.zero_le _) (Nat.zero_le _) ⟨_, _, _, rfl, rfl, H⟩
  · rw [if_pos c1] at H
    refine wp_iconst (z := 0) (v := 0) (by decide +kernel) (by decide) ?_
    exact wp_zret (by decide +kernel) rfl (by decide) (Nat.zero_le _) (Nat.zero_le _) ⟨_, _, _, rfl, rfl, H⟩
/-! DeafWallModel.fact(III)I -/
set_option maxRecDepth 20000 in
theorem b9_fact {X : XX} {G : GG} {I : Nat → Nat → Int32} {L : Nat → Nat → Int64} {h : Nat} {x1 : Int32} {x2 : Int32} {x3 : Int32} {Q : Int32 → (Nat → Nat → Int32) → (Nat → Nat → Int64) → Prop} (ok : OK9 G h) (H : wpI X B9_isLog 0 [(0, .ref h), (1, .int x1)] [] G I L (fun r3 I1 L2 => if r3 = (0 : Int32) then (Q (-2) I1 L2) else (if x2 = (-1) then (if x3 = (0 : Int32) then (vp_in (I1 h 37) 4096 ∧ (Q (I1 (h + 1) (cl (I1 h 37))) I1 L2)) else (Q (-2) I1 L2)) else (vp_in (I1 h 37) 4096 ∧ (if (v9_isIn x2 0 ((I1 (h + 1) (cl (I1 h 37))) - 1)) = (0 : Int32) then (Q (-2) I1 L2) else (if (v9_isIn x3 0 2) = (0 : Int32) then (Q (-2) I1 L2) else (vp_in ((((I1 h 37) + 1) + (3 * x2)) + x3) 4096 ∧ (Q (I1 (h + 1) (cl ((((I1 h 37) + 1) + (3 * x2)) + x3))) I1 L2)))))))) : wpI X B9_fact 0 [(0, .ref h), (1, .int x1), (2, .int x2), (3, .int x3)] [] G I L Q := by
  refine wp_aload_n (z := 0) (i := 0) (r := (some h)) 0 (by decide +kernel) rfl rfl ?_
  refine wp_iload_n (z := 1) (i := 1) (x := x1) 1 (by decide +kernel) rfl rfl ?_
  refine wp_callV (idx := 389) (B2 := B9_isLog) (As := [.int x1]) (a := h) (st := []) (by decide +kernel) m9_isLog ml9_389 k9_isLog e9_isLog ck9 ok.1 (⟨Nat.le_of_ble_eq_true rfl, Nat.le_of_ble_eq_true rfl⟩ : rOK B9_fact B9_isLog) rfl (Nat.le_of_ble_eq_true rfl) (Nat.le_of_ble_eq_true rfl) ⟨Nat.le_of_ble_eq_true rfl, Nat.le_of_ble_eq_true rfl⟩ rfl (wp_mono H (fun v9 M9 hq9 => ?_))
  clear H
  obtain ⟨r3, I1, L2, rfl, rfl, H⟩ := hq9
  show wp X B9_fact 5 [(0, .ref h), (1, .int x1), (2, .int x2), (3, .int x3)] [.int r3] (G, I1, L2) 0 0 _
  refine wp_if_ne (off := 6) (tgt := 11) (by decide +kernel) (by decide) (fun c4 => ?_) (fun c4 => ?_)
  · rw [if_neg c4] at H
    refine wp_iload_n (z := 2) (i := 2) (x := x2) 2 (by decide +kernel) rfl rfl ?_
    refine wp_iconst (z := -1) (v := (-1)) (by decide +kernel) (by decide) ?_
    refine wp_icmp_ne (off := 22) (tgt := 35) (by decide +kernel) (by decide) (fun c5 => ?_) (fun c5 => ?_)
    · rw [if_neg c5] at H
      refine wp_iload_n (z := 2) (i := 2) (x := x2) 2 (by decide +kernel) rfl rfl ?_
      refine wp_iconst (z := 0) (v := 0) (by decide +kernel) (by decide) ?_
      refine wp_aload_n (z := 0) (i := 0) (r := (some h)) 0 (by decide +kernel) rfl rfl ?_
      refine wp_getS (idx := 7) (q := (h + 1)) (by decide +kernel) fl9_7 rfl ok.1 (okr9_0 ok) ?_
      refine wp_aload_n (z := 0) (i := 0) (r := (some h)) 0 (by decide +kernel) rfl rfl ?_
      refine wp_getI (idx := 386) (by decide +kernel) fl9_386 rfl ok.1 ?_
      obtain ⟨o11, H⟩ := H
      refine wp_iald (j := (cl (I1 h 37))) (by decide +kernel) (oks9_0 ok) o11 rfl ?_
      refine wp_iconst (z := 1) (v := 1) (by decide +kernel) (by decide) ?_
      refine wp_isub (by decide +kernel) ?_
      refine wp_callS (idx := 121) (B2 := B9_isIn) (As := [.int x2, .int 0, .int ((I1 (h + 1) (cl (I1 h 37))) - 1)]) (st := []) (by decide +kernel) m9_isIn ml9_121 k9_isIn (⟨Nat.le_of_ble_eq_true rfl, Nat.le_of_ble_eq_true rfl⟩ : rOK B9_fact B9_isIn) rfl (Nat.le_of_ble_eq_true rfl) (Nat.le_of_ble_eq_true rfl) ⟨Nat.le_of_ble_eq_true rfl, Nat.le_of_ble_eq_true rfl⟩ rfl (wp_mono (b9_isIn (Q := (fun r I' L' => r = (v9_isIn x2 0 ((I1 (h + 1) (cl (I1 h 37))) - 1)) ∧ I1 = I' ∧ L2 = L'))  ⟨rfl, rfl, rfl⟩) (fun v9 M9 hq9 => ?_))
      obtain ⟨_, _, _, rfl, rfl, rfl, rfl, rfl⟩ := hq9
      show wp X B9_fact 51 [(0, .ref h), (1, .int x1), (2, .int x2), (3, .int x3)] [.int (v9_isIn x2 0 ((I1 (h + 1) (cl (I1 h 37))) - 1))] (G, I1, L2) 0 0 _
      refine wp_if_eq (off := 32) (tgt := 83) (by decide +kernel) (by decide) (fun c6 => ?_) (fun c6 => ?_)
      · rw [if_pos c6] at H
        refine wp_bipush (z := -2) (v := (-2)) (by decide +kernel) (by decide) ?_
        exact wp_iret (by decide +kernel) rfl (Nat.zero_le _) (Nat.zero_le _) ⟨_, _, _, rfl, rfl, H⟩
      · rw [if_neg c6] at H
        refine wp_iload_n (z := 3) (i := 3) (x := x3) 3 (by decide +kernel) rfl rfl ?_
        refine wp_iconst (z := 0) (v := 0) (by decide +kernel) (by decide) ?_
        refine wp_iconst (z := 2) (v := 2) (by decide +kernel) (by decide) ?_
        refine wp_callS (idx := 121) (B2 := B9_isIn) (As := [.int x3, .int 0, .int 2]) (st := []) (by decide +kernel) m9_isIn ml9_121 k9_isIn (⟨Nat.le_of_ble_eq_true rfl, Nat.le_of_ble_eq_true rfl⟩ : rOK B9_fact B9_isIn) rfl (Nat.le_of_ble_eq_true rfl) (Nat.le_of_ble_eq_true rfl) ⟨Nat.le_of_ble_eq_true rfl, Nat.le_of_ble_eq_true rfl⟩ rfl (wp_mono (b9_isIn (Q := (fun r I' L' => r = (v9_isIn x3 0 2) ∧ I1 = I' ∧ L2 = L'))  ⟨rfl, rfl, rfl⟩) (fun v9 M9 hq9 => ?_))
        obtain ⟨_, _, _, rfl, rfl, rfl, rfl, rfl⟩ := hq9
        show wp X B9_fact 60 [(0, .ref h), (1, .int x1), (2, .int x2), (3, .int x3)] [.int (v9_isIn x3 0 2)] (G, I1, L2) 0 0 _
        refine wp_if_eq (off := 23) (tgt := 83) (by decide +kernel) (by decide) (fun c7 => ?_) (fun c7 => ?_)
        · rw [if_pos c7] at H
          refine wp_bipush (z := -2) (v := (-2)) (by decide +kernel) (by decide) ?_
          exact wp_iret (by decide +kernel) rfl (Nat.zero_le _) (Nat.zero_le _) ⟨_, _, _, rfl, rfl, H⟩
        · rw [if_neg c7] at H
          refine wp_aload_n (z := 0) (i := 0) (r := (some h)) 0 (by decide +kernel) rfl rfl ?_
          refine wp_getS (idx := 7) (q := (h + 1)) (by decide +kernel) fl9_7 rfl ok.1 (okr9_0 ok) ?_
          refine wp_aload_n (z := 0) (i := 0) (r := (some h)) 0 (by decide +kernel) rfl rfl ?_
          refine wp_getI (idx := 386) (by decide +kernel) fl9_386 rfl ok.1 ?_
          refine wp_iconst (z := 1) (v := 1) (by decide +kernel) (by decide) ?_
          refine wp_iadd (by decide +kernel) ?_
          refine wp_iconst (z := 3) (v := 3) (by decide +kernel) (by decide) ?_
          refine wp_iload_n (z := 2) (i := 2) (x := x2) 2 (by decide +kernel) rfl rfl ?_
          refine wp_imul (by decide +kernel) ?_
          refine wp_iadd (by decide +kernel) ?_
          refine wp_iload_n (z := 3) (i := 3) (x := x3) 3 (by decide +kernel) rfl rfl ?_
          refine wp_iadd (by decide +kernel) ?_
          obtain ⟨o8, H⟩ := H
          refine wp_iald (j := (cl ((((I1 h 37) + 1) + (3 * x2)) + x3))) (by decide +kernel) (oks9_0 ok) o8 rfl ?_
          refine wp_goto (off := 5) (tgt := 85) (by decide +kernel) (by decide) ?_
          exact wp_iret (by decide +kernel) rfl (Nat.zero_le _) (Nat.zero_le _) ⟨_, _, _, rfl, rfl, H⟩
    · rw [if_pos c5] at H
      refine wp_iload_n (z := 3) (i := 3) (x := x3) 3 (by decide +kernel) rfl rfl ?_
      refine wp_if_ne (off := 15) (tgt := 32) (by decide +kernel) (by decide) (fun c12 => ?_) (fun c12 => ?_)
      · rw [if_neg c12] at H
        refine wp_bipush (z := -2) (v := (-2)) (by decide +kernel) (by decide) ?_
        exact wp_iret (by decide +kernel) rfl (Nat.zero_le _) (Nat.zero_le _) ⟨_, _, _, rfl, rfl, H⟩
      · rw [if_pos c12] at H
        refine wp_aload_n (z := 0) (i := 0) (r := (some h)) 0 (by decide +kernel) rfl rfl ?_
        refine wp_getS (idx := 7) (q := (h + 1)) (by decide +kernel) fl9_7 rfl ok.1 (okr9_0 ok) ?_
        refine wp_aload_n (z := 0) (i := 0) (r := (some h)) 0 (by decide +kernel) rfl rfl ?_
        refine wp_getI (idx := 386) (by decide +kernel) fl9_386 rfl ok.1 ?_
        obtain ⟨o13, H⟩ := H
        refine wp_iald (j := (cl (I1 h 37))) (by decide +kernel) (oks9_0 ok) o13 rfl ?_
        refine wp_goto (off := 5) (tgt := 34) (by decide +kernel) (by decide) ?_
        exact wp_iret (by decide +kernel) rfl (Nat.zero_le _) (Nat.zero_le _) ⟨_, _, _, rfl, rfl, H⟩
  · rw [if_pos c4] at H
    refine wp_bipush (z := -2) (v := (-2)) (by decide +kernel) (by decide) ?_
    exact wp_iret (by decide +kernel) rfl (Nat.zero_le _) (Nat.zero_le _) ⟨_, _, _, rfl, rfl, H⟩
/-! DeafWallModel.isSo()Z -/
set_option maxRecDepth 20000 in
theorem b9_isSo {X : XX} {G : GG} {I : Nat → Nat → Int32} {L : Nat → Nat → Int64} {h : Nat} {Q : Int32 → (Nat → Nat → Int32) → (Nat → Nat → Int64) → Prop} (ok : OK9 G h) (H : wpI X B9_isSo 4 [(0, .ref h), (1, .int 1), (2, .int 0)] [] G I L Q) : wpI X B9_isSo 0 [(0, .ref h)] [] G I L Q := by
  refine wp_iconst (z := 1) (v := 1) (by decide +kernel) (by decide) ?_
  refine wp_istore_n (z := 1) (i := 1) (lv' := [(1, .int 1), (0, .ref h)]) (by decide +kernel) rfl (by decide) rfl ?_
  refine wp_iconst (z := 0) (v := 0) (by decide +kernel) (by decide) ?_
  refine wp_istore_n (z := 2) (i := 2) (lv' := [(2, .int 0), (1, .int 1), (0, .ref h)]) (by decide +kernel) rfl (by decide) rfl ?_
  exact wp_sub [2, 1, 0] rfl H
set_option maxRecDepth 20000 in
theorem b9_isSo_4 {X : XX} {G : GG} {I : Nat → Nat → Int32} {L : Nat → Nat → Int64} {h : Nat} {x1 : Int32} {x2 : Int32} {Q : Int32 → (Nat → Nat → Int32) → (Nat → Nat → Int64) → Prop} (ok : OK9 G h) (H : vp_in (I h 37) 4096 ∧ (if (I (h + 1) (cl (I h 37))) ≤ x2 then ((x1 = 0 ∨ x1 = 1) ∧ (Q x1 I L)) else (vp_in (((I h 37) + 2) + (3 * x2)) 4096 ∧ (∀ u3, u3 = (I (h + 1) (cl (((I h 37) + 2) + (3 * x2)))) → if (I h 15) ≤ u3 then (if x1 = (0 : Int32) then (wpI X B9_isSo 4 [(0, .ref h), (1, .int 0), (2, .int (x2 + 1))] [] G I L Q) else (if (I h 15) ≤ u3 then (wpI X B9_isSo 4 [(0, .ref h), (1, .int 0), (2, .int (x2 + 1))] [] G I L Q) else (vp_in (((I h 37) + 1) + (3 * x2)) 4096 ∧ (if 0 = (1 - (I (h + 1) (cl (((I h 37) + 1) + (3 * x2))))) then (wpI X B9_isSo 4 [(0, .ref h), (1, .int 1), (2, .int (x2 + 1))] [] G I L Q) else (wpI X B9_isSo 4 [(0, .ref h), (1, .int 0), (2, .int (x2 + 1))] [] G I L Q))))) else (vp_in (((I h 37) + 3) + (3 * x2)) 4096 ∧ (vp_in (I (h + 1) (cl (((I h 37) + 3) + (3 * x2)))) 64 ∧ (∀ u9, u9 = (((I (h + 11) (cl (I (h + 1) (cl (((I h 37) + 3) + (3 * x2)))))) >>> (u3 &&& 31)) &&& 1) → if x1 = (0 : Int32) then (wpI X B9_isSo 4 [(0, .ref h), (1, .int 0), (2, .int (x2 + 1))] [] G I L Q) else (if (I h 15) ≤ u3 then (wpI X B9_isSo 4 [(0, .ref h), (1, .int 0), (2, .int (x2 + 1))] [] G I L Q) else (vp_in (((I h 37) + 1) + (3 * x2)) 4096 ∧ (if u9 = (1 - (I (h + 1) (cl (((I h 37) + 1) + (3 * x2))))) then (wpI X B9_isSo 4 [(0, .ref h), (1, .int 1), (2, .int (x2 + 1))] [] G I L Q) else (wpI X B9_isSo 4 [(0, .ref h), (1, .int 0), (2, .int (x2 + 1))] [] G I L Q))))))))))) : wpI X B9_isSo 4 [(0, .ref h), (1, .int x1), (2, .int x2)] [] G I L Q := by
  refine wp_iload_n (z := 2) (i := 2) (x := x2) 2 (by decide +kernel) rfl rfl ?_
  refine wp_aload_n (z := 0) (i := 0) (r := (some h)) 0 (by decide +kernel) rfl rfl ?_
  refine wp_getS (idx := 7) (q := (h + 1)) (by decide +kernel) fl9_7 rfl ok.1 (okr9_0 ok) ?_
  refine wp_aload_n (z := 0) (i := 0) (r := (some h)) 0 (by decide +kernel) rfl rfl ?_
  refine wp_getI (idx := 386) (by decide +kernel) fl9_386 rfl ok.1 ?_
  obtain ⟨o17, H⟩ := H
  refine wp_iald (j := (cl (I h 37))) (by decide +kernel) (oks9_0 ok) o17 rfl ?_
  refine wp_icmp_ge (off := 103) (tgt := 117) (by decide +kernel) (by decide) (fun c1 => ?_) (fun c1 => ?_)
  · rw [if_pos c1] at H
    refine wp_iload_n (z := 1) (i := 1) (x := x1) 1 (by decide +kernel) rfl rfl ?_
    obtain ⟨o2, H⟩ := H
    exact wp_zret (by decide +kernel) rfl o2 (Nat.zero_le _) (Nat.zero_le _) ⟨_, _, _, rfl, rfl, H⟩
  · rw [if_neg c1] at H
    refine wp_aload_n (z := 0) (i := 0) (r := (some h)) 0 (by decide +kernel) rfl rfl ?_
    refine wp_getS (idx := 7) (q := (h + 1)) (by decide +kernel) fl9_7 rfl ok.1 (okr9_0 ok) ?_
    refine wp_aload_n (z := 0) (i := 0) (r := (some h)) 0 (by decide +kernel) rfl rfl ?_
    refine wp_getI (idx := 386) (by decide +kernel) fl9_386 rfl ok.1 ?_
    refine wp_iconst (z := 2) (v := 2) (by decide +kernel) (by decide) ?_
    refine wp_iadd (by decide +kernel) ?_
    refine wp_iconst (z := 3) (v := 3) (by decide +kernel) (by decide) ?_
    refine wp_iload_n (z := 2) (i := 2) (x := x2) 2 (by decide +kernel) rfl rfl ?_
    refine wp_imul (by decide +kernel) ?_
    refine wp_iadd (by decide +kernel) ?_
    obtain ⟨o16, H⟩ := H
    refine wp_iald (j := (cl (((I h 37) + 2) + (3 * x2)))) (by decide +kernel) (oks9_0 ok) o16 rfl ?_
    refine wp_topi (fun u3 eu3 => ?_)
    replace H := H u3 eu3
    refine wp_istore_n (z := 3) (i := 3) (lv' := [(3, .int u3), (0, .ref h), (1, .int x1), (2, .int x2)]) (by decide +kernel) rfl (by decide) rfl ?_
    refine wp_iload_n (z := 3) (i := 3) (x := u3) 0 (by decide +kernel) rfl rfl ?_
    refine wp_aload_n (z := 0) (i := 0) (r := (some h)) 1 (by decide +kernel) rfl rfl ?_
    refine wp_getI (idx := 190) (by decide +kernel) fl9_190 rfl ok.1 ?_
    refine wp_icmp_ge (off := 30) (tgt := 68) (by decide +kernel) (by decide) (fun c4 => ?_) (fun c4 => ?_)
    · rw [if_pos c4] at H
      refine wp_iconst (z := 0) (v := 0) (by decide +kernel) (by decide) ?_
      refine wp_istore (i := 4) (lv' := [(4, .int 0), (3, .int u3), (0, .ref h), (1, .int x1), (2, .int x2)]) (by decide +kernel) (by decide) rfl ?_
      refine wp_iload_n (z := 1) (i := 1) (x := x1) 3 (by decide +kernel) rfl rfl ?_
      refine wp_if_eq (off := 37) (tgt := 109) (by decide +kernel) (by decide) (fun c5 => ?_) (fun c5 => ?_)
      · rw [if_pos c5] at H
        refine wp_iconst (z := 0) (v := 0) (by decide +kernel) (by decide) ?_
        refine wp_istore_n (z := 1) (i := 1) (lv' := [(1, .int 0), (4, .int 0), (3, .int u3), (0, .ref h), (2, .int x2)]) (by decide +kernel) rfl (by decide) rfl ?_
        refine wp_iinc (i := 2) (z := 1) (v := 1) (lv' := [(2, .int (x2 + 1)), (1, .int 0), (4, .int 0), (3, .int u3), (0, .ref h)]) 4 (by decide +kernel) rfl (by decide) (by decide) rfl ?_
        refine wp_goto (off := -110) (tgt := 4) (by decide +kernel) (by decide) ?_
        exact wp_sub [4, 1, 0] rfl H
      · rw [if_neg c5] at H
        refine wp_iload_n (z := 3) (i := 3) (x := u3) 1 (by decide +kernel) rfl rfl ?_
        refine wp_aload_n (z := 0) (i := 0) (r := (some h)) 2 (by decide +kernel) rfl rfl ?_
        refine wp_getI (idx := 190) (by decide +kernel) fl9_190 rfl ok.1 ?_
        refine wp_icmp_ge (off := 29) (tgt := 109) (by decide +kernel) (by decide) (fun c6 => ?_) (fun c6 => ?_)
        · rw [if_pos c6] at H
          refine wp_iconst (z := 0) (v := 0) (by decide +kernel) (by decide) ?_
          refine wp_istore_n (z := 1) (i := 1) (lv' := [(1, .int 0), (4, .int 0), (3, .int u3), (0, .ref h), (2, .int x2)]) (by decide +kernel) rfl (by decide) rfl ?_
          refine wp_iinc (i := 2) (z := 1) (v := 1) (lv' := [(2, .int (x2 + 1)), (1, .int 0), (4, .int 0), (3, .int u3), (0, .ref h)]) 4 (by decide +kernel) rfl (by decide) (by decide) rfl ?_
          refine wp_goto (off := -110) (tgt := 4) (by decide +kernel) (by decide) ?_
          exact wp_sub [4, 1, 0] rfl H
        · rw [if_neg c6] at H
          refine wp_iload (i := 4) (x := 0) 0 (by decide +kernel) rfl ?_
          refine wp_iconst (z := 1) (v := 1) (by decide +kernel) (by decide) ?_
          refine wp_aload_n (z := 0) (i := 0) (r := (some h)) 2 (by decide +kernel) rfl rfl ?_
          refine wp_getS (idx := 7) (q := (h + 1)) (by decide +kernel) fl9_7 rfl ok.1 (okr9_0 ok) ?_
          refine wp_aload_n (z := 0) (i := 0) (r := (some h)) 2 (by decide +kernel) rfl rfl ?_
          refine wp_getI (idx := 386) (by decide +kernel) fl9_386 rfl ok.1 ?_
          refine wp_iconst (z := 1) (v := 1) (by decide +kernel) (by decide) ?_
          refine wp_iadd (by decide +kernel) ?_
          refine wp_iconst (z := 3) (v := 3) (by decide +kernel) (by decide) ?_
          refine wp_iload_n (z := 2) (i := 2) (x := x2) 4 (by decide +kernel) rfl rfl ?_
          refine wp_imul (by decide +kernel) ?_
          refine wp_iadd (by decide +kernel) ?_
          obtain ⟨o8, H⟩ := H
          refine wp_iald (j := (cl (((I h 37) + 1) + (3 * x2)))) (by decide +kernel) (oks9_0 ok) o8 rfl ?_
          refine wp_isub (by decide +kernel) ?_
          refine wp_icmp_ne (off := 7) (tgt := 109) (by decide +kernel) (by decide) (fun c7 => ?_) (fun c7 => ?_)
          · rw [if_neg c7] at H
            refine wp_iconst (z := 0) (v := 0) (by decide +kernel) (by decide) ?_
            refine wp_istore_n (z := 1) (i := 1) (lv' := [(1, .int 0), (4, .int 0), (3, .int u3), (0, .ref h), (2, .int x2)]) (by decide +kernel) rfl (by decide) rfl ?_
            refine wp_iinc (i := 2) (z := 1) (v := 1) (lv' := [(2, .int (x2 + 1)), (1, .int 0), (4, .int 0), (3, .int u3), (0, .ref h)]) 4 (by decide +kernel) rfl (by decide) (by decide) rfl ?_
            refine wp_goto (off := -110) (tgt := 4) (by decide +kernel) (by decide) ?_
            exact wp_sub [4, 1, 0] rfl H
          · rw [if_pos c7] at H
            refine wp_iconst (z := 1) (v := 1) (by decide +kernel) (by decide) ?_
            refine wp_goto (off := 4) (tgt := 110) (by decide +kernel) (by decide) ?_
            refine wp_istore_n (z := 1) (i := 1) (lv' := [(1, .int 1), (4, .int 0), (3, .int u3), (0, .ref h), (2, .int x2)]) (by decide +kernel) rfl (by decide) rfl ?_
            refine wp_iinc (i := 2) (z := 1) (v := 1) (lv' := [(2, .int (x2 + 1)), (1, .int 1), (4, .int 0), (3, .int u3), (0, .ref h)]) 4 (by decide +kernel) rfl (by decide) (by decide) rfl ?_
            refine wp_goto (off := -110) (tgt := 4) (by decide +kernel) (by decide) ?_
            exact wp_sub [4, 1, 0] rfl H
    · rw [if_neg c4] at H
      refine wp_aload_n (z := 0) (i := 0) (r := (some h)) 1 (by decide +kernel) rfl rfl ?_
      refine wp_getS (idx := 41) (q := (h + 11)) (by decide +kernel) fl9_41 rfl ok.1 (okr9_30 ok) ?_
      refine wp_aload_n (z := 0) (i := 0) (r := (some h)) 1 (by decide +kernel) rfl rfl ?_
      refine wp_getS (idx := 7) (q := (h + 1)) (by decide +kernel) fl9_7 rfl ok.1 (okr9_0 ok) ?_
      refine wp_aload_n (z := 0) (i := 0) (r := (some h)) 1 (by decide +kernel) rfl rfl ?_
      refine wp_getI (idx := 386) (by decide +kernel) fl9_386 rfl ok.1 ?_
      refine wp_iconst (z := 3) (v := 3) (by decide +kernel) (by decide) ?_
      refine wp_iadd (by decide +kernel) ?_
      refine wp_iconst (z := 3) (v := 3) (by decide +kernel) (by decide) ?_
      refine wp_iload_n (z := 2) (i := 2) (x := x2) 3 (by decide +kernel) rfl rfl ?_
      refine wp_imul (by decide +kernel) ?_
      refine wp_iadd (by decide +kernel) ?_
      obtain ⟨o15, H⟩ := H
      refine wp_iald (j := (cl (((I h 37) + 3) + (3 * x2)))) (by decide +kernel) (oks9_0 ok) o15 rfl ?_
      obtain ⟨o14, H⟩ := H
      refine wp_iald (j := (cl (I (h + 1) (cl (((I h 37) + 3) + (3 * x2)))))) (by decide +kernel) (oks9_30 ok) o14 rfl ?_
      refine wp_iload_n (z := 3) (i := 3) (x := u3) 0 (by decide +kernel) rfl rfl ?_
      refine wp_ishr (by decide +kernel) ?_
      refine wp_iconst (z := 1) (v := 1) (by decide +kernel) (by decide) ?_
      refine wp_iand (by decide +kernel) ?_
      refine wp_goto (off := 4) (tgt := 69) (by decide +kernel) (by decide) ?_
      refine wp_topi (fun u9 eu9 => ?_)
      replace H := H u9 eu9
      refine wp_istore (i := 4) (lv' := [(4, .int u9), (3, .int u3), (0, .ref h), (1, .int x1), (2, .int x2)]) (by decide +kernel) (by decide) rfl ?_
      refine wp_iload_n (z := 1) (i := 1) (x := x1) 3 (by decide +kernel) rfl rfl ?_
      refine wp_if_eq (off := 37) (tgt := 109) (by decide +kernel) (by decide) (fun c10 => ?_) (fun c10 => ?_)
      · rw [if_pos c10] at H
        refine wp_iconst (z := 0) (v := 0) (by decide +kernel) (by decide) ?_
        refine wp_istore_n (z := 1) (i := 1) (lv' := [(1, .int 0), (4, .int u9), (3, .int u3), (0, .ref h), (2, .int x2)]) (by decide +kernel) rfl (by decide) rfl ?_
        refine wp_iinc (i := 2) (z := 1) (v := 1) (lv' := [(2, .int (x2 + 1)), (1, .int 0), (4, .int u9), (3, .int u3), (0, .ref h)]) 4 (by decide +kernel) rfl (by decide) (by decide) rfl ?_
        refine wp_goto (off := -110) (tgt := 4) (by decide +kernel) (by decide) ?_
        exact wp_sub [4, 1, 0] rfl H
      · rw [if_neg c10] at H
        refine wp_iload_n (z := 3) (i := 3) (x := u3) 1 (by decide +kernel) rfl rfl ?_
        refine wp_aload_n (z := 0) (i := 0) (r := (some h)) 2 (by decide +kernel) rfl rfl ?_
        refine wp_getI (idx := 190) (by decide +kernel) fl9_190 rfl ok.1 ?_
        refine wp_icmp_ge (off := 29) (tgt := 109) (by decide +kernel) (by decide) (fun c11 => ?_) (fun c11 => ?_)
        · rw [if_pos c11] at H
          refine wp_iconst (z := 0) (v := 0) (by decide +kernel) (by decide) ?_
          refine wp_istore_n (z := 1) (i := 1) (lv' := [(1, .int 0), (4, .int u9), (3, .int u3), (0, .ref h), (2, .int x2)]) (by decide +kernel) rfl (by decide) rfl ?_
          refine wp_iinc (i := 2) (z := 1) (v := 1) (lv' := [(2, .int (x2 + 1)), (1, .int 0), (4, .int u9), (3, .int u3), (0, .ref h)]) 4 (by decide +kernel) rfl (by decide) (by decide) rfl ?_
          refine wp_goto (off := -110) (tgt := 4) (by decide +kernel) (by decide) ?_
          exact wp_sub [4, 1, 0] rfl H
        · rw [if_neg c11] at H
          refine wp_iload (i := 4) (x := u9) 0 (by decide +kernel) rfl ?_
          refine wp_iconst (z := 1) (v := 1) (by decide +kernel) (by decide) ?_
          refine wp_aload_n (z := 0) (i := 0) (r := (some h)) 2 (by decide +kernel) rfl rfl ?_
          refine wp_getS (idx := 7) (q := (h + 1)) (by decide +kernel) fl9_7 rfl ok.1 (okr9_0 ok) ?_
          refine wp_aload_n (z := 0) (i := 0) (r := (some h)) 2 (by decide +kernel) rfl rfl ?_
          refine wp_getI (idx := 386) (by decide +kernel) fl9_386 rfl ok.1 ?_
          refine wp_iconst (z := 1) (v := 1) (by decide +kernel) (by decide) ?_
          refine wp_iadd (by decide +kernel) ?_
          refine wp_iconst (z := 3) (v := 3) (by decide +kernel) (by decide) ?_
          refine wp_iload_n (z := 2) (i := 2) (x := x2) 4 (by decide +kernel) rfl rfl ?_
          refine wp_imul (by decide +kernel) ?_
          refine wp_iadd (by decide +kernel) ?_
          obtain ⟨o13, H⟩ := H
          refine wp_iald (j := (cl (((I h 37) + 1) + (3 * x2)))) (by decide +kernel) (oks9_0 ok) o13 rfl ?_
          refine wp_isub (by decide +kernel) ?_
          refine wp_icmp_ne (off := 7) (tgt := 109) (by decide +kernel) (by decide) (fun c12 => ?_) (fun c12 => ?_)
          · rw [if_neg c12] at H
            refine wp_iconst (z := 0) (v := 0) (by decide +kernel) (by decide) ?_
            refine wp_istore_n (z := 1) (i := 1) (lv' := [(1, .int 0), (4, .int u9), (3, .int u3), (0, .ref h), (2, .int x2)]) (by decide +kernel) rfl (by decide) rfl ?_
            refine wp_iinc (i := 2) (z := 1) (v := 1) (lv' := [(2, .int (x2 + 1)), (1, .int 0), (4, .int u9), (3, .int u3), (0, .ref h)]) 4 (by decide +kernel) rfl (by decide) (by decide) rfl ?_
            refine wp_goto (off := -110) (tgt := 4) (by decide +kernel) (by decide) ?_
            exact wp_sub [4, 1, 0] rfl H
          · rw [if_pos c12] at H
            refine wp_iconst (z := 1) (v := 1) (by decide +kernel) (by decide) ?_
            refine wp_goto (off := 4) (tgt := 110) (by decide +kernel) (by decide) ?_
            refine wp_istore_n (z := 1) (i := 1) (lv' := [(1, .int 1), (4, .int u9), (3, .int u3), (0, .ref h), (2, .int x2)]) (by decide +kernel) rfl (by decide) rfl ?_
            refine wp_iinc (i := 2) (z := 1) (v := 1) (lv' := [(2, .int (x2 + 1)), (1, .int 1), (4, .int u9), (3, .int u3), (0, .ref h)]) 4 (by decide +kernel) rfl (by decide) (by decide) rfl ?_
            refine wp_goto (off := -110) (tgt := 4) (by decide +kernel) (by decide) ?_
            exact wp_sub [4, 1, 0] rfl H
/-! DeafWallModel.nextFit(II)I -/
set_option maxRecDepth 20000 in
theorem b9_nextFit {X : XX} {G : GG} {I : Nat → Nat → Int32} {L : Nat → Nat → Int64} {h : Nat} {x1 : Int32} {x2 : Int32} {Q : Int32 → (Nat → Nat → Int32) → (Nat → Nat → Int64) → Prop} (ok : OK9 G h) (H : wpI X B9_nextFit 4 [(0, .ref h), (1, .int x1), (3, .int (x2 + 1))] [] G I L Q) : wpI X B9_nextFit 0 [(0, .ref h), (1, .int x1), (2, .int x2)] [] G I L Q := by
  refine wp_iload_n (z := 2) (i := 2) (x := x2) 2 (by decide +kernel) rfl rfl ?_
  refine wp_iconst (z := 1) (v := 1) (by decide +kernel) (by decide) ?_
  refine wp_iadd (by decide +kernel) ?_
  refine wp_istore_n (z := 3) (i := 3) (lv' := [(3, .int (x2 + 1)), (0, .ref h), (1, .int x1), (2, .int x2)]) (by decide +kernel) rfl (by decide) rfl ?_
  exact wp_sub [1, 2, 0] rfl H
set_option maxRecDepth 20000 in
theorem b9_nextFit_4 {X : XX} {G : GG} {I : Nat → Nat → Int32} {L : Nat → Nat → Int64} {h : Nat} {x1 : Int32} {x3 : Int32} {Q : Int32 → (Nat → Nat → Int32) → (Nat → Nat → Int64) → Prop} (ok : OK9 G h) (H : if ((1 : Int32) <<< (x1 &&& 31)) ≤ x3 then (Q (-1) I L) else (wpV X B9_playsTune 0 [(0, .ref h), (1, .int x1), (2, .int x3)] [] G I L (fun I2 L3 => wpI X B9_isSo 0 [(0, .ref h)] [] G I2 L3 (fun r7 I5 L6 => if r7 = (0 : Int32) then (wpI X B9_nextFit 4 [(0, .ref h), (1, .int x1), (3, .int (x3 + 1))] [] G I5 L6 Q) else (Q x3 I5 L6))))) : wpI X B9_nextFit 4 [(0, .ref h), (1, .int x1), (3, .int x3)] [] G I L Q := by
  refine wp_iload_n (z := 3) (i := 3) (x := x3) 2 (by decide +kernel) rfl rfl ?_
  refine wp_iconst (z := 1) (v := 1) (by decide +kernel) (by decide) ?_
  refine wp_iload_n (z := 1) (i := 1) (x := x1) 1 (by decide +kernel) rfl rfl ?_
  refine wp_ishl (by decide +kernel) ?_
  refine wp_icmp_ge (off := 24) (tgt := 32) (by decide +kernel) (by decide) (fun c1 => ?_) (fun c1 => ?_)
  · rw [if_pos c1] at H
    refine wp_iconst (z := -1) (v := (-1)) (by decide +kernel) (by decide) ?_
    exact wp_iret (by decide +kernel) rfl (Nat.zero_le _) (Nat.zero_le _) ⟨_, _, _, rfl, rfl, H⟩
  · rw [if_neg c1] at H
    refine wp_aload_n (z := 0) (i := 0) (r := (some h)) 0 (by decide +kernel) rfl rfl ?_
    refine wp_iload_n (z := 1) (i := 1) (x := x1) 1 (by decide +kernel) rfl rfl ?_
    refine wp_iload_n (z := 3) (i := 3) (x := x3) 2 (by decide +kernel) rfl rfl ?_
    refine wp_callV (idx := 262) (B2 := B9_playsTune) (As := [.int x1, .int x3]) (a := h) (st := []) (by decide +kernel) m9_playsTune ml9_262 k9_playsTune e9_playsTune ck9 ok.1 (⟨Nat.le_of_ble_eq_true rfl, Nat.le_of_ble_eq_true rfl⟩ : rOK B9_nextFit B9_playsTune) rfl (Nat.le_of_ble_eq_true rfl) (Nat.le_of_ble_eq_true rfl) ⟨Nat.le_of_ble_eq_true rfl, Nat.le_of_ble_eq_true rfl⟩ rfl (wp_mono H (fun v9 M9 hq9 => ?_))
    clear H
    obtain ⟨I2, L3, rfl, rfl, H⟩ := hq9
    show wp X B9_nextFit 17 [(0, .ref h), (1, .int x1), (3, .int x3)] [] (G, I2, L3) 0 0 _
    refine wp_aload_n (z := 0) (i := 0) (r := (some h)) 0 (by decide +kernel) rfl rfl ?_
    refine wp_callV (idx := 392) (B2 := B9_isSo) (As := []) (a := h) (st := []) (by decide +kernel) m9_isSo ml9_392 k9_isSo e9_isSo ck9 ok.1 (⟨Nat.le_of_ble_eq_true rfl, Nat.le_of_ble_eq_true rfl⟩ : rOK B9_nextFit B9_isSo) rfl (Nat.le_of_ble_eq_true rfl) (Nat.le_of_ble_eq_true rfl) ⟨Nat.le_of_ble_eq_true rfl, Nat.le_of_ble_eq_true rfl⟩ rfl (wp_mono H (fun v9 M9 hq9 => ?_))
    clear H
    obtain ⟨r7, I5, L6, rfl, rfl, H⟩ := hq9
    show wp X B9_nextFit 21 [(0, .ref h), (1, .int x1), (3, .int x3)] [.int r7] (G, I5, L6) 0 0 _
    refine wp_if_eq (off := 5) (tgt := 26) (by decide +kernel) (by decide) (fun c8 => ?_) (fun c8 => ?_)
    · rw [if_pos c8] at H
      refine wp_iinc (i := 3) (z := 1) (v := 1) (lv' := [(3, .int (x3 + 1)), (0, .ref h), (1, .int x1)]) 2 (by decide +kernel) rfl (by decide) (by decide) rfl ?_
      refine wp_goto (off := -25) (tgt := 4) (by decide +kernel) (by decide) ?_
      exact wp_sub [1, 2, 0] rfl H
    · rw [if_neg c8] at H
      refine wp_iload_n (z := 3) (i := 3) (x := x3) 2 (by decide +kernel) rfl rfl ?_
      exact wp_iret (by decide +kernel) rfl (Nat.zero_le _) (Nat.zero_le _) ⟨_, _, _, rfl, rfl, H⟩
/-! DeafWallModel.laysFits(I)V -/
set_option maxRecDepth 20000 in
theorem b9_laysFits {X : XX} {G : GG} {I : Nat → Nat → Int32} {L : Nat → Nat → Int64} {h : Nat} {x1 : Int32} {Q : (Nat → Nat → Int32) → (Nat → Nat → Int64) → Prop} (ok : OK9 G h) (H : ∀ I1, I1 = up2 I h 38 0 → ∀ I2, I2 = up2 I1 h 39 (((1 : Int32) <<< (x1 &&& 31)) - 1) → ∀ I3, I3 = up2 I2 h 40 0 → ∀ I4, I4 = up2 I3 h 41 (-1) → ∀ I5, I5 = up2 I4 h 42 (-1) → wpV X B9_laysFits 31 [(0, .ref h), (1, .int x1), (2, .int 0)] [] G I5 L Q) : wpV X B9_laysFits 0 [(0, .ref h), (1, .int x1)] [] G I L Q := by
  refine wp_aload_n (z := 0) (i := 0) (r := (some h)) 0 (by decide +kernel) rfl rfl ?_
  refine wp_iconst (z := 0) (v := 0) (by decide +kernel) (by decide) ?_
  refine wp_putI (idx := 396) (by decide +kernel) fl9_396 rfl ok.1 ?_
  refine wp_memI (fun I1 eI1 => ?_)
  replace H := H I1 eI1
  refine wp_aload_n (z := 0) (i := 0) (r := (some h)) 0 (by decide +kernel) rfl rfl ?_
  refine wp_iconst (z := 1) (v := 1) (by decide +kernel) (by decide) ?_
  refine wp_iload_n (z := 1) (i := 1) (x := x1) 1 (by decide +kernel) rfl rfl ?_
  refine wp_ishl (by decide +kernel) ?_
  refine wp_iconst (z := 1) (v := 1) (by decide +kernel) (by decide) ?_
  refine wp_isub (by decide +kernel) ?_
  refine wp_putI (idx := 399) (by decide +kernel) fl9_399 rfl ok.1 ?_
  refine wp_memI (fun I2 eI2 => ?_)
  replace H := H I2 eI2
  refine wp_aload_n (z := 0) (i := 0) (r := (some h)) 0 (by decide +kernel) rfl rfl ?_
  refine wp_iconst (z := 0) (v := 0) (by decide +kernel) (by decide) ?_
  refine wp_putI (idx := 402) (by decide +kernel) fl9_402 rfl ok.1 ?_
  refine wp_memI (fun I3 eI3 => ?_)
  replace H := H I3 eI3
  refine wp_aload_n (z := 0) (i := 0) (r := (some h)) 0 (by decide +kernel) rfl rfl ?_
  refine wp_iconst (z := -1) (v := (-1)) (by decide +kernel) (by decide) ?_
  refine wp_putI (idx := 405) (by decide +kernel) fl9_405 rfl ok.1 ?_
  refine wp_memI (fun I4 eI4 => ?_)
  replace H := H I4 eI4
  refine wp_aload_n (z := 0) (i := 0) (r := (some h)) 0 (by decide +kernel) rfl rfl ?_
  refine wp_iconst (z := -1) (v := (-1)) (by decide +kernel) (by decide) ?_
  refine wp_putI (idx := 408) (by decide +kernel) fl9_408 rfl ok.1 ?_
  refine wp_memI (fun I5 eI5 => ?_)
  replace H := H I5 eI5
  refine wp_iconst (z := 0) (v := 0) (by decide +kernel) (by decide) ?_
  refine wp_istore_n (z := 2) (i := 2) (lv' := [(2, .int 0), (0, .ref h), (1, .int x1)]) (by decide +kernel) rfl (by decide) rfl ?_
  exact wp_sub [1, 2, 0] rfl H
set_option maxRecDepth 20000 in
theorem b9_laysFits_31 {X : XX} {G : GG} {I : Nat → Nat → Int32} {L : Nat → Nat → Int64} {h : Nat} {x1 : Int32} {x2 : Int32} {Q : (Nat → Nat → Int32) → (Nat → Nat → Int64) → Prop} (ok : OK9 G h) (H : if 200 ≤ x2 then (wpV X B9_laysFits 53 [(0, .ref h), (1, .int x1), (2, .int 0)] [] G I L Q) else (vp_in x2 200 ∧ (∀ I2, I2 = up2 I (h + 17) (cl x2) 0 → wpV X B9_laysFits 31 [(0, .ref h), (1, .int x1), (2, .int (x2 + 1))] [] G I2 L Q))) : wpV X B9_laysFits 31 [(0, .ref h), (1, .int x1), (2, .int x2)] [] G I L Q := by
  refine wp_iload_n (z := 2) (i := 2) (x := x2) 2 (by decide +kernel) rfl rfl ?_
  refine wp_sipush (z := 200) (v := 200) (by decide +kernel) (by decide) ?_
  refine wp_icmp_ge (off := 16) (tgt := 51) (by decide +kernel) (by decide) (fun c1 => ?_) (fun c1 => ?_)
  · rw [if_pos c1] at H
    refine wp_iconst (z := 0) (v := 0) (by decide +kernel) (by decide) ?_
    refine wp_istore_n (z := 2) (i := 2) (lv' := [(2, .int 0), (0, .ref h), (1, .int x1)]) (by decide +kernel) rfl (by decide) rfl ?_
    exact wp_sub [1, 2, 0] rfl H
  · rw [if_neg c1] at H
    refine wp_aload_n (z := 0) (i := 0) (r := (some h)) 0 (by decide +kernel) rfl rfl ?_
    refine wp_getS (idx := 60) (q := (h + 17)) (by decide +kernel) fl9_60 rfl ok.1 (okr9_43 ok) ?_
    refine wp_iload_n (z := 2) (i := 2) (x := x2) 2 (by decide +kernel) rfl rfl ?_
    refine wp_iconst (z := 0) (v := 0) (by decide +kernel) (by decide) ?_
    obtain ⟨o3, H⟩ := H
    refine wp_iast (j := (cl x2)) (by decide +kernel) (oks9_43 ok) o3 rfl ?_
    refine wp_memI (fun I2 eI2 => ?_)
    replace H := H I2 eI2
    refine wp_iinc (i := 2) (z := 1) (v := 1) (lv' := [(2, .int (x2 + 1)), (0, .ref h), (1, .int x1)]) 2 (by decide +kernel) rfl (by decide) (by decide) rfl ?_
    refine wp_goto (off := -17) (tgt := 31) (by decide +kernel) (by decide) ?_
    exact wp_sub [1, 2, 0] rfl H
set_option maxRecDepth 20000 in
theorem b9_laysFits_53 {X : XX} {G : GG} {I : Nat → Nat → Int32} {L : Nat → Nat → Int64} {h : Nat} {x1 : Int32} {x2 : Int32} {Q : (Nat → Nat → Int32) → (Nat → Nat → Int64) → Prop} (ok : OK9 G h) (H : if 8 ≤ x2 then (wpI X B9_nextFit 0 [(0, .ref h), (1, .int x1), (2, .int (-1))] [] G I L (fun r4 I2 L3 => wpV X B9_laysFits 79 [(0, .ref h), (1, .int x1), (2, .int r4)] [] G I2 L3 Q)) else (vp_in x2 8 ∧ (∀ I5, I5 = up2 I (h + 18) (cl x2) 0 → wpV X B9_laysFits 53 [(0, .ref h), (1, .int x1), (2, .int (x2 + 1))] [] G I5 L Q))) : wpV X B9_laysFits 53 [(0, .ref h), (1, .int x1), (2, .int x2)] [] G I L Q := by
  refine wp_iload_n (z := 2) (i := 2) (x := x2) 2 (by decide +kernel) rfl rfl ?_
  refine wp_bipush (z := 8) (v := 8) (by decide +kernel) (by decide) ?_
  refine wp_icmp_ge (off := 16) (tgt := 72) (by decide +kernel) (by decide) (fun c1 => ?_) (fun c1 => ?_)
  · rw [if_pos c1] at H
    refine wp_aload_n (z := 0) (i := 0) (r := (some h)) 0 (by decide +kernel) rfl rfl ?_
    refine wp_iload_n (z := 1) (i := 1) (x := x1) 1 (by decide +kernel) rfl rfl ?_
    refine wp_iconst (z := -1) (v := (-1)) (by decide +kernel) (by decide) ?_
    refine wp_callV (idx := 411) (B2 := B9_nextFit) (As := [.int x1, .int (-1)]) (a := h) (st := []) (by decide +kernel) m9_nextFit ml9_411 k9_nextFit e9_nextFit ck9 ok.1 (⟨Nat.le_of_ble_eq_true rfl, Nat.le_of_ble_eq_true rfl⟩ : rOK B9_laysFits B9_nextFit) rfl (Nat.le_of_ble_eq_true rfl) (Nat.le_of_ble_eq_true rfl) ⟨Nat.le_of_ble_eq_true rfl, Nat.le_of_ble_eq_true rfl⟩ rfl (wp_mono H (fun v9 M9 hq9 => ?_))
    clear H
    obtain ⟨r4, I2, L3, rfl, rfl, H⟩ := hq9
    show wp X B9_laysFits 78 [(0, .ref h), (1, .int x1), (2, .int x2)] [.int r4] (G, I2, L3) 0 0 _
    refine wp_istore_n (z := 2) (i := 2) (lv' := [(2, .int r4), (0, .ref h), (1, .int x1)]) (by decide +kernel) rfl (by decide) rfl ?_
    exact wp_sub [1, 2, 0] rfl H
  · rw [if_neg c1] at H
    refine wp_aload_n (z := 0) (i := 0) (r := (some h)) 0 (by decide +kernel) rfl rfl ?_
    refine wp_getS (idx := 63) (q := (h + 18)) (by decide +kernel) fl9_63 rfl ok.1 (okr9_44 ok) ?_
    refine wp_iload_n (z := 2) (i := 2) (x := x2) 2 (by decide +kernel) rfl rfl ?_
    refine wp_iconst (z := 0) (v := 0) (by decide +kernel) (by decide) ?_
    obtain ⟨o6, H⟩ := H
    refine wp_iast (j := (cl x2)) (by decide +kernel) (oks9_44 ok) o6 rfl ?_
    refine wp_memI (fun I5 eI5 => ?_)
    replace H := H I5 eI5
    refine wp_iinc (i := 2) (z := 1) (v := 1) (lv' := [(2, .int (x2 + 1)), (0, .ref h), (1, .int x1)]) 2 (by decide +kernel) rfl (by decide) (by decide) rfl ?_
    refine wp_goto (off := -16) (tgt := 53) (by decide +kernel) (by decide) ?_
    exact wp_sub [1, 2, 0] rfl H
set_option maxRecDepth 20000 in
theorem b9_laysFits_79 {X : XX} {G : GG} {I : Nat → Nat → Int32} {L : Nat → Nat → Int64} {h : Nat} {x1 : Int32} {x2 : Int32} {Q : (Nat → Nat → Int32) → (Nat → Nat → Int64) → Prop} (ok : OK9 G h) (H : if x2 = (-1) then (Q I L) else (∀ I2, I2 = up2 I h 38 ((I h 38) + 1) → ∀ I3, I3 = up2 I2 h 39 ((I2 h 39) &&& x2) → ∀ I4, I4 = up2 I3 h 40 ((I3 h 40) ||| x2) → if (I4 h 41) = (-1) then (wpI X B9_bitsOf 0 [(0, .int x2)] [] G I4 L (fun r8 I6 L7 => ∀ I9, I9 = up2 I6 h 41 r8 → wpI X B9_bitsOf 0 [(0, .int x2)] [] G I9 L7 (fun r12 I10 L11 => if r12 ≤ (I10 h 42) then (∀ I14, I14 = up2 I10 h 42 (I10 h 42) → wpV X B9_laysFits 176 [(0, .ref h), (1, .int x1), (2, .int x2), (3, .int 0)] [] G I14 L11 Q) else (wpI X B9_bitsOf 0 [(0, .int x2)] [] G I10 L11 (fun r17 I15 L16 => ∀ I18, I18 = up2 I15 h 42 r17 → wpV X B9_laysFits 176 [(0, .ref h), (1, .int x1), (2, .int x2), (3, .int 0)] [] G I18 L16 Q))))) else (wpI X B9_bitsOf 0 [(0, .int x2)] [] G I4 L (fun r21 I19 L20 => if (I19 h 41) ≤ r21 then (∀ I23, I23 = up2 I19 h 41 (I19 h 41) → wpI X B9_bitsOf 0 [(0, .int x2)] [] G I23 L20 (fun r26 I24 L25 => if r26 ≤ (I24 h 42) then (∀ I28, I28 = up2 I24 h 42 (I24 h 42) → wpV X B9_laysFits 176 [(0, .ref h), (1, .int x1), (2, .int x2), (3, .int 0)] [] G I28 L25 Q) else (wpI X B9_bitsOf 0 [(0, .int x2)] [] G I24 L25 (fun r31 I29 L30 => ∀ I32, I32 = up2 I29 h 42 r31 → wpV X B9_laysFits 176 [(0, .ref h), (1, .int x1), (2, .int x2), (3, .int 0)] [] G I32 L30 Q)))) else (wpI X B9_bitsOf 0 [(0, .int x2)] [] G I19 L20 (fun r35 I33 L34 => ∀ I36, I36 = up2 I33 h 41 r35 → wpI X B9_bitsOf 0 [(0, .int x2)] [] G I36 L34 (fun r39 I37 L38 => if r39 ≤ (I37 h 42) then (∀ I41, I41 = up2 I37 h 42 (I37 h 42) → wpV X B9_laysFits 176 [(0, .ref h), (1, .int x1), (2, .int x2), (3, .int 0)] [] G I41 L38 Q) else (wpI X B9_bitsOf 0 [(0, .int x2)] [] G I37 L38 (fun r44 I42 L43 => ∀ I45, I45 = up2 I42 h 42 r44 → wpV X B9_laysFits 176 [(0, .ref h), (1, .int x1), (2, .int x2), (3, .int 0)] [] G I45 L43 Q))))))))) : wpV X B9_laysFits 79 [(0, .ref h), (1, .int x1), (2, .int x2)] [] G I L Q := by
  refine wp_iload_n (z := 2) (i := 2) (x := x2) 2 (by decide +kernel) rfl rfl ?_
  refine wp_iconst (z := -1) (v := (-1)) (by decide +kernel) (by decide) ?_
  refine wp_icmp_eq (off := 171) (tgt := 252) (by decide +kernel) (by decide) (fun c1 => ?_) (fun c1 => ?_)
  · rw [if_pos c1] at H
    exact wp_vret (by decide +kernel) rfl (Nat.zero_le _) (Nat.zero_le _) ⟨_, _, rfl, rfl, H⟩
  · rw [if_neg c1] at H
    refine wp_aload_n (z := 0) (i := 0) (r := (some h)) 0 (by decide +kernel) rfl rfl ?_
    refine wp_dup (by decide +kernel) rfl ?_
    refine wp_getI (idx := 396) (by decide +kernel) fl9_396 rfl ok.1 ?_
    refine wp_iconst (z := 1) (v := 1) (by decide +kernel) (by decide) ?_
    refine wp_iadd (by decide +kernel) ?_
    refine wp_putI (idx := 396) (by decide +kernel) fl9_396 rfl ok.1 ?_
    refine wp_memI (fun I2 eI2 => ?_)
    replace H := H I2 eI2
    refine wp_aload_n (z := 0) (i := 0) (r := (some h)) 0 (by decide +kernel) rfl rfl ?_
    refine wp_dup (by decide +kernel) rfl ?_
    refine wp_getI (idx := 399) (by decide +kernel) fl9_399 rfl ok.1 ?_
    refine wp_iload_n (z := 2) (i := 2) (x := x2) 2 (by decide +kernel) rfl rfl ?_
    refine wp_iand (by decide +kernel) ?_
    refine wp_putI (idx := 399) (by decide +kernel) fl9_399 rfl ok.1 ?_
    refine wp_memI (fun I3 eI3 => ?_)
    replace H := H I3 eI3
    refine wp_aload_n (z := 0) (i := 0) (r := (some h)) 0 (by decide +kernel) rfl rfl ?_
    refine wp_dup (by decide +kernel) rfl ?_
    refine wp_getI (idx := 402) (by decide +kernel) fl9_402 rfl ok.1 ?_
    refine wp_iload_n (z := 2) (i := 2) (x := x2) 2 (by decide +kernel) rfl rfl ?_
    refine wp_ior (by decide +kernel) ?_
    refine wp_putI (idx := 402) (by decide +kernel) fl9_402 rfl ok.1 ?_
    refine wp_memI (fun I4 eI4 => ?_)
    replace H := H I4 eI4
    refine wp_aload_n (z := 0) (i := 0) (r := (some h)) 0 (by decide +kernel) rfl rfl ?_
    refine wp_aload_n (z := 0) (i := 0) (r := (some h)) 0 (by decide +kernel) rfl rfl ?_
    refine wp_getI (idx := 405) (by decide +kernel) fl9_405 rfl ok.1 ?_
    refine wp_iconst (z := -1) (v := (-1)) (by decide +kernel) (by decide) ?_
    refine wp_icmp_eq (off := 14) (tgt := 134) (by decide +kernel) (by decide) (fun c5 => ?_) (fun c5 => ?_)
    · rw [if_pos c5] at H
      refine wp_iload_n (z := 2) (i := 2) (x := x2) 2 (by decide +kernel) rfl rfl ?_
      refine wp_callS (idx := 250) (B2 := B9_bitsOf) (As := [.int x2]) (st := [.ref h]) (by decide +kernel) m9_bitsOf ml9_250 k9_bitsOf (⟨Nat.le_of_ble_eq_true rfl, Nat.le_of_ble_eq_true rfl⟩ : rOK B9_laysFits B9_bitsOf) rfl (Nat.le_of_ble_eq_true rfl) (Nat.le_of_ble_eq_true rfl) ⟨Nat.le_of_ble_eq_true rfl, Nat.le_of_ble_eq_true rfl⟩ rfl (wp_mono H (fun v9 M9 hq9 => ?_))
      clear H
      obtain ⟨r8, I6, L7, rfl, rfl, H⟩ := hq9
      show wp X B9_laysFits 138 [(0, .ref h), (1, .int x1), (2, .int x2)] [.int r8, .ref h] (G, I6, L7) 0 0 _
      refine wp_goto (off := 7) (tgt := 145) (by decide +kernel) (by decide) ?_
      refine wp_putI (idx := 405) (by decide +kernel) fl9_405 rfl ok.1 ?_
      refine wp_memI (fun I9 eI9 => ?_)
      replace H := H I9 eI9
      refine wp_aload_n (z := 0) (i := 0) (r := (some h)) 0 (by decide +kernel) rfl rfl ?_
      refine wp_iload_n (z := 2) (i := 2) (x := x2) 2 (by decide +kernel) rfl rfl ?_
      refine wp_callS (idx := 250) (B2 := B9_bitsOf) (As := [.int x2]) (st := [.ref h]) (by decide +kernel) m9_bitsOf ml9_250 k9_bitsOf (⟨Nat.le_of_ble_eq_true rfl, Nat.le_of_ble_eq_true rfl⟩ : rOK B9_laysFits B9_bitsOf) rfl (Nat.le_of_ble_eq_true rfl) (Nat.le_of_ble_eq_true rfl) ⟨Nat.le_of_ble_eq_true rfl, Nat.le_of_ble_eq_true rfl⟩ rfl (wp_mono H (fun v9 M9 hq9 => ?_))
      clear H
      obtain ⟨r12, I10, L11, rfl, rfl, H⟩ := hq9
      show wp X B9_laysFits 153 [(0, .ref h), (1, .int x1), (2, .int x2)] [.int r12, .ref h] (G, I10, L11) 0 0 _
      refine wp_aload_n (z := 0) (i := 0) (r := (some h)) 0 (by decide +kernel) rfl rfl ?_
      refine wp_getI (idx := 408) (by decide +kernel) fl9_408 rfl ok.1 ?_
      refine wp_icmp_le (off := 10) (tgt := 167) (by decide +kernel) (by decide) (fun c13 => ?_) (fun c13 => ?_)
      · rw [if_pos c13] at H
        refine wp_aload_n (z := 0) (i := 0) (r := (some h)) 0 (by decide +kernel) rfl rfl ?_
        refine wp_getI (idx := 408) (by decide +kernel) fl9_408 rfl ok.1 ?_
        refine wp_putI (idx := 408) (by decide +kernel) fl9_408 rfl ok.1 ?_
        refine wp_memI (fun I14 eI14 => ?_)
        replace H := H I14 eI14
        refine wp_iconst (z := 0) (v := 0) (by decide +kernel) (by decide) ?_
        refine wp_istore_n (z := 3) (i := 3) (lv' := [(3, .int 0), (0, .ref h), (1, .int x1), (2, .int x2)]) (by decide +kernel) rfl (by decide) rfl ?_
        exact wp_sub [1, 2, 3, 0] rfl H
      · rw [if_neg c13] at H
        refine wp_iload_n (z := 2) (i := 2) (x := x2) 2 (by decide +kernel) rfl rfl ?_
        refine wp_callS (idx := 250) (B2 := B9_bitsOf) (As := [.int x2]) (st := [.ref h]) (by decide +kernel) m9_bitsOf ml9_250 k9_bitsOf (⟨Nat.le_of_ble_eq_true rfl, Nat.le_of_ble_eq_true rfl⟩ : rOK B9_laysFits B9_bitsOf) rfl (Nat.le_of_ble_eq_true rfl) (Nat.le_of_ble_eq_true rfl) ⟨Nat.le_of_ble_eq_true rfl, Nat.le_of_ble_eq_true rfl⟩ rfl (wp_mono H (fun v9 M9 hq9 => ?_))
        clear H
        obtain ⟨r17, I15, L16, rfl, rfl, H⟩ := hq9
        show wp X B9_laysFits 164 [(0, .ref h), (1, .int x1), (2, .int x2)] [.int r17, .ref h] (G, I15, L16) 0 0 _
        refine wp_goto (off := 7) (tgt := 171) (by decide +kernel) (by decide) ?_
        refine wp_putI (idx := 408) (by decide +kernel) fl9_408 rfl ok.1 ?_
        refine wp_memI (fun I18 eI18 => ?_)
        replace H := H I18 eI18
        refine wp_iconst (z := 0) (v := 0) (by decide +kernel) (by decide) ?_
        refine wp_istore_n (z := 3) (i := 3) (lv' := [(3, .int 0), (0, .ref h), (1, .int x1), (2, .int x2)]) (by decide +kernel) rfl (by decide) rfl ?_
        exact wp_sub [1, 2, 3, 0] rfl H
    · rw [if_neg c5] at H
      refine wp_iload_n (z := 2) (i := 2) (x := x2) 2 (by decide +kernel) rfl rfl ?_
      refine wp_callS (idx := 250) (B2 := B9_bitsOf) (As := [.int x2]) (st := [.ref h]) (by decide +kernel) m9_bitsOf ml9_250 k9_bitsOf (⟨Nat.le_of_ble_eq_true rfl, Nat.le_of_ble_eq_true rfl⟩ : rOK B9_laysFits B9_bitsOf) rfl (Nat.le_of_ble_eq_true rfl) (Nat.le_of_ble_eq_true rfl) ⟨Nat.le_of_ble_eq_true rfl, Nat.le_of_ble_eq_true rfl⟩ rfl (wp_mono H (fun v9 M9 hq9 => ?_))
      clear H
      obtain ⟨r21, I19, L20, rfl, rfl, H⟩ := hq9
      show wp X B9_laysFits 127 [(0, .ref h), (1, .int x1), (2, .int x2)] [.int r21, .ref h] (G, I19, L20) 0 0 _
      refine wp_aload_n (z := 0) (i := 0) (r := (some h)) 0 (by decide +kernel) rfl rfl ?_
      refine wp_getI (idx := 405) (by decide +kernel) fl9_405 rfl ok.1 ?_
      refine wp_icmp_ge (off := 10) (tgt := 141) (by decide +kernel) (by decide) (fun c22 => ?_) (fun c22 => ?_)
      · rw [if_pos c22] at H
        refine wp_aload_n (z := 0) (i := 0) (r := (some h)) 0 (by decide +kernel) rfl rfl ?_
        refine wp_getI (idx := 405) (by decide +kernel) fl9_405 rfl ok.1 ?_
        refine wp_putI (idx := 405) (by decide +kernel) fl9_405 rfl ok.1 ?_
        refine wp_memI (fun I23 eI23 => ?_)
        replace H := H I23 eI23
        refine wp_aload_n (z := 0) (i := 0) (r := (some h)) 0 (by decide +kernel) rfl rfl ?_
        refine wp_iload_n (z := 2) (i := 2) (x := x2) 2 (by decide +kernel) rfl rfl ?_
        refine wp_callS (idx := 250) (B2 := B9_bitsOf) (As := [.int x2]) (st := [.ref h]) (by decide +kernel) m9_bitsOf ml9_250 k9_bitsOf (⟨Nat.le_of_ble_eq_true rfl, Nat.le_of_ble_eq_true rfl⟩ : rOK B9_laysFits B9_bitsOf) rfl (Nat.le_of_ble_eq_true rfl) (Nat.le_of_ble_eq_true rfl) ⟨Nat.le_of_ble_eq_true rfl, Nat.le_of_ble_eq_true rfl⟩ rfl (wp_mono H (fun v9 M9 hq9 => ?_))
        clear H
        obtain ⟨r26, I24, L25, rfl, rfl, H⟩ := hq9
        show wp X B9_laysFits 153 [(0, .ref h), (1, .int x1), (2, .int x2)] [.int r26, .ref h] (G, I24, L25) 0 0 _
        refine wp_aload_n (z := 0) (i := 0) (r := (some h)) 0 (by decide +kernel) rfl rfl ?_
        refine wp_getI (idx := 408) (by decide +kernel) fl9_408 rfl ok.1 ?_
        refine wp_icmp_le (off := 10) (tgt := 167) (by decide +kernel) (by decide) (fun c27 => ?_) (fun c27 => ?_)
        · rw [if_pos c27] at H
          refine wp_aload_n (z := 0) (i := 0) (r := (some h)) 0 (by decide +kernel) rfl rfl ?_
          refine wp_getI (idx := 408) (by decide +kernel) fl9_408 rfl ok.1 ?_
          refine wp_putI (idx := 408) (by decide +kernel) fl9_408 rfl ok.1 ?_
          refine wp_memI (fun I28 eI28 => ?_)
          replace H := H I28 eI28
          refine wp_iconst (z := 0) (v := 0) (by decide +kernel) (by decide) ?_
          refine wp_istore_n (z := 3) (i := 3) (lv' := [(3, .int 0), (0, .ref h), (1, .int x1), (2, .int x2)]) (by decide +kernel) rfl (by decide) rfl ?_
          exact wp_sub [1, 2, 3, 0] rfl H
        · rw [if_neg c27] at H
          refine wp_iload_n (z := 2) (i := 2) (x := x2) 2 (by decide +kernel) rfl rfl ?_
          refine wp_callS (idx := 250) (B2 := B9_bitsOf) (As := [.int x2]) (st := [.ref h]) (by decide +kernel) m9_bitsOf ml9_250 k9_bitsOf (⟨Nat.le_of_ble_eq_true rfl, Nat.le_of_ble_eq_true rfl⟩ : rOK B9_laysFits B9_bitsOf) rfl (Nat.le_of_ble_eq_true rfl) (Nat.le_of_ble_eq_true rfl) ⟨Nat.le_of_ble_eq_true rfl, Nat.le_of_ble_eq_true rfl⟩ rfl (wp_mono H (fun v9 M9 hq9 => ?_))
          clear H
          obtain ⟨r31, I29, L30, rfl, rfl, H⟩ := hq9
          show wp X B9_laysFits 164 [(0, .ref h), (1, .int x1), (2, .int x2)] [.int r31, .ref h] (G, I29, L30) 0 0 _
          refine wp_goto (off := 7) (tgt := 171) (by decide +kernel) (by decide) ?_
          refine wp_putI (idx := 408) (by decide +kernel) fl9_408 rfl ok.1 ?_
          refine wp_memI (fun I32 eI32 => ?_)
          replace H := H I32 eI32
          refine wp_iconst (z := 0) (v := 0) (by decide +kernel) (by decide) ?_
          refine wp_istore_n (z := 3) (i := 3) (lv' := [(3, .int 0), (0, .ref h), (1, .int x1), (2, .int x2)]) (by decide +kernel) rfl (by decide) rfl ?_
          exact wp_sub [1, 2, 3, 0] rfl H
      · rw [if_neg c22] at H
        refine wp_iload_n (z := 2) (i := 2) (x := x2) 2 (by decide +kernel) rfl rfl ?_
        refine wp_callS (idx := 250) (B2 := B9_bitsOf) (As := [.int x2]) (st := [.ref h]) (by decide +kernel) m9_bitsOf ml9_250 k9_bitsOf (⟨Nat.le_of_ble_eq_true rfl, Nat.le_of_ble_eq_true rfl⟩ : rOK B9_laysFits B9_bitsOf) rfl (Nat.le_of_ble_eq_true rfl) (Nat.le_of_ble_eq_true rfl) ⟨Nat.le_of_ble_eq_true rfl, Nat.le_of_ble_eq_true rfl⟩ rfl (wp_mono H (fun v9 M9 hq9 => ?_))
        clear H
        obtain ⟨r35, I33, L34, rfl, rfl, H⟩ := hq9
        show wp X B9_laysFits 138 [(0, .ref h), (1, .int x1), (2, .int x2)] [.int r35, .ref h] (G, I33, L34) 0 0 _
        refine wp_goto (off := 7) (tgt := 145) (by decide +kernel) (by decide) ?_
        refine wp_putI (idx := 405) (by decide +kernel) fl9_405 rfl ok.1 ?_
        refine wp_memI (fun I36 eI36 => ?_)
        replace H := H I36 eI36
        refine wp_aload_n (z := 0) (i := 0) (r := (some h)) 0 (by decide +kernel) rfl rfl ?_
        refine wp_iload_n (z := 2) (i := 2) (x := x2) 2 (by decide +kernel) rfl rfl ?_
        refine wp_callS (idx := 250) (B2 := B9_bitsOf) (As := [.int x2]) (st := [.ref h]) (by decide +kernel) m9_bitsOf ml9_250 k9_bitsOf (⟨Nat.le_of_ble_eq_true rfl, Nat.le_of_ble_eq_true rfl⟩ : rOK B9_laysFits B9_bitsOf) rfl (Nat.le_of_ble_eq_true rfl) (Nat.le_of_ble_eq_true rfl) ⟨Nat.le_of_ble_eq_true rfl, Nat.le_of_ble_eq_true rfl⟩ rfl (wp_mono H (fun v9 M9 hq9 => ?_))
        clear H
        obtain ⟨r39, I37, L38, rfl, rfl, H⟩ := hq9
        show wp X B9_laysFits 153 [(0, .ref h), (1, .int x1), (2, .int x2)] [.int r39, .ref h] (G, I37, L38) 0 0 _
        refine wp_aload_n (z := 0) (i := 0) (r := (some h)) 0 (by decide +kernel) rfl rfl ?_
        refine wp_getI (idx := 408) (by decide +kernel) fl9_408 rfl ok.1 ?_
        refine wp_icmp_le (off := 10) (tgt := 167) (by decide +kernel) (by decide) (fun c40 => ?_) (fun c40 => ?_)
        · rw [if_pos c40] at H
          refine wp_aload_n (z := 0) (i := 0) (r := (some h)) 0 (by decide +kernel) rfl rfl ?_
          refine wp_getI (idx := 408) (by decide +kernel) fl9_408 rfl ok.1 ?_
          refine wp_putI (idx := 408) (by decide +kernel) fl9_408 rfl ok.1 ?_
          refine wp_memI (fun I41 eI41 => ?_)
          replace H := H I41 eI41
          refine wp_iconst (z := 0) (v := 0) (by decide +kernel) (by decide) ?_
          refine wp_istore_n (z := 3) (i := 3) (lv' := [(3, .int 0), (0, .ref h), (1, .int x1), (2, .int x2)]) (by decide +kernel) rfl (by decide) rfl ?_
          exact wp_sub [1, 2, 3, 0] rfl H
        · rw [if_neg c40] at H
          refine wp_iload_n (z := 2) (i := 2) (x := x2) 2 (by decide +kernel) rfl rfl ?_
          refine wp_callS (idx := 250) (B2 := B9_bitsOf) (As := [.int x2]) (st := [.ref h]) (by decide +kernel) m9_bitsOf ml9_250 k9_bitsOf (⟨Nat.le_of_ble_eq_true rfl, Nat.le_of_ble_eq_true rfl⟩ : rOK B9_laysFits B9_bitsOf) rfl (Nat.le_of_ble_eq_true rfl) (Nat.le_of_ble_eq_true rfl) ⟨Nat.le_of_ble_eq_true rfl, Nat.le_of_ble_eq_true rfl⟩ rfl (wp_mono H (fun v9 M9 hq9 => ?_))
          clear H
          obtain ⟨r44, I42, L43, rfl, rfl, H⟩ := hq9
          show wp X B9_laysFits 164 [(0, .ref h), (1, .int x1), (2, .int x2)] [.int r44, .ref h] (G, I42, L43) 0 0 _
          refine wp_goto (off := 7) (tgt := 171) (by decide +kernel) (by decide) ?_
          refine wp_putI (idx := 408) (by decide +kernel) fl9_408 rfl ok.1 ?_
          refine wp_memI (fun I45 eI45 => ?_)
          replace H := H I45 eI45
          refine wp_iconst (z := 0) (v := 0) (by decide +kernel) (by decide) ?_
          refine wp_istore_n (z := 3) (i := 3) (lv' := [(3, .int 0), (0, .ref h), (1, .int x1), (2, .int x2)]) (by decide +kernel) rfl (by decide) rfl ?_
          exact wp_sub [1, 2, 3, 0] rfl H
set_option maxRecDepth 20000 in
theorem b9_laysFits_176 {X : XX} {G : GG} {I : Nat → Nat → Int32} {L : Nat → Nat → Int64} {h : Nat} {x1 : Int32} {x2 : Int32} {x3 : Int32} {Q : (Nat → Nat → Int32) → (Nat → Nat → Int64) → Prop} (ok : OK9 G h) (H : if 200 ≤ x3 then (wpV X B9_laysFits 216 [(0, .ref h), (1, .int x1), (2, .int x2), (3, .int 0)] [] G I L Q) else (vp_in x3 200 ∧ (vp_in (x3 / 10) 64 ∧ (vp_in x3 200 ∧ (∀ I2, I2 = up2 I (h + 17) (cl x3) ((I (h + 17) (cl x3)) + (((I (h + 11) (cl (x3 / 10))) >>> ((x3 - x3 / 10 * 10) &&& 31)) &&& 1)) → wpV X B9_laysFits 176 [(0, .ref h), (1, .int x1), (2, .int x2), (3, .int (x3 + 1))] [] G I2 L Q))))) : wpV X B9_laysFits 176 [(0, .ref h), (1, .int x1), (2, .int x2), (3, .int x3)] [] G I L Q := by
  refine wp_iload_n (z := 3) (i := 3) (x := x3) 3 (by decide +kernel) rfl rfl ?_
  refine wp_sipush (z := 200) (v := 200) (by decide +kernel) (by decide) ?_
  refine wp_icmp_ge (off := 34) (tgt := 214) (by decide +kernel) (by decide) (fun c1 => ?_) (fun c1 => ?_)
  · rw [if_pos c1] at H
    refine wp_iconst (z := 0) (v := 0) (by decide +kernel) (by decide) ?_
    refine wp_istore_n (z := 3) (i := 3) (lv' := [(3, .int 0), (0, .ref h), (1, .int x1), (2, .int x2)]) (by decide +kernel) rfl (by decide) rfl ?_
    exact wp_sub [1, 2, 3, 0] rfl H
  · rw [if_neg c1] at H
    refine wp_aload_n (z := 0) (i := 0) (r := (some h)) 0 (by decide +kernel) rfl rfl ?_
    refine wp_getS (idx := 60) (q := (h + 17)) (by decide +kernel) fl9_60 rfl ok.1 (okr9_43 ok) ?_
    refine wp_iload_n (z := 3) (i := 3) (x := x3) 3 (by decide +kernel) rfl rfl ?_
    refine wp_dup2 (by decide +kernel) rfl rfl ?_
    obtain ⟨o5, H⟩ := H
    refine wp_iald (j := (cl x3)) (by decide +kernel) (oks9_43 ok) o5 rfl ?_
    refine wp_aload_n (z := 0) (i := 0) (r := (some h)) 0 (by decide +kernel) rfl rfl ?_
    refine wp_getS (idx := 41) (q := (h + 11)) (by decide +kernel) fl9_41 rfl ok.1 (okr9_30 ok) ?_
    refine wp_iload_n (z := 3) (i := 3) (x := x3) 3 (by decide +kernel) rfl rfl ?_
    refine wp_bipush (z := 10) (v := 10) (by decide +kernel) (by decide) ?_
    refine wp_idiv (by decide +kernel) (by decide) ?_
    obtain ⟨o4, H⟩ := H
    refine wp_iald (j := (cl (x3 / 10))) (by decide +kernel) (oks9_30 ok) o4 rfl ?_
    refine wp_iload_n (z := 3) (i := 3) (x := x3) 3 (by decide +kernel) rfl rfl ?_
    refine wp_bipush (z := 10) (v := 10) (by decide +kernel) (by decide) ?_
    refine wp_irem (by decide +kernel) (by decide) ?_
    refine wp_ishr (by decide +kernel) ?_
    refine wp_iconst (z := 1) (v := 1) (by decide +kernel) (by decide) ?_
    refine wp_iand (by decide +kernel) ?_
    refine wp_iadd (by decide +kernel) ?_
    obtain ⟨o3, H⟩ := H
    refine wp_iast (j := (cl x3)) (by decide +kernel) (oks9_43 ok) o3 rfl ?_
    refine wp_memI (fun I2 eI2 => ?_)
    replace H := H I2 eI2
    refine wp_iinc (i := 3) (z := 1) (v := 1) (lv' := [(3, .int (x3 + 1)), (0, .ref h), (1, .int x1), (2, .int x2)]) 3 (by decide +kernel) rfl (by decide) (by decide) rfl ?_
    refine wp_goto (off := -35) (tgt := 176) (by decide +kernel) (by decide) ?_
    exact wp_sub [1, 2, 3, 0] rfl H
set_option maxRecDepth 20000 in
theorem b9_laysFits_216 {X : XX} {G : GG} {I : Nat → Nat → Int32} {L : Nat → Nat → Int64} {h : Nat} {x1 : Int32} {x2 : Int32} {x3 : Int32} {Q : (Nat → Nat → Int32) → (Nat → Nat → Int64) → Prop} (ok : OK9 G h) (H : if 8 ≤ x3 then (wpI X B9_nextFit 0 [(0, .ref h), (1, .int x1), (2, .int x2)] [] G I L (fun r4 I2 L3 => wpV X B9_laysFits 79 [(0, .ref h), (1, .int x1), (2, .int r4)] [] G I2 L3 Q)) else (vp_in x3 8 ∧ (vp_in x3 8 ∧ (∀ I5, I5 = up2 I (h + 18) (cl x3) ((I (h + 18) (cl x3)) + ((x2 >>> (x3 &&& 31)) &&& 1)) → wpV X B9_laysFits 216 [(0, .ref h), (1, .int x1), (2, .int x2), (3, .int (x3 + 1))] [] G I5 L Q)))) : wpV X B9_laysFits 216 [(0, .ref h), (1, .int x1), (2, .int x2), (3, .int x3)] [] G I L Q := by
  refine wp_iload_n (z := 3) (i := 3) (x := x3) 3 (by decide +kernel) rfl rfl ?_
  refine wp_bipush (z := 8) (v := 8) (by decide +kernel) (by decide) ?_
  refine wp_icmp_ge (off := 23) (tgt := 242) (by decide +kernel) (by decide) (fun c1 => ?_) (fun c1 => ?_)
  · rw [if_pos c1] at H
    refine wp_aload_n (z := 0) (i := 0) (r := (some h)) 0 (by decide +kernel) rfl rfl ?_
    refine wp_iload_n (z := 1) (i := 1) (x := x1) 1 (by decide +kernel) rfl rfl ?_
    refine wp_iload_n (z := 2) (i := 2) (x := x2) 2 (by decide +kernel) rfl rfl ?_
    refine wp_callV (idx := 411) (B2 := B9_nextFit) (As := [.int x1, .int x2]) (a := h) (st := []) (by decide +kernel) m9_nextFit ml9_411 k9_nextFit e9_nextFit ck9 ok.1 (⟨Nat.le_of_ble_eq_true rfl, Nat.le_of_ble_eq_true rfl⟩ : rOK B9_laysFits B9_nextFit) rfl (Nat.le_of_ble_eq_true rfl) (Nat.le_of_ble_eq_true rfl) ⟨Nat.le_of_ble_eq_true rfl, Nat.le_of_ble_eq_true rfl⟩ rfl (wp_mono H (fun v9 M9 hq9 => ?_))
    clear H
    obtain ⟨r4, I2, L3, rfl, rfl, H⟩ := hq9
    show wp X B9_laysFits 248 [(0, .ref h), (1, .int x1), (2, .int x2), (3, .int x3)] [.int r4] (G, I2, L3) 0 0 _
    refine wp_istore_n (z := 2) (i := 2) (lv' := [(2, .int r4), (0, .ref h), (1, .int x1), (3, .int x3)]) (by decide +kernel) rfl (by decide) rfl ?_
    refine wp_goto (off := -170) (tgt := 79) (by decide +kernel) (by decide) ?_
    exact wp_sub [1, 2, 0] rfl H
  · rw [if_neg c1] at H
    refine wp_aload_n (z := 0) (i := 0) (r := (some h)) 0 (by decide +kernel) rfl rfl ?_
    refine wp_getS (idx := 63) (q := (h + 18)) (by decide +kernel) fl9_63 rfl ok.1 (okr9_44 ok) ?_
    refine wp_iload_n (z := 3) (i := 3) (x := x3) 3 (by decide +kernel) rfl rfl ?_
    refine wp_dup2 (by decide +kernel) rfl rfl ?_
    obtain ⟨o7, H⟩ := H
    refine wp_iald (j := (cl x3)) (by decide +kernel) (oks9_44 ok) o7 rfl ?_
    refine wp_iload_n (z := 2) (i := 2) (x := x2) 2 (by decide +kernel) rfl rfl ?_
    refine wp_iload_n (z := 3) (i := 3) (x := x3) 3 (by decide +kernel) rfl rfl ?_
    refine wp_ishr (by decide +kernel) ?_
    refine wp_iconst (z := 1) (v := 1) (by decide +kernel) (by decide) ?_
    refine wp_iand (by decide +kernel) ?_
    refine wp_iadd (by decide +kernel) ?_
    obtain ⟨o6, H⟩ := H
    refine wp_iast (j := (cl x3)) (by decide +kernel) (oks9_44 ok) o6 rfl ?_
    refine wp_memI (fun I5 eI5 => ?_)
    replace H := H I5 eI5
    refine wp_iinc (i := 3) (z := 1) (v := 1) (lv' := [(3, .int (x3 + 1)), (0, .ref h), (1, .int x1), (2, .int x2)]) 3 (by decide +kernel) rfl (by decide) (by decide) rfl ?_
    refine wp_goto (off := -23) (tgt := 216) (by decide +kernel) (by decide) ?_
    exact wp_sub [1, 2, 3, 0] rfl H
/-! DeafWallModel.askOf()I -/
set_option maxRecDepth 20000 in
theorem b9_askOf {X : XX} {G : GG} {I : Nat → Nat → Int32} {L : Nat → Nat → Int64} {h : Nat} {Q : Int32 → (Nat → Nat → Int32) → (Nat → Nat → Int64) → Prop} (ok : OK9 G h) (H : wpI X B9_askOf 8 [(0, .ref h), (1, .int (-1)), (2, .int 99999999), (3, .int 0)] [] G I L Q) : wpI X B9_askOf 0 [(0, .ref h)] [] G I L Q := by
  refine wp_iconst (z := -1) (v := (-1)) (by decide +kernel) (by decide) ?_
  refine wp_istore_n (z := 1) (i := 1) (lv' := [(1, .int (-1)), (0, .ref h)]) (by decide +kernel) rfl (by decide) rfl ?_
  refine wp_ldcw (idx := 305) (v := 99999999) (by decide +kernel) (in_g (List.mem_of_getElem? (i := 1520) (by decide +kernel)) rfl) ?_
  refine wp_istore_n (z := 2) (i := 2) (lv' := [(2, .int 99999999), (1, .int (-1)), (0, .ref h)]) (by decide +kernel) rfl (by decide) rfl ?_
  refine wp_iconst (z := 0) (v := 0) (by decide +kernel) (by decide) ?_
  refine wp_istore_n (z := 3) (i := 3) (lv' := [(3, .int 0), (2, .int 99999999), (1, .int (-1)), (0, .ref h)]) (by decide +kernel) rfl (by decide) rfl ?_
  exact wp_sub [3, 2, 1, 0] rfl H
set_option maxRecDepth 20000 in
theorem b9_askOf_8 {X : XX} {G : GG} {I : Nat → Nat → Int32} {L : Nat → Nat → Int64} {h : Nat} {x1 : Int32} {x2 : Int32} {x3 : Int32} {Q : Int32 → (Nat → Nat → Int32) → (Nat → Nat → Int64) → Prop} (ok : OK9 G h) (H : if 200 ≤ x3 then (Q x1 I L) else (if (I h 38) ≤ (0 : Int32) then (Q x1 I L) else (if (x3 - x3 / 10 * 10) < (I h 15) then (vp_in x3 200 ∧ (vp_in x3 200 ∧ (if (I (h + 17) (cl x3)) ≤ ((I h 38) - (I (h + 17) (cl x3))) then (vp_in x3 200 ∧ (∀ u5, u5 = ((I h 38) - (I (h + 17) (cl x3))) → if u5 < x2 then (wpI X B9_askOf 8 [(0, .ref h), (1, .int x3), (2, .int u5), (3, .int (x3 + 1))] [] G I L Q) else (wpI X B9_askOf 8 [(0, .ref h), (1, .int x1), (2, .int x2), (3, .int (x3 + 1))] [] G I L Q))) else (vp_in x3 200 ∧ (∀ u8, u8 = (I (h + 17) (cl x3)) → if u8 < x2 then (wpI X B9_askOf 8 [(0, .ref h), (1, .int x3), (2, .int u8), (3, .int (x3 + 1))] [] G I L Q) else (wpI X B9_askOf 8 [(0, .ref h), (1, .int x1), (2, .int x2), (3, .int (x3 + 1))] [] G I L Q)))))) else (wpI X B9_askOf 8 [(0, .ref h), (1, .int x1), (2, .int x2), (3, .int (x3 + 1))] [] G I L Q)))) : wpI X B9_askOf 8 [(0, .ref h), (1, .int x1), (2, .int x2), (3, .int x3)] [] G I L Q := by
  refine wp_iload_n (z := 3) (i := 3) (x := x3) 3 (by decide +kernel) rfl rfl ?_
  refine wp_sipush (z := 200) (v := 200) (by decide +kernel) (by decide) ?_
  refine wp_icmp_ge (off := 86) (tgt := 98) (by decide +kernel) (by decide) (fun c1 => ?_) (fun c1 => ?_)
  · rw [if_pos c1] at H
    refine wp_iload_n (z := 1) (i := 1) (x := x1) 1 (by decide +kernel) rfl rfl ?_
    exact wp_iret (by decide +kernel) rfl (Nat.zero_le _) (Nat.zero_le _) ⟨_, _, _, rfl, rfl, H⟩
  · rw [if_neg c1] at H
    refine wp_aload_n (z := 0) (i := 0) (r := (some h)) 0 (by decide +kernel) rfl rfl ?_
    refine wp_getI (idx := 396) (by decide +kernel) fl9_396 rfl ok.1 ?_
    refine wp_if_le (off := 79) (tgt := 98) (by decide +kernel) (by decide) (fun c2 => ?_) (fun c2 => ?_)
    · rw [if_pos c2] at H
      refine wp_iload_n (z := 1) (i := 1) (x := x1) 1 (by decide +kernel) rfl rfl ?_
      exact wp_iret (by decide +kernel) rfl (Nat.zero_le _) (Nat.zero_le _) ⟨_, _, _, rfl, rfl, H⟩
    · rw [if_neg c2] at H
      refine wp_iload_n (z := 3) (i := 3) (x := x3) 3 (by decide +kernel) rfl rfl ?_
      refine wp_bipush (z := 10) (v := 10) (by decide +kernel) (by decide) ?_
      refine wp_irem (by decide +kernel) (by decide) ?_
      refine wp_aload_n (z := 0) (i := 0) (r := (some h)) 0 (by decide +kernel) rfl rfl ?_
      refine wp_getI (idx := 190) (by decide +kernel) fl9_190 rfl ok.1 ?_
      refine wp_icmp_lt (off := 6) (tgt := 36) (by decide +kernel) (by decide) (fun c3 => ?_) (fun c3 => ?_)
      · rw [if_pos c3] at H
        refine wp_aload_n (z := 0) (i := 0) (r := (some h)) 0 (by decide +kernel) rfl rfl ?_
        refine wp_getS (idx := 60) (q := (h + 17)) (by decide +kernel) fl9_60 rfl ok.1 (okr9_43 ok) ?_
        refine wp_iload_n (z := 3) (i := 3) (x := x3) 3 (by decide +kernel) rfl rfl ?_
        obtain ⟨o12, H⟩ := H
        refine wp_iald (j := (cl x3)) (by decide +kernel) (oks9_43 ok) o12 rfl ?_
        refine wp_aload_n (z := 0) (i := 0) (r := (some h)) 0 (by decide +kernel) rfl rfl ?_
        refine wp_getI (idx := 396) (by decide +kernel) fl9_396 rfl ok.1 ?_
        refine wp_aload_n (z := 0) (i := 0) (r := (some h)) 0 (by decide +kernel) rfl rfl ?_
        refine wp_getS (idx := 60) (q := (h + 17)) (by decide +kernel) fl9_60 rfl ok.1 (okr9_43 ok) ?_
        refine wp_iload_n (z := 3) (i := 3) (x := x3) 3 (by decide +kernel) rfl rfl ?_
        obtain ⟨o11, H⟩ := H
        refine wp_iald (j := (cl x3)) (by decide +kernel) (oks9_43 ok) o11 rfl ?_
        refine wp_isub (by decide +kernel) ?_
        refine wp_icmp_le (off := 12) (tgt := 65) (by decide +kernel) (by decide) (fun c4 => ?_) (fun c4 => ?_)
        · rw [if_pos c4] at H
          refine wp_aload_n (z := 0) (i := 0) (r := (some h)) 0 (by decide +kernel) rfl rfl ?_
          refine wp_getI (idx := 396) (by decide +kernel) fl9_396 rfl ok.1 ?_
          refine wp_aload_n (z := 0) (i := 0) (r := (some h)) 0 (by decide +kernel) rfl rfl ?_
          refine wp_getS (idx := 60) (q := (h + 17)) (by decide +kernel) fl9_60 rfl ok.1 (okr9_43 ok) ?_
          refine wp_iload_n (z := 3) (i := 3) (x := x3) 3 (by decide +kernel) rfl rfl ?_
          obtain ⟨o7, H⟩ := H
          refine wp_iald (j := (cl x3)) (by decide +kernel) (oks9_43 ok) o7 rfl ?_
          refine wp_isub (by decide +kernel) ?_
          refine wp_topi (fun u5 eu5 => ?_)
          replace H := H u5 eu5
          refine wp_istore (i := 4) (lv' := [(4, .int u5), (0, .ref h), (1, .int x1), (2, .int x2), (3, .int x3)]) (by decide +kernel) (by decide) rfl ?_
          refine wp_iload (i := 4) (x := u5) 0 (by decide +kernel) rfl ?_
          refine wp_iload_n (z := 2) (i := 2) (x := x2) 3 (by decide +kernel) rfl rfl ?_
          refine wp_icmp_lt (off := 6) (tgt := 87) (by decide +kernel) (by decide) (fun c6 => ?_) (fun c6 => ?_)
          · rw [if_pos c6] at H
            refine wp_iload_n (z := 3) (i := 3) (x := x3) 4 (by decide +kernel) rfl rfl ?_
            refine wp_istore_n (z := 1) (i := 1) (lv' := [(1, .int x3), (4, .int u5), (0, .ref h), (2, .int x2), (3, .int x3)]) (by decide +kernel) rfl (by decide) rfl ?_
            refine wp_iload (i := 4) (x := u5) 1 (by decide +kernel) rfl ?_
            refine wp_istore_n (z := 2) (i := 2) (lv' := [(2, .int u5), (1, .int x3), (4, .int u5), (0, .ref h), (3, .int x3)]) (by decide +kernel) rfl (by decide) rfl ?_
            refine wp_iinc (i := 3) (z := 1) (v := 1) (lv' := [(3, .int (x3 + 1)), (2, .int u5), (1, .int x3), (4, .int u5), (0, .ref h)]) 4 (by decide +kernel) rfl (by decide) (by decide) rfl ?_
            refine wp_goto (off := -87) (tgt := 8) (by decide +kernel) (by decide) ?_
            exact wp_sub [4, 2, 1, 0] rfl H
          · rw [if_neg c6] at H
            refine wp_goto (off := 8) (tgt := 92) (by decide +kernel) (by decide) ?_
            refine wp_iinc (i := 3) (z := 1) (v := 1) (lv' := [(3, .int (x3 + 1)), (4, .int u5), (0, .ref h), (1, .int x1), (2, .int x2)]) 4 (by decide +kernel) rfl (by decide) (by decide) rfl ?_
            refine wp_goto (off := -87) (tgt := 8) (by decide +kernel) (by decide) ?_
            exact wp_sub [2, 3, 4, 0] rfl H
        · rw [if_neg c4] at H
          refine wp_aload_n (z := 0) (i := 0) (r := (some h)) 0 (by decide +kernel) rfl rfl ?_
          refine wp_getS (idx := 60) (q := (h + 17)) (by decide +kernel) fl9_60 rfl ok.1 (okr9_43 ok) ?_
          refine wp_iload_n (z := 3) (i := 3) (x := x3) 3 (by decide +kernel) rfl rfl ?_
          obtain ⟨o10, H⟩ := H
          refine wp_iald (j := (cl x3)) (by decide +kernel) (oks9_43 ok) o10 rfl ?_
          refine wp_goto (off := 14) (tgt := 76) (by decide +kernel) (by decide) ?_
          refine wp_topi (fun u8 eu8 => ?_)
          replace H := H u8 eu8
          refine wp_istore (i := 4) (lv' := [(4, .int u8), (0, .ref h), (1, .int x1), (2, .int x2), (3, .int x3)]) (by decide +kernel) (by decide) rfl ?_
          refine wp_iload (i := 4) (x := u8) 0 (by decide +kernel) rfl ?_
          refine wp_iload_n (z := 2) (i := 2) (x := x2) 3 (by decide +kernel) rfl rfl ?_
          refine wp_icmp_lt (off := 6) (tgt := 87) (by decide +kernel) (by decide) (fun c9 => ?_) (fun c9 => ?_)
          · rw [if_pos c9] at H
            refine wp_iload_n (z := 3) (i := 3) (x := x3) 4 (by decide +kernel) rfl rfl ?_
            refine wp_istore_n (z := 1) (i := 1) (lv' := [(1, .int x3), (4, .int u8), (0, .ref h), (2, .int x2), (3, .int x3)]) (by decide +kernel) rfl (by decide) rfl ?_
            refine wp_iload (i := 4) (x := u8) 1 (by decide +kernel) rfl ?_
            refine wp_istore_n (z := 2) (i := 2) (lv' := [(2, .int u8), (1, .int x3), (4, .int u8), (0, .ref h), (3, .int x3)]) (by decide +kernel) rfl (by decide) rfl ?_
            refine wp_iinc (i := 3) (z := 1) (v := 1) (lv' := [(3, .int (x3 + 1)), (2, .int u8), (1, .int x3), (4, .int u8), (0, .ref h)]) 4 (by decide +kernel) rfl (by decide) (by decide) rfl ?_
            refine wp_goto (off := -87) (tgt := 8) (by decide +kernel) (by decide) ?_
            exact wp_sub [4, 2, 1, 0] rfl H
          · rw [if_neg c9] at H
            refine wp_goto (off := 8) (tgt := 92) (by decide +kernel) (by decide) ?_
            refine wp_iinc (i := 3) (z := 1) (v := 1) (lv' := [(3, .int (x3 + 1)), (4, .int u8), (0, .ref h), (1, .int x1), (2, .int x2)]) 4 (by decide +kernel) rfl (by decide) (by decide) rfl ?_
            refine wp_goto (off := -87) (tgt := 8) (by decide +kernel) (by decide) ?_
            exact wp_sub [2, 3, 4, 0] rfl H
      · rw [if_neg c3] at H
        refine wp_goto (off := 59) (tgt := 92) (by decide +kernel) (by decide) ?_
        refine wp_iinc (i := 3) (z := 1) (v := 1) (lv' := [(3, .int (x3 + 1)), (0, .ref h), (1, .int x1), (2, .int x2)]) 3 (by decide +kernel) rfl (by decide) (by decide) rfl ?_
        refine wp_goto (off := -87) (tgt := 8) (by decide +kernel) (by decide) ?_
        exact wp_sub [1, 2, 3, 0] rfl H
