/-! DeafWallModel.duet(IIIIZ)I -/
set_option maxRecDepth 20000 in
theorem b9_duet {X : XX} {G : GG} {I : Nat → Nat → Int32} {L : Nat → Nat → Int64} {h : Nat} {x1 : Int32} {x2 : Int32} {x3 : Int32} {x4 : Int32} {x5 : Int32} {Q : Int32 → (Nat → Nat → Int32) → (Nat → Nat → Int64) → Prop} (ok : OK9 G h) (H : wpI X B9_isWall 0 [(0, .ref h), (1, .int x1)] [] G I L (fun r3 I1 L2 => if r3 = (0 : Int32) then (Q (-99) I1 L2) else (if (v9_isFeeler I1 h x2) = (0 : Int32) then (Q (-99) I1 L2) else (if (v9_isFeeler I1 h x3) = (0 : Int32) then (Q (-99) I1 L2) else (if x2 = x3 then (Q (-99) I1 L2) else (if (v9_isIn x4 0 4) = (0 : Int32) then (Q (-99) I1 L2) else (∀ u9, u9 = ((1 : Int32) <<< ((2 * x4) &&& 31)) → wpI X B9_duet 53 [(0, .ref h), (2, .int x2), (3, .int x3), (4, .int x4), (5, .int x5), (6, .int u9), (7, .int 0)] [] G I1 L2 Q))))))) : wpI X B9_duet 0 [(0, .ref h), (1, .int x1), (2, .int x2), (3, .int x3), (4, .int x4), (5, .int x5)] [] G I L Q := by
  refine wp_aload_n (z := 0) (i := 0) (r := (some h)) 0 (by decide +kernel) rfl rfl ?_
  refine wp_iload_n (z := 1) (i := 1) (x := x1) 1 (by decide +kernel) rfl rfl ?_
  refine wp_callV (idx := 196) (B2 := B9_isWall) (As := [.int x1]) (a := h) (st := []) (by decide +kernel) m9_isWall ml9_196 k9_isWall e9_isWall ck9 ok.1 (⟨Nat.le_of_ble_eq_true rfl, Nat.le_of_ble_eq_true rfl⟩ : rOK B9_duet B9_isWall) rfl (Nat.le_of_ble_eq_true rfl) (Nat.le_of_ble_eq_true rfl) ⟨Nat.le_of_ble_eq_true rfl, Nat.le_of_ble_eq_true rfl⟩ rfl (wp_mono H (fun v9 M9 hq9 => ?_))
  clear H
  obtain ⟨r3, I1, L2, rfl, rfl, H⟩ := hq9
  show wp X B9_duet 5 [(0, .ref h), (1, .int x1), (2, .int x2), (3, .int x3), (4, .int x4), (5, .int x5)] [.int r3] (G, I1, L2) 0 0 _
  refine wp_if_eq (off := 34) (tgt := 39) (by decide +kernel) (by decide) (fun c4 => ?_) (fun c4 => ?_)
  · rw [if_pos c4] at H
    refine wp_bipush (z := -99) (v := (-99)) (by decide +kernel) (by decide) ?_
    exact wp_iret (by decide +kernel) rfl (Nat.zero_le _) (Nat.zero_le _) ⟨_, _, _, rfl, rfl, H⟩
  · rw [if_neg c4] at H
    refine wp_aload_n (z := 0) (i := 0) (r := (some h)) 0 (by decide +kernel) rfl rfl ?_
    refine wp_iload_n (z := 2) (i := 2) (x := x2) 2 (by decide +kernel) rfl rfl ?_
    refine wp_callV (idx := 199) (B2 := B9_isFeeler) (As := [.int x2]) (a := h) (st := []) (by decide +kernel) m9_isFeeler ml9_199 k9_isFeeler e9_isFeeler ck9 ok.1 (⟨Nat.le_of_ble_eq_true rfl, Nat.le_of_ble_eq_true rfl⟩ : rOK B9_duet B9_isFeeler) rfl (Nat.le_of_ble_eq_true rfl) (Nat.le_of_ble_eq_true rfl) ⟨Nat.le_of_ble_eq_true rfl, Nat.le_of_ble_eq_true rfl⟩ rfl (wp_mono (b9_isFeeler (Q := (fun r I' L' => r = (v9_isFeeler I1 h x2) ∧ I1 = I' ∧ L2 = L')) ok ⟨rfl, rfl, rfl⟩) (fun v9 M9 hq9 => ?_))
    obtain ⟨_, _, _, rfl, rfl, rfl, rfl, rfl⟩ := hq9
    show wp X B9_duet 13 [(0, .ref h), (1, .int x1), (2, .int x2), (3, .int x3), (4, .int x4), (5, .int x5)] [.int (v9_isFeeler I1 h x2)] (G, I1, L2) 0 0 _
    refine wp_if_eq (off := 26) (tgt := 39) (by decide +kernel) (by decide) (fun c5 => ?_) (fun c5 => ?_)
    · rw [if_pos c5] at H
      refine wp_bipush (z := -99) (v := (-99)) (by decide +kernel) (by decide) ?_
      exact wp_iret (by decide +kernel) rfl (Nat.zero_le _) (Nat.zero_le _) ⟨_, _, _, rfl, rfl, H⟩
    · rw [if_neg c5] at H
      refine wp_aload_n (z := 0) (i := 0) (r := (some h)) 0 (by decide +kernel) rfl rfl ?_
      refine wp_iload_n (z := 3) (i := 3) (x := x3) 3 (by decide +kernel) rfl rfl ?_
      refine wp_callV (idx := 199) (B2 := B9_isFeeler) (As := [.int x3]) (a := h) (st := []) (by decide +kernel) m9_isFeeler ml9_199 k9_isFeeler e9_isFeeler ck9 ok.1 (⟨Nat.le_of_ble_eq_true rfl, Nat.le_of_ble_eq_true rfl⟩ : rOK B9_duet B9_isFeeler) rfl (Nat.le_of_ble_eq_true rfl) (Nat.le_of_ble_eq_true rfl) ⟨Nat.le_of_ble_eq_true rfl, Nat.le_of_ble_eq_true rfl⟩ rfl (wp_mono (b9_isFeeler (Q := (fun r I' L' => r = (v9_isFeeler I1 h x3) ∧ I1 = I' ∧ L2 = L')) ok ⟨rfl, rfl, rfl⟩) (fun v9 M9 hq9 => ?_))
      obtain ⟨_, _, _, rfl, rfl, rfl, rfl, rfl⟩ := hq9
      show wp X B9_duet 21 [(0, .ref h), (1, .int x1), (2, .int x2), (3, .int x3), (4, .int x4), (5, .int x5)] [.int (v9_isFeeler I1 h x3)] (G, I1, L2) 0 0 _
      refine wp_if_eq (off := 18) (tgt := 39) (by decide +kernel) (by decide) (fun c6 => ?_) (fun c6 => ?_)
      · rw [if_pos c6] at H
        refine wp_bipush (z := -99) (v := (-99)) (by decide +kernel) (by decide) ?_
        exact wp_iret (by decide +kernel) rfl (Nat.zero_le _) (Nat.zero_le _) ⟨_, _, _, rfl, rfl, H⟩
      · rw [if_neg c6] at H
        refine wp_iload_n (z := 2) (i := 2) (x := x2) 2 (by decide +kernel) rfl rfl ?_
        refine wp_iload_n (z := 3) (i := 3) (x := x3) 3 (by decide +kernel) rfl rfl ?_
        refine wp_icmp_eq (off := 13) (tgt := 39) (by decide +kernel) (by decide) (fun c7 => ?_) (fun c7 => ?_)
        · rw [if_pos c7] at H
          refine wp_bipush (z := -99) (v := (-99)) (by decide +kernel) (by decide) ?_
          exact wp_iret (by decide +kernel) rfl (Nat.zero_le _) (Nat.zero_le _) ⟨_, _, _, rfl, rfl, H⟩
        · rw [if_neg c7] at H
          refine wp_iload (i := 4) (x := x4) 4 (by decide +kernel) rfl ?_
          refine wp_iconst (z := 0) (v := 0) (by decide +kernel) (by decide) ?_
          refine wp_iconst (z := 4) (v := 4) (by decide +kernel) (by decide) ?_
          refine wp_callS (idx := 121) (B2 := B9_isIn) (As := [.int x4, .int 0, .int 4]) (st := []) (by decide +kernel) m9_isIn ml9_121 k9_isIn (⟨Nat.le_of_ble_eq_true rfl, Nat.le_of_ble_eq_true rfl⟩ : rOK B9_duet B9_isIn) rfl (Nat.le_of_ble_eq_true rfl) (Nat.le_of_ble_eq_true rfl) ⟨Nat.le_of_ble_eq_true rfl, Nat.le_of_ble_eq_true rfl⟩ rfl (wp_mono (b9_isIn (Q := (fun r I' L' => r = (v9_isIn x4 0 4) ∧ I1 = I' ∧ L2 = L'))  ⟨rfl, rfl, rfl⟩) (fun v9 M9 hq9 => ?_))
          obtain ⟨_, _, _, rfl, rfl, rfl, rfl, rfl⟩ := hq9
          show wp X B9_duet 36 [(0, .ref h), (1, .int x1), (2, .int x2), (3, .int x3), (4, .int x4), (5, .int x5)] [.int (v9_isIn x4 0 4)] (G, I1, L2) 0 0 _
          refine wp_if_ne (off := 6) (tgt := 42) (by decide +kernel) (by decide) (fun c8 => ?_) (fun c8 => ?_)
          · rw [if_neg c8] at H
            refine wp_iconst (z := 1) (v := 1) (by decide +kernel) (by decide) ?_
            refine wp_iconst (z := 2) (v := 2) (by decide +kernel) (by decide) ?_
            refine wp_iload (i := 4) (x := x4) 4 (by decide +kernel) rfl ?_
            refine wp_imul (by decide +kernel) ?_
            refine wp_ishl (by decide +kernel) ?_
            refine wp_topi (fun u9 eu9 => ?_)
            replace H := H u9 eu9
            refine wp_istore (i := 6) (lv' := [(6, .int u9), (0, .ref h), (1, .int x1), (2, .int x2), (3, .int x3), (4, .int x4), (5, .int x5)]) (by decide +kernel) (by decide) rfl ?_
            refine wp_iconst (z := 0) (v := 0) (by decide +kernel) (by decide) ?_
            refine wp_istore (i := 7) (lv' := [(7, .int 0), (6, .int u9), (0, .ref h), (1, .int x1), (2, .int x2), (3, .int x3), (4, .int x4), (5, .int x5)]) (by decide +kernel) (by decide) rfl ?_
            exact wp_sub [2, 4, 5, 6, 7, 1, 0] rfl H
          · rw [if_pos c8] at H
            refine wp_bipush (z := -99) (v := (-99)) (by decide +kernel) (by decide) ?_
            exact wp_iret (by decide +kernel) rfl (Nat.zero_le _) (Nat.zero_le _) ⟨_, _, _, rfl, rfl, H⟩
set_option maxRecDepth 20000 in
theorem b9_duet_53 {X : XX} {G : GG} {I : Nat → Nat → Int32} {L : Nat → Nat → Int64} {h : Nat} {x2 : Int32} {x3 : Int32} {x4 : Int32} {x5 : Int32} {x6 : Int32} {x7 : Int32} {Q : Int32 → (Nat → Nat → Int32) → (Nat → Nat → Int64) → Prop} (ok : OK9 G h) (H : if x6 ≤ x7 then (wpI X B9_duet 92 [(0, .ref h), (4, .int x4), (5, .int x5), (6, .int x6), (7, .int (-1)), (8, .int (x4 - 1))] [] G I L Q) else (wpI X B9_duetBy 0 [(0, .ref h), (1, .int x7), (2, .int x4), (3, .int x2), (4, .int x3)] [] G I L (fun r4 I2 L3 => vp_in x7 256 ∧ (∀ I5, I5 = up2 I2 (h + 12) (cl x7) r4 → wpI X B9_duet 53 [(0, .ref h), (2, .int x2), (3, .int x3), (4, .int x4), (5, .int x5), (6, .int x6), (7, .int (x7 + 1))] [] G I5 L3 Q)))) : wpI X B9_duet 53 [(0, .ref h), (2, .int x2), (3, .int x3), (4, .int x4), (5, .int x5), (6, .int x6), (7, .int x7)] [] G I L Q := by
  refine wp_iload (i := 7) (x := x7) 6 (by decide +kernel) rfl ?_
  refine wp_iload (i := 6) (x := x6) 5 (by decide +kernel) rfl ?_
  refine wp_icmp_ge (off := 26) (tgt := 83) (by decide +kernel) (by decide) (fun c1 => ?_) (fun c1 => ?_)
  · rw [if_pos c1] at H
    refine wp_iconst (z := -1) (v := (-1)) (by decide +kernel) (by decide) ?_
    refine wp_istore (i := 7) (lv' := [(7, .int (-1)), (0, .ref h), (2, .int x2), (3, .int x3), (4, .int x4), (5, .int x5), (6, .int x6)]) (by decide +kernel) (by decide) rfl ?_
    refine wp_iload (i := 4) (x := x4) 4 (by decide +kernel) rfl ?_
    refine wp_iconst (z := 1) (v := 1) (by decide +kernel) (by decide) ?_
    refine wp_isub (by decide +kernel) ?_
    refine wp_istore (i := 8) (lv' := [(8, .int (x4 - 1)), (7, .int (-1)), (0, .ref h), (2, .int x2), (3, .int x3), (4, .int x4), (5, .int x5), (6, .int x6)]) (by decide +kernel) (by decide) rfl ?_
    exact wp_sub [2, 5, 6, 7, 1, 0] rfl H
  · rw [if_neg c1] at H
    refine wp_aload_n (z := 0) (i := 0) (r := (some h)) 0 (by decide +kernel) rfl rfl ?_
    refine wp_getS (idx := 44) (q := (h + 12)) (by decide +kernel) fl9_44 rfl ok.1 (okr9_31 ok) ?_
    refine wp_iload (i := 7) (x := x7) 6 (by decide +kernel) rfl ?_
    refine wp_aload_n (z := 0) (i := 0) (r := (some h)) 0 (by decide +kernel) rfl rfl ?_
    refine wp_iload (i := 7) (x := x7) 6 (by decide +kernel) rfl ?_
    refine wp_iload (i := 4) (x := x4) 3 (by decide +kernel) rfl ?_
    refine wp_iload_n (z := 2) (i := 2) (x := x2) 1 (by decide +kernel) rfl rfl ?_
    refine wp_iload_n (z := 3) (i := 3) (x := x3) 2 (by decide +kernel) rfl rfl ?_
    refine wp_callV (idx := 280) (B2 := B9_duetBy) (As := [.int x7, .int x4, .int x2, .int x3]) (a := h) (st := [.int x7, .ref (h + 12)]) (by decide +kernel) m9_duetBy ml9_280 k9_duetBy e9_duetBy ck9 ok.1 (⟨Nat.le_of_ble_eq_true rfl, Nat.le_of_ble_eq_true rfl⟩ : rOK B9_duet B9_duetBy) rfl (Nat.le_of_ble_eq_true rfl) (Nat.le_of_ble_eq_true rfl) ⟨Nat.le_of_ble_eq_true rfl, Nat.le_of_ble_eq_true rfl⟩ rfl (wp_mono H (fun v9 M9 hq9 => ?_))
    clear H
    obtain ⟨r4, I2, L3, rfl, rfl, H⟩ := hq9
    show wp X B9_duet 76 [(0, .ref h), (2, .int x2), (3, .int x3), (4, .int x4), (5, .int x5), (6, .int x6), (7, .int x7)] [.int r4, .int x7, .ref (h + 12)] (G, I2, L3) 0 0 _
    obtain ⟨o6, H⟩ := H
    refine wp_iast (j := (cl x7)) (by decide +kernel) (oks9_31 ok) o6 rfl ?_
    refine wp_memI (fun I5 eI5 => ?_)
    replace H := H I5 eI5
    refine wp_iinc (i := 7) (z := 1) (v := 1) (lv' := [(7, .int (x7 + 1)), (0, .ref h), (2, .int x2), (3, .int x3), (4, .int x4), (5, .int x5), (6, .int x6)]) 6 (by decide +kernel) rfl (by decide) (by decide) rfl ?_
    refine wp_goto (off := -27) (tgt := 53) (by decide +kernel) (by decide) ?_
    exact wp_sub [1, 2, 3, 4, 5, 6, 0] rfl H
set_option maxRecDepth 20000 in
theorem b9_duet_92 {X : XX} {G : GG} {I : Nat → Nat → Int32} {L : Nat → Nat → Int64} {h : Nat} {x4 : Int32} {x5 : Int32} {x6 : Int32} {x7 : Int32} {x8 : Int32} {Q : Int32 → (Nat → Nat → Int32) → (Nat → Nat → Int64) → Prop} (ok : OK9 G h) (H : if x8 < (0 : Int32) then (if x5 = (0 : Int32) then (Q (I (h + 12) 0) I L) else (if x4 = (0 : Int32) then (Q (-1) I L) else (Q (3 * x7) I L))) else (wpI X B9_duet 106 [(0, .ref h), (4, .int x4), (5, .int x5), (6, .int (x6 / 4)), (7, .int x7), (8, .int x8), (9, .int 0)] [] G I L Q)) : wpI X B9_duet 92 [(0, .ref h), (4, .int x4), (5, .int x5), (6, .int x6), (7, .int x7), (8, .int x8)] [] G I L Q := by
  refine wp_iload (i := 8) (x := x8) 5 (by decide +kernel) rfl ?_
  refine wp_if_lt (off := 119) (tgt := 213) (by decide +kernel) (by decide) (fun c1 => ?_) (fun c1 => ?_)
  · rw [if_pos c1] at H
    refine wp_iload (i := 5) (x := x5) 2 (by decide +kernel) rfl ?_
    refine wp_if_ne (off := 12) (tgt := 227) (by decide +kernel) (by decide) (fun c2 => ?_) (fun c2 => ?_)
    · rw [if_neg c2] at H
      refine wp_iload (i := 4) (x := x4) 1 (by decide +kernel) rfl ?_
      refine wp_if_ne (off := 7) (tgt := 236) (by decide +kernel) (by decide) (fun c3 => ?_) (fun c3 => ?_)
      · rw [if_neg c3] at H
        refine wp_iconst (z := 3) (v := 3) (by decide +kernel) (by decide) ?_
        refine wp_iload (i := 7) (x := x7) 4 (by decide +kernel) rfl ?_
        refine wp_imul (by decide +kernel) ?_
        exact wp_iret (by decide +kernel) rfl (Nat.zero_le _) (Nat.zero_le _) ⟨_, _, _, rfl, rfl, H⟩
      · rw [if_pos c3] at H
        refine wp_iconst (z := -1) (v := (-1)) (by decide +kernel) (by decide) ?_
        refine wp_goto (off := 7) (tgt := 240) (by decide +kernel) (by decide) ?_
        exact wp_iret (by decide +kernel) rfl (Nat.zero_le _) (Nat.zero_le _) ⟨_, _, _, rfl, rfl, H⟩
    · rw [if_pos c2] at H
      refine wp_aload_n (z := 0) (i := 0) (r := (some h)) 0 (by decide +kernel) rfl rfl ?_
      refine wp_getS (idx := 44) (q := (h + 12)) (by decide +kernel) fl9_44 rfl ok.1 (okr9_31 ok) ?_
      refine wp_iconst (z := 0) (v := 0) (by decide +kernel) (by decide) ?_
      refine wp_iald (j := 0) (by decide +kernel) (oks9_31 ok) (vin_c (by decide)) (by decide) ?_
      refine wp_goto (off := 16) (tgt := 240) (by decide +kernel) (by decide) ?_
      exact wp_iret (by decide +kernel) rfl (Nat.zero_le _) (Nat.zero_le _) ⟨_, _, _, rfl, rfl, H⟩
  · rw [if_neg c1] at H
    refine wp_iload (i := 6) (x := x6) 3 (by decide +kernel) rfl ?_
    refine wp_iconst (z := 4) (v := 4) (by decide +kernel) (by decide) ?_
    refine wp_idiv (by decide +kernel) (by decide) ?_
    refine wp_istore (i := 6) (lv' := [(6, .int (x6 / 4)), (0, .ref h), (4, .int x4), (5, .int x5), (7, .int x7), (8, .int x8)]) (by decide +kernel) (by decide) rfl ?_
    refine wp_iconst (z := 0) (v := 0) (by decide +kernel) (by decide) ?_
    refine wp_istore (i := 9) (lv' := [(9, .int 0), (6, .int (x6 / 4)), (0, .ref h), (4, .int x4), (5, .int x5), (7, .int x7), (8, .int x8)]) (by decide +kernel) (by decide) rfl ?_
    exact wp_sub [2, 3, 4, 1, 5, 6, 0] rfl H
set_option maxRecDepth 20000 in
theorem b9_duet_106 {X : XX} {G : GG} {I : Nat → Nat → Int32} {L : Nat → Nat → Int64} {h : Nat} {x4 : Int32} {x5 : Int32} {x6 : Int32} {x7 : Int32} {x8 : Int32} {x9 : Int32} {Q : Int32 → (Nat → Nat → Int32) → (Nat → Nat → Int64) → Prop} (ok : OK9 G h) (H : if x6 ≤ x9 then (wpI X B9_duet 92 [(0, .ref h), (4, .int x4), (5, .int x5), (6, .int x6), (7, .int x7), (8, .int (x8 + (-1)))] [] G I L Q) else (wpI X B9_duet 119 [(0, .ref h), (4, .int x4), (5, .int x5), (6, .int x6), (7, .int 0), (8, .int x8), (9, .int x9), (10, .int 1)] [] G I L Q)) : wpI X B9_duet 106 [(0, .ref h), (4, .int x4), (5, .int x5), (6, .int x6), (7, .int x7), (8, .int x8), (9, .int x9)] [] G I L Q := by
  refine wp_iload (i := 9) (x := x9) 6 (by decide +kernel) rfl ?_
  refine wp_iload (i := 6) (x := x6) 3 (by decide +kernel) rfl ?_
  refine wp_icmp_ge (off := 97) (tgt := 207) (by decide +kernel) (by decide) (fun c1 => ?_) (fun c1 => ?_)
  · rw [if_pos c1] at H
    refine wp_iinc (i := 8) (z := -1) (v := (-1)) (lv' := [(8, .int (x8 + (-1))), (0, .ref h), (4, .int x4), (5, .int x5), (6, .int x6), (7, .int x7), (9, .int x9)]) 5 (by decide +kernel) rfl (by decide) (by decide) rfl ?_
    refine wp_goto (off := -118) (tgt := 92) (by decide +kernel) (by decide) ?_
    exact wp_sub [1, 2, 3, 4, 5, 0] rfl H
  · rw [if_neg c1] at H
    refine wp_iconst (z := 0) (v := 0) (by decide +kernel) (by decide) ?_
    refine wp_istore (i := 7) (lv' := [(7, .int 0), (0, .ref h), (4, .int x4), (5, .int x5), (6, .int x6), (8, .int x8), (9, .int x9)]) (by decide +kernel) (by decide) rfl ?_
    refine wp_iconst (z := 1) (v := 1) (by decide +kernel) (by decide) ?_
    refine wp_istore (i := 10) (lv' := [(10, .int 1), (7, .int 0), (0, .ref h), (4, .int x4), (5, .int x5), (6, .int x6), (8, .int x8), (9, .int x9)]) (by decide +kernel) (by decide) rfl ?_
    exact wp_sub [2, 3, 4, 5, 1, 6, 7, 0] rfl H
set_option maxRecDepth 20000 in
theorem b9_duet_119 {X : XX} {G : GG} {I : Nat → Nat → Int32} {L : Nat → Nat → Int64} {h : Nat} {x4 : Int32} {x5 : Int32} {x6 : Int32} {x7 : Int32} {x8 : Int32} {x9 : Int32} {x10 : Int32} {Q : Int32 → (Nat → Nat → Int32) → (Nat → Nat → Int64) → Prop} (ok : OK9 G h) (H : if 4 ≤ x10 then (vp_in ((4 * x9) + x7) 256 ∧ (vp_in x9 256 ∧ (∀ I2, I2 = up2 I (h + 12) (cl x9) (I (h + 12) (cl ((4 * x9) + x7))) → wpI X B9_duet 106 [(0, .ref h), (4, .int x4), (5, .int x5), (6, .int x6), (7, .int x7), (8, .int x8), (9, .int (x9 + 1))] [] G I2 L Q))) else (vp_in ((4 * x9) + x10) 256 ∧ (vp_in ((4 * x9) + x7) 256 ∧ (∀ u5, u5 = ((I (h + 12) (cl ((4 * x9) + x10))) - (I (h + 12) (cl ((4 * x9) + x7)))) → if (x8 - x8 / 2 * 2) = (0 : Int32) then (if u5 ≤ (0 : Int32) then (wpI X B9_duet 119 [(0, .ref h), (4, .int x4), (5, .int x5), (6, .int x6), (7, .int x7), (8, .int x8), (9, .int x9), (10, .int (x10 + 1))] [] G I L Q) else (wpI X B9_duet 119 [(0, .ref h), (4, .int x4), (5, .int x5), (6, .int x6), (7, .int x10), (8, .int x8), (9, .int x9), (10, .int (x10 + 1))] [] G I L Q)) else (if (0 : Int32) ≤ u5 then (wpI X B9_duet 119 [(0, .ref h), (4, .int x4), (5, .int x5), (6, .int x6), (7, .int x7), (8, .int x8), (9, .int x9), (10, .int (x10 + 1))] [] G I L Q) else (wpI X B9_duet 119 [(0, .ref h), (4, .int x4), (5, .int x5), (6, .int x6), (7, .int x10), (8, .int x8), (9, .int x9), (10, .int (x10 + 1))] [] G I L Q)))))) : wpI X B9_duet 119 [(0, .ref h), (4, .int x4), (5, .int x5), (6, .int x6), (7, .int x7), (8, .int x8), (9, .int x9), (10, .int x10)] [] G I L Q := by
  refine wp_iload (i := 10) (x := x10) 7 (by decide +kernel) rfl ?_
  refine wp_iconst (z := 4) (v := 4) (by decide +kernel) (by decide) ?_
  refine wp_icmp_ge (off := 60) (tgt := 182) (by decide +kernel) (by decide) (fun c1 => ?_) (fun c1 => ?_)
  · rw [if_pos c1] at H
    refine wp_aload_n (z := 0) (i := 0) (r := (some h)) 0 (by decide +kernel) rfl rfl ?_
    refine wp_getS (idx := 44) (q := (h + 12)) (by decide +kernel) fl9_44 rfl ok.1 (okr9_31 ok) ?_
    refine wp_iload (i := 9) (x := x9) 6 (by decide +kernel) rfl ?_
    refine wp_aload_n (z := 0) (i := 0) (r := (some h)) 0 (by decide +kernel) rfl rfl ?_
    refine wp_getS (idx := 44) (q := (h + 12)) (by decide +kernel) fl9_44 rfl ok.1 (okr9_31 ok) ?_
    refine wp_iconst (z := 4) (v := 4) (by decide +kernel) (by decide) ?_
    refine wp_iload (i := 9) (x := x9) 6 (by decide +kernel) rfl ?_
    refine wp_imul (by decide +kernel) ?_
    refine wp_iload (i := 7) (x := x7) 4 (by decide +kernel) rfl ?_
    refine wp_iadd (by decide +kernel) ?_
    obtain ⟨o4, H⟩ := H
    refine wp_iald (j := (cl ((4 * x9) + x7))) (by decide +kernel) (oks9_31 ok) o4 rfl ?_
    obtain ⟨o3, H⟩ := H
    refine wp_iast (j := (cl x9)) (by decide +kernel) (oks9_31 ok) o3 rfl ?_
    refine wp_memI (fun I2 eI2 => ?_)
    replace H := H I2 eI2
    refine wp_iinc (i := 9) (z := 1) (v := 1) (lv' := [(9, .int (x9 + 1)), (0, .ref h), (4, .int x4), (5, .int x5), (6, .int x6), (7, .int x7), (8, .int x8), (10, .int x10)]) 6 (by decide +kernel) rfl (by decide) (by decide) rfl ?_
    refine wp_goto (off := -98) (tgt := 106) (by decide +kernel) (by decide) ?_
    exact wp_sub [1, 2, 3, 4, 5, 6, 0] rfl H
  · rw [if_neg c1] at H
    refine wp_aload_n (z := 0) (i := 0) (r := (some h)) 0 (by decide +kernel) rfl rfl ?_
    refine wp_getS (idx := 44) (q := (h + 12)) (by decide +kernel) fl9_44 rfl ok.1 (okr9_31 ok) ?_
    refine wp_iconst (z := 4) (v := 4) (by decide +kernel) (by decide) ?_
    refine wp_iload (i := 9) (x := x9) 6 (by decide +kernel) rfl ?_
    refine wp_imul (by decide +kernel) ?_
    refine wp_iload (i := 10) (x := x10) 7 (by decide +kernel) rfl ?_
    refine wp_iadd (by decide +kernel) ?_
    obtain ⟨o10, H⟩ := H
    refine wp_iald (j := (cl ((4 * x9) + x10))) (by decide +kernel) (oks9_31 ok) o10 rfl ?_
    refine wp_aload_n (z := 0) (i := 0) (r := (some h)) 0 (by decide +kernel) rfl rfl ?_
    refine wp_getS (idx := 44) (q := (h + 12)) (by decide +kernel) fl9_44 rfl ok.1 (okr9_31 ok) ?_
    refine wp_iconst (z := 4) (v := 4) (by decide +kernel) (by decide) ?_
    refine wp_iload (i := 9) (x := x9) 6 (by decide +kernel) rfl ?_
    refine wp_imul (by decide +kernel) ?_
    refine wp_iload (i := 7) (x := x7) 4 (by decide +kernel) rfl ?_
    refine wp_iadd (by decide +kernel) ?_
    obtain ⟨o9, H⟩ := H
    refine wp_iald (j := (cl ((4 * x9) + x7))) (by decide +kernel) (oks9_31 ok) o9 rfl ?_
    refine wp_isub (by decide +kernel) ?_
    refine wp_topi (fun u5 eu5 => ?_)
    replace H := H u5 eu5
    refine wp_istore (i := 11) (lv' := [(11, .int u5), (0, .ref h), (4, .int x4), (5, .int x5), (6, .int x6), (7, .int x7), (8, .int x8), (9, .int x9), (10, .int x10)]) (by decide +kernel) (by decide) rfl ?_
    refine wp_iload (i := 8) (x := x8) 6 (by decide +kernel) rfl ?_
    refine wp_iconst (z := 2) (v := 2) (by decide +kernel) (by decide) ?_
    refine wp_irem (by decide +kernel) (by decide) ?_
    refine wp_if_ne (off := 11) (tgt := 167) (by decide +kernel) (by decide) (fun c6 => ?_) (fun c6 => ?_)
    · rw [if_neg c6] at H
      refine wp_iload (i := 11) (x := u5) 0 (by decide +kernel) rfl ?_
      refine wp_if_ge (off := 7) (tgt := 176) (by decide +kernel) (by decide) (fun c7 => ?_) (fun c7 => ?_)
      · rw [if_pos c7] at H
        refine wp_iinc (i := 10) (z := 1) (v := 1) (lv' := [(10, .int (x10 + 1)), (11, .int u5), (0, .ref h), (4, .int x4), (5, .int x5), (6, .int x6), (7, .int x7), (8, .int x8), (9, .int x9)]) 8 (by decide +kernel) rfl (by decide) (by decide) rfl ?_
        refine wp_goto (off := -60) (tgt := 119) (by decide +kernel) (by decide) ?_
        exact wp_sub [2, 3, 4, 5, 6, 7, 8, 0] rfl H
      · rw [if_neg c7] at H
        refine wp_iload (i := 10) (x := x10) 8 (by decide +kernel) rfl ?_
        refine wp_istore (i := 7) (lv' := [(7, .int x10), (11, .int u5), (0, .ref h), (4, .int x4), (5, .int x5), (6, .int x6), (8, .int x8), (9, .int x9), (10, .int x10)]) (by decide +kernel) (by decide) rfl ?_
        refine wp_iinc (i := 10) (z := 1) (v := 1) (lv' := [(10, .int (x10 + 1)), (7, .int x10), (11, .int u5), (0, .ref h), (4, .int x4), (5, .int x5), (6, .int x6), (8, .int x8), (9, .int x9)]) 8 (by decide +kernel) rfl (by decide) (by decide) rfl ?_
        refine wp_goto (off := -60) (tgt := 119) (by decide +kernel) (by decide) ?_
        exact wp_sub [3, 4, 5, 6, 1, 7, 8, 0] rfl H
    · rw [if_pos c6] at H
      refine wp_iload (i := 11) (x := u5) 0 (by decide +kernel) rfl ?_
      refine wp_if_le (off := 15) (tgt := 176) (by decide +kernel) (by decide) (fun c8 => ?_) (fun c8 => ?_)
      · rw [if_pos c8] at H
        refine wp_iinc (i := 10) (z := 1) (v := 1) (lv' := [(10, .int (x10 + 1)), (11, .int u5), (0, .ref h), (4, .int x4), (5, .int x5), (6, .int x6), (7, .int x7), (8, .int x8), (9, .int x9)]) 8 (by decide +kernel) rfl (by decide) (by decide) rfl ?_
        refine wp_goto (off := -60) (tgt := 119) (by decide +kernel) (by decide) ?_
        exact wp_sub [2, 3, 4, 5, 6, 7, 8, 0] rfl H
      · rw [if_neg c8] at H
        refine wp_goto (off := 8) (tgt := 172) (by decide +kernel) (by decide) ?_
        refine wp_iload (i := 10) (x := x10) 8 (by decide +kernel) rfl ?_
        refine wp_istore (i := 7) (lv' := [(7, .int x10), (11, .int u5), (0, .ref h), (4, .int x4), (5, .int x5), (6, .int x6), (8, .int x8), (9, .int x9), (10, .int x10)]) (by decide +kernel) (by decide) rfl ?_
        refine wp_iinc (i := 10) (z := 1) (v := 1) (lv' := [(10, .int (x10 + 1)), (7, .int x10), (11, .int u5), (0, .ref h), (4, .int x4), (5, .int x5), (6, .int x6), (8, .int x8), (9, .int x9)]) 8 (by decide +kernel) rfl (by decide) (by decide) rfl ?_
        refine wp_goto (off := -60) (tgt := 119) (by decide +kernel) (by decide) ?_
        exact wp_sub [3, 4, 5, 6, 1, 7, 8, 0] rfl H
/-! DeafWallModel.common(JJ)J -/
set_option maxRecDepth 20000 in
theorem b9_common {X : XX} {G : GG} {I : Nat → Nat → Int32} {L : Nat → Nat → Int64} {x0 : Int64} {x2 : Int64} {Q : Int64 → (Nat → Nat → Int32) → (Nat → Nat → Int64) → Prop}  (H : wpJ X B9_common 6 [(4, .long x0), (6, .long x2)] [] G I L Q) : wpJ X B9_common 0 [(0, .long x0), (2, .long x2)] [] G I L Q := by
  refine wp_lload_n (z := 0) (i := 0) (x := x0) 0 (by decide +kernel) rfl rfl ?_
  refine wp_lstore (i := 4) (lv' := [(4, .long x0), (0, .long x0), (2, .long x2)]) (by decide +kernel) (by decide) rfl ?_
  refine wp_lload_n (z := 2) (i := 2) (x := x2) 2 (by decide +kernel) rfl rfl ?_
  refine wp_lstore (i := 6) (lv' := [(6, .long x2), (4, .long x0), (0, .long x0), (2, .long x2)]) (by decide +kernel) (by decide) rfl ?_
  exact wp_sub [1, 0] rfl H
set_option maxRecDepth 20000 in
theorem b9_common_6 {X : XX} {G : GG} {I : Nat → Nat → Int32} {L : Nat → Nat → Int64} {x4 : Int64} {x6 : Int64} {Q : Int64 → (Nat → Nat → Int32) → (Nat → Nat → Int64) → Prop}  (H : if (lg_cmp x6 0) = (0 : Int32) then (Q x4 I L) else (¬ x6 = 0 ∧ (∀ u2, u2 = (x4 - x4 / x6 * x6) → wpJ X B9_common 6 [(4, .long x6), (6, .long u2)] [] G I L Q))) : wpJ X B9_common 6 [(4, .long x4), (6, .long x6)] [] G I L Q := by
  refine wp_lload (i := 6) (x := x6) 1 (by decide +kernel) rfl ?_
  refine wp_lconst (z := 0) (v := 0) (by decide +kernel) (by decide) ?_
  refine wp_lcmp (by decide +kernel) ?_
  refine wp_if_eq (off := 21) (tgt := 31) (by decide +kernel) (by decide) (fun c1 => ?_) (fun c1 => ?_)
  · rw [if_pos c1] at H
    refine wp_lload (i := 4) (x := x4) 0 (by decide +kernel) rfl ?_
    exact wp_lret (by decide +kernel) rfl (Nat.zero_le _) (Nat.zero_le _) ⟨_, _, _, rfl, rfl, H⟩
  · rw [if_neg c1] at H
    refine wp_lload (i := 4) (x := x4) 0 (by decide +kernel) rfl ?_
    refine wp_lload (i := 6) (x := x6) 1 (by decide +kernel) rfl ?_
    obtain ⟨o3, H⟩ := H
    refine wp_lrem (by decide +kernel) o3 ?_
    refine wp_topl (fun u2 eu2 => ?_)
    replace H := H u2 eu2
    refine wp_lstore (i := 8) (lv' := [(8, .long u2), (4, .long x4), (6, .long x6)]) (by decide +kernel) (by decide) rfl ?_
    refine wp_lload (i := 6) (x := x6) 2 (by decide +kernel) rfl ?_
    refine wp_lstore (i := 4) (lv' := [(4, .long x6), (8, .long u2), (6, .long x6)]) (by decide +kernel) (by decide) rfl ?_
    refine wp_lload (i := 8) (x := u2) 1 (by decide +kernel) rfl ?_
    refine wp_lstore (i := 6) (lv' := [(6, .long u2), (4, .long x6), (8, .long u2)]) (by decide +kernel) (by decide) rfl ?_
    refine wp_goto (off := -22) (tgt := 6) (by decide +kernel) (by decide) ?_
    exact wp_sub [1, 0] rfl H
/-! DeafWallModel.parted(JJZ)J -/
set_option maxRecDepth 20000 in
theorem b9_parted {X : XX} {G : GG} {I : Nat → Nat → Int32} {L : Nat → Nat → Int64} {x0 : Int64} {x2 : Int64} {x4 : Int32} {Q : Int64 → (Nat → Nat → Int32) → (Nat → Nat → Int64) → Prop}  (H : if x4 = (0 : Int32) then (wpJ X B9_common 0 [(0, .long x0), (2, .long x2)] [] G I L (fun r4 I2 L3 => ¬ r4 = 0 ∧ (Q (x0 / r4) I2 L3))) else (wpJ X B9_common 0 [(0, .long x0), (2, .long x2)] [] G I L (fun r8 I6 L7 => ¬ r8 = 0 ∧ (Q (x2 / r8) I6 L7)))) : wpJ X B9_parted 0 [(0, .long x0), (2, .long x2), (4, .int x4)] [] G I L Q := by
  refine wp_iload (i := 4) (x := x4) 2 (by decide +kernel) rfl ?_
  refine wp_if_eq (off := 7) (tgt := 9) (by decide +kernel) (by decide) (fun c1 => ?_) (fun c1 => ?_)
  · rw [if_pos c1] at H
    refine wp_lload_n (z := 0) (i := 0) (x := x0) 0 (by decide +kernel) rfl rfl ?_
    refine wp_lload_n (z := 0) (i := 0) (x := x0) 0 (by decide +kernel) rfl rfl ?_
    refine wp_lload_n (z := 2) (i := 2) (x := x2) 1 (by decide +kernel) rfl rfl ?_
    refine wp_callS (idx := 284) (B2 := B9_common) (As := [.long x0, .long x2]) (st := [.long x0]) (by decide +kernel) m9_common ml9_284 k9_common (⟨Nat.le_of_ble_eq_true rfl, Nat.le_of_ble_eq_true rfl⟩ : rOK B9_parted B9_common) rfl (Nat.le_of_ble_eq_true rfl) (Nat.le_of_ble_eq_true rfl) ⟨Nat.le_of_ble_eq_true rfl, Nat.le_of_ble_eq_true rfl⟩ rfl (wp_mono H (fun v9 M9 hq9 => ?_))
    clear H
    obtain ⟨r4, I2, L3, rfl, rfl, H⟩ := hq9
    show wp X B9_parted 15 [(0, .long x0), (2, .long x2), (4, .int x4)] [.long r4, .long x0] (G, I2, L3) 0 0 _
    obtain ⟨o5, H⟩ := H
    refine wp_ldiv (by decide +kernel) o5 ?_
    exact wp_lret (by decide +kernel) rfl (Nat.zero_le _) (Nat.zero_le _) ⟨_, _, _, rfl, rfl, H⟩
  · rw [if_neg c1] at H
    refine wp_lload_n (z := 2) (i := 2) (x := x2) 1 (by decide +kernel) rfl rfl ?_
    refine wp_goto (off := 4) (tgt := 10) (by decide +kernel) (by decide) ?_
    refine wp_lload_n (z := 0) (i := 0) (x := x0) 0 (by decide +kernel) rfl rfl ?_
    refine wp_lload_n (z := 2) (i := 2) (x := x2) 1 (by decide +kernel) rfl rfl ?_
    refine wp_callS (idx := 284) (B2 := B9_common) (As := [.long x0, .long x2]) (st := [.long x2]) (by decide +kernel) m9_common ml9_284 k9_common (⟨Nat.le_of_ble_eq_true rfl, Nat.le_of_ble_eq_true rfl⟩ : rOK B9_parted B9_common) rfl (Nat.le_of_ble_eq_true rfl) (Nat.le_of_ble_eq_true rfl) ⟨Nat.le_of_ble_eq_true rfl, Nat.le_of_ble_eq_true rfl⟩ rfl (wp_mono H (fun v9 M9 hq9 => ?_))
    clear H
    obtain ⟨r8, I6, L7, rfl, rfl, H⟩ := hq9
    show wp X B9_parted 15 [(0, .long x0), (2, .long x2), (4, .int x4)] [.long r8, .long x2] (G, I6, L7) 0 0 _
    obtain ⟨o9, H⟩ := H
    refine wp_ldiv (by decide +kernel) o9 ?_
    exact wp_lret (by decide +kernel) rfl (Nat.zero_le _) (Nat.zero_le _) ⟨_, _, _, rfl, rfl, H⟩
/-! DeafWallModel.arm(IIIIZ)J -/
set_option maxRecDepth 20000 in
theorem b9_arm {X : XX} {G : GG} {I : Nat → Nat → Int32} {L : Nat → Nat → Int64} {h : Nat} {x1 : Int32} {x2 : Int32} {x3 : Int32} {x4 : Int32} {x5 : Int32} {Q : Int64 → (Nat → Nat → Int32) → (Nat → Nat → Int64) → Prop} (ok : OK9 G h) (H : wpI X B9_isWall 0 [(0, .ref h), (1, .int x1)] [] G I L (fun r3 I1 L2 => if r3 = (0 : Int32) then (Q (-1) I1 L2) else (if (v9_isFeeler I1 h x2) = (0 : Int32) then (Q (-1) I1 L2) else (if (v9_isIn x3 0 10) = (0 : Int32) then (Q (-1) I1 L2) else (if (v9_isIn x4 0 12) = (0 : Int32) then (Q (-1) I1 L2) else (wpJ X B9_arm 44 [(0, .ref h), (2, .int x2), (3, .int x3), (4, .int x4), (5, .int x5), (6, .int 0)] [] G I1 L2 Q)))))) : wpJ X B9_arm 0 [(0, .ref h), (1, .int x1), (2, .int x2), (3, .int x3), (4, .int x4), (5, .int x5)] [] G I L Q := by
  refine wp_aload_n (z := 0) (i := 0) (r := (some h)) 0 (by decide +kernel) rfl rfl ?_
  refine wp_iload_n (z := 1) (i := 1) (x := x1) 1 (by decide +kernel) rfl rfl ?_
  refine wp_callV (idx := 196) (B2 := B9_isWall) (As := [.int x1]) (a := h) (st := []) (by decide +kernel) m9_isWall ml9_196 k9_isWall e9_isWall ck9 ok.1 (⟨Nat.le_of_ble_eq_true rfl, Nat.le_of_ble_eq_true rfl⟩ : rOK B9_arm B9_isWall) rfl (Nat.le_of_ble_eq_true rfl) (Nat.le_of_ble_eq_true rfl) ⟨Nat.le_of_ble_eq_true rfl, Nat.le_of_ble_eq_true rfl⟩ rfl (wp_mono H (fun v9 M9 hq9 => ?_))
  clear H
  obtain ⟨r3, I1, L2, rfl, rfl, H⟩ := hq9
  show wp X B9_arm 5 [(0, .ref h), (1, .int x1), (2, .int x2), (3, .int x3), (4, .int x4), (5, .int x5)] [.int r3] (G, I1, L2) 0 0 _
  refine wp_if_eq (off := 32) (tgt := 37) (by decide +kernel) (by decide) (fun c4 => ?_) (fun c4 => ?_)
  · rw [if_pos c4] at H
    refine wp_ldc2 (idx := 288) (v := (-1)) (by decide +kernel) (in_g (List.mem_of_getElem? (i := 1508) (by decide +kernel)) rfl) ?_
    exact wp_lret (by decide +kernel) rfl (Nat.zero_le _) (Nat.zero_le _) ⟨_, _, _, rfl, rfl, H⟩
  · rw [if_neg c4] at H
    refine wp_aload_n (z := 0) (i := 0) (r := (some h)) 0 (by decide +kernel) rfl rfl ?_
    refine wp_iload_n (z := 2) (i := 2) (x := x2) 2 (by decide +kernel) rfl rfl ?_
    refine wp_callV (idx := 199) (B2 := B9_isFeeler) (As := [.int x2]) (a := h) (st := []) (by decide +kernel) m9_isFeeler ml9_199 k9_isFeeler e9_isFeeler ck9 ok.1 (⟨Nat.le_of_ble_eq_true rfl, Nat.le_of_ble_eq_true rfl⟩ : rOK B9_arm B9_isFeeler) rfl (Nat.le_of_ble_eq_true rfl) (Nat.le_of_ble_eq_true rfl) ⟨Nat.le_of_ble_eq_true rfl, Nat.le_of_ble_eq_true rfl⟩ rfl (wp_mono (b9_isFeeler (Q := (fun r I' L' => r = (v9_isFeeler I1 h x2) ∧ I1 = I' ∧ L2 = L')) ok ⟨rfl, rfl, rfl⟩) (fun v9 M9 hq9 => ?_))
    obtain ⟨_, _, _, rfl, rfl, rfl, rfl, rfl⟩ := hq9
    show wp X B9_arm 13 [(0, .ref h), (1, .int x1), (2, .int x2), (3, .int x3), (4, .int x4), (5, .int x5)] [.int (v9_isFeeler I1 h x2)] (G, I1, L2) 0 0 _
    refine wp_if_eq (off := 24) (tgt := 37) (by decide +kernel) (by decide) (fun c5 => ?_) (fun c5 => ?_)
    · rw [if_pos c5] at H
      refine wp_ldc2 (idx := 288) (v := (-1)) (by decide +kernel) (in_g (List.mem_of_getElem? (i := 1508) (by decide +kernel)) rfl) ?_
      exact wp_lret (by decide +kernel) rfl (Nat.zero_le _) (Nat.zero_le _) ⟨_, _, _, rfl, rfl, H⟩
    · rw [if_neg c5] at H
      refine wp_iload_n (z := 3) (i := 3) (x := x3) 3 (by decide +kernel) rfl rfl ?_
      refine wp_iconst (z := 0) (v := 0) (by decide +kernel) (by decide) ?_
      refine wp_bipush (z := 10) (v := 10) (by decide +kernel) (by decide) ?_
      refine wp_callS (idx := 121) (B2 := B9_isIn) (As := [.int x3, .int 0, .int 10]) (st := []) (by decide +kernel) m9_isIn ml9_121 k9_isIn (⟨Nat.le_of_ble_eq_true rfl, Nat.le_of_ble_eq_true rfl⟩ : rOK B9_arm B9_isIn) rfl (Nat.le_of_ble_eq_true rfl) (Nat.le_of_ble_eq_true rfl) ⟨Nat.le_of_ble_eq_true rfl, Nat.le_of_ble_eq_true rfl⟩ rfl (wp_mono (b9_isIn (Q := (fun r I' L' => r = (v9_isIn x3 0 10) ∧ I1 = I' ∧ L2 = L'))  ⟨rfl, rfl, rfl⟩) (fun v9 M9 hq9 => ?_))
      obtain ⟨_, _, _, rfl, rfl, rfl, rfl, rfl⟩ := hq9
      show wp X B9_arm 23 [(0, .ref h), (1, .int x1), (2, .int x2), (3, .int x3), (4, .int x4), (5, .int x5)] [.int (v9_isIn x3 0 10)] (G, I1, L2) 0 0 _
      refine wp_if_eq (off := 14) (tgt := 37) (by decide +kernel) (by decide) (fun c6 => ?_) (fun c6 => ?_)
      · rw [if_pos c6] at H
        refine wp_ldc2 (idx := 288) (v := (-1)) (by decide +kernel) (in_g (List.mem_of_getElem? (i := 1508) (by decide +kernel)) rfl) ?_
        exact wp_lret (by decide +kernel) rfl (Nat.zero_le _) (Nat.zero_le _) ⟨_, _, _, rfl, rfl, H⟩
      · rw [if_neg c6] at H
        refine wp_iload (i := 4) (x := x4) 4 (by decide +kernel) rfl ?_
        refine wp_iconst (z := 0) (v := 0) (by decide +kernel) (by decide) ?_
        refine wp_bipush (z := 12) (v := 12) (by decide +kernel) (by decide) ?_
        refine wp_callS (idx := 121) (B2 := B9_isIn) (As := [.int x4, .int 0, .int 12]) (st := []) (by decide +kernel) m9_isIn ml9_121 k9_isIn (⟨Nat.le_of_ble_eq_true rfl, Nat.le_of_ble_eq_true rfl⟩ : rOK B9_arm B9_isIn) rfl (Nat.le_of_ble_eq_true rfl) (Nat.le_of_ble_eq_true rfl) ⟨Nat.le_of_ble_eq_true rfl, Nat.le_of_ble_eq_true rfl⟩ rfl (wp_mono (b9_isIn (Q := (fun r I' L' => r = (v9_isIn x4 0 12) ∧ I1 = I' ∧ L2 = L'))  ⟨rfl, rfl, rfl⟩) (fun v9 M9 hq9 => ?_))
        obtain ⟨_, _, _, rfl, rfl, rfl, rfl, rfl⟩ := hq9
        show wp X B9_arm 34 [(0, .ref h), (1, .int x1), (2, .int x2), (3, .int x3), (4, .int x4), (5, .int x5)] [.int (v9_isIn x4 0 12)] (G, I1, L2) 0 0 _
        refine wp_if_ne (off := 7) (tgt := 41) (by decide +kernel) (by decide) (fun c7 => ?_) (fun c7 => ?_)
        · rw [if_neg c7] at H
          refine wp_iconst (z := 0) (v := 0) (by decide +kernel) (by decide) ?_
          refine wp_istore (i := 6) (lv' := [(6, .int 0), (0, .ref h), (1, .int x1), (2, .int x2), (3, .int x3), (4, .int x4), (5, .int x5)]) (by decide +kernel) (by decide) rfl ?_
          exact wp_sub [1, 3, 4, 5, 6, 0] rfl H
        · rw [if_pos c7] at H
          refine wp_ldc2 (idx := 288) (v := (-1)) (by decide +kernel) (in_g (List.mem_of_getElem? (i := 1508) (by decide +kernel)) rfl) ?_
          exact wp_lret (by decide +kernel) rfl (Nat.zero_le _) (Nat.zero_le _) ⟨_, _, _, rfl, rfl, H⟩
set_option maxRecDepth 20000 in
theorem b9_arm_44 {X : XX} {G : GG} {I : Nat → Nat → Int32} {L : Nat → Nat → Int64} {h : Nat} {x2 : Int32} {x3 : Int32} {x4 : Int32} {x5 : Int32} {x6 : Int32} {Q : Int64 → (Nat → Nat → Int32) → (Nat → Nat → Int64) → Prop} (ok : OK9 G h) (H : if 14 ≤ x6 then (wpJ X B9_arm 80 [(0, .ref h), (2, .int x2), (3, .int x3), (4, .int x4), (5, .int x5), (6, .long 1), (8, .int 0)] [] G I L Q) else (if x6 = (0 : Int32) then (vp_in x6 14 ∧ (∀ L5, L5 = up2 L (h + 13) (cl x6) 1 → wpJ X B9_arm 44 [(0, .ref h), (2, .int x2), (3, .int x3), (4, .int x4), (5, .int x5), (6, .int (x6 + 1))] [] G I L5 Q)) else (vp_in x6 14 ∧ (∀ L3, L3 = up2 L (h + 13) (cl x6) 0 → wpJ X B9_arm 44 [(0, .ref h), (2, .int x2), (3, .int x3), (4, .int x4), (5, .int x5), (6, .int (x6 + 1))] [] G I L3 Q)))) : wpJ X B9_arm 44 [(0, .ref h), (2, .int x2), (3, .int x3), (4, .int x4), (5, .int x5), (6, .int x6)] [] G I L Q := by
  refine wp_iload (i := 6) (x := x6) 5 (by decide +kernel) rfl ?_
  refine wp_bipush (z := 14) (v := 14) (by decide +kernel) (by decide) ?_
  refine wp_icmp_ge (off := 26) (tgt := 74) (by decide +kernel) (by decide) (fun c1 => ?_) (fun c1 => ?_)
  · rw [if_pos c1] at H
    refine wp_lconst (z := 1) (v := 1) (by decide +kernel) (by decide) ?_
    refine wp_lstore (i := 6) (lv' := [(6, .long 1), (0, .ref h), (2, .int x2), (3, .int x3), (4, .int x4), (5, .int x5)]) (by decide +kernel) (by decide) rfl ?_
    refine wp_iconst (z := 0) (v := 0) (by decide +kernel) (by decide) ?_
    refine wp_istore (i := 8) (lv' := [(8, .int 0), (6, .long 1), (0, .ref h), (2, .int x2), (3, .int x3), (4, .int x4), (5, .int x5)]) (by decide +kernel) (by decide) rfl ?_
    exact wp_sub [2, 3, 4, 5, 6, 1, 0] rfl H
  · rw [if_neg c1] at H
    refine wp_aload_n (z := 0) (i := 0) (r := (some h)) 0 (by decide +kernel) rfl rfl ?_
    refine wp_getS (idx := 47) (q := (h + 13)) (by decide +kernel) fl9_47 rfl ok.1 (okr9_32 ok) ?_
    refine wp_iload (i := 6) (x := x6) 5 (by decide +kernel) rfl ?_
    refine wp_iload (i := 6) (x := x6) 5 (by decide +kernel) rfl ?_
    refine wp_if_ne (off := 7) (tgt := 66) (by decide +kernel) (by decide) (fun c2 => ?_) (fun c2 => ?_)
    · rw [if_neg c2] at H
      refine wp_lconst (z := 0) (v := 0) (by decide +kernel) (by decide) ?_
      obtain ⟨o4, H⟩ := H
      refine wp_last (j := (cl x6)) (by decide +kernel) (oks9_32 ok) o4 rfl ?_
      refine wp_memL (fun L3 eL3 => ?_)
      replace H := H L3 eL3
      refine wp_iinc (i := 6) (z := 1) (v := 1) (lv' := [(6, .int (x6 + 1)), (0, .ref h), (2, .int x2), (3, .int x3), (4, .int x4), (5, .int x5)]) 5 (by decide +kernel) rfl (by decide) (by decide) rfl ?_
      refine wp_goto (off := -27) (tgt := 44) (by decide +kernel) (by decide) ?_
      exact wp_sub [1, 2, 3, 4, 5, 0] rfl H
    · rw [if_pos c2] at H
      refine wp_lconst (z := 1) (v := 1) (by decide +kernel) (by decide) ?_
      refine wp_goto (off := 4) (tgt := 67) (by decide +kernel) (by decide) ?_
      obtain ⟨o6, H⟩ := H
      refine wp_last (j := (cl x6)) (by decide +kernel) (oks9_32 ok) o6 rfl ?_
      refine wp_memL (fun L5 eL5 => ?_)
      replace H := H L5 eL5
      refine wp_iinc (i := 6) (z := 1) (v := 1) (lv' := [(6, .int (x6 + 1)), (0, .ref h), (2, .int x2), (3, .int x3), (4, .int x4), (5, .int x5)]) 5 (by decide +kernel) rfl (by decide) (by decide) rfl ?_
      refine wp_goto (off := -27) (tgt := 44) (by decide +kernel) (by decide) ?_
      exact wp_sub [1, 2, 3, 4, 5, 0] rfl H
set_option maxRecDepth 20000 in
theorem b9_arm_80 {X : XX} {G : GG} {I : Nat → Nat → Int32} {L : Nat → Nat → Int64} {h : Nat} {x2 : Int32} {x3 : Int32} {x4 : Int32} {x5 : Int32} {x6 : Int64} {x8 : Int32} {Q : Int64 → (Nat → Nat → Int32) → (Nat → Nat → Int64) → Prop} (ok : OK9 G h) (H : if x4 ≤ x8 then (wpI X B9_reachOf 0 [(0, .ref h), (1, .int x2)] [] G I L (fun r4 I2 L3 => wpJ X B9_arm 173 [(0, .ref h), (4, .int x4), (5, .int x5), (6, .long x6), (8, .int r4), (9, .long 0), (11, .int 0)] [] G I2 L3 Q)) else (wpJ X B9_arm 101 [(0, .ref h), (2, .int x2), (3, .int x3), (4, .int x4), (5, .int x5), (6, .long (x6 * 10)), (8, .int x8), (9, .int (x8 + 1))] [] G I L Q)) : wpJ X B9_arm 80 [(0, .ref h), (2, .int x2), (3, .int x3), (4, .int x4), (5, .int x5), (6, .long x6), (8, .int x8)] [] G I L Q := by
  refine wp_iload (i := 8) (x := x8) 6 (by decide +kernel) rfl ?_
  refine wp_iload (i := 4) (x := x4) 3 (by decide +kernel) rfl ?_
  refine wp_icmp_ge (off := 76) (tgt := 160) (by decide +kernel) (by decide) (fun c1 => ?_) (fun c1 => ?_)
  · rw [if_pos c1] at H
    refine wp_aload_n (z := 0) (i := 0) (r := (some h)) 0 (by decide +kernel) rfl rfl ?_
    refine wp_iload_n (z := 2) (i := 2) (x := x2) 1 (by decide +kernel) rfl rfl ?_
    refine wp_callV (idx := 271) (B2 := B9_reachOf) (As := [.int x2]) (a := h) (st := []) (by decide +kernel) m9_reachOf ml9_271 k9_reachOf e9_reachOf ck9 ok.1 (⟨Nat.le_of_ble_eq_true rfl, Nat.le_of_ble_eq_true rfl⟩ : rOK B9_arm B9_reachOf) rfl (Nat.le_of_ble_eq_true rfl) (Nat.le_of_ble_eq_true rfl) ⟨Nat.le_of_ble_eq_true rfl, Nat.le_of_ble_eq_true rfl⟩ rfl (wp_mono H (fun v9 M9 hq9 => ?_))
    clear H
    obtain ⟨r4, I2, L3, rfl, rfl, H⟩ := hq9
    show wp X B9_arm 165 [(0, .ref h), (2, .int x2), (3, .int x3), (4, .int x4), (5, .int x5), (6, .long x6), (8, .int x8)] [.int r4] (G, I2, L3) 0 0 _
    refine wp_istore (i := 8) (lv' := [(8, .int r4), (0, .ref h), (2, .int x2), (3, .int x3), (4, .int x4), (5, .int x5), (6, .long x6)]) (by decide +kernel) (by decide) rfl ?_
    refine wp_lconst (z := 0) (v := 0) (by decide +kernel) (by decide) ?_
    refine wp_lstore (i := 9) (lv' := [(9, .long 0), (8, .int r4), (0, .ref h), (2, .int x2), (3, .int x3), (4, .int x4), (5, .int x5), (6, .long x6)]) (by decide +kernel) (by decide) rfl ?_
    refine wp_iconst (z := 0) (v := 0) (by decide +kernel) (by decide) ?_
    refine wp_istore (i := 11) (lv' := [(11, .int 0), (9, .long 0), (8, .int r4), (0, .ref h), (2, .int x2), (3, .int x3), (4, .int x4), (5, .int x5), (6, .long x6)]) (by decide +kernel) (by decide) rfl ?_
    exact wp_sub [3, 6, 7, 8, 2, 1, 0] rfl H
  · rw [if_neg c1] at H
    refine wp_lload (i := 6) (x := x6) 5 (by decide +kernel) rfl ?_
    refine wp_ldc2 (idx := 290) (v := 10) (by decide +kernel) (in_g (List.mem_of_getElem? (i := 1509) (by decide +kernel)) rfl) ?_
    refine wp_lmul (by decide +kernel) ?_
    refine wp_lstore (i := 6) (lv' := [(6, .long (x6 * 10)), (0, .ref h), (2, .int x2), (3, .int x3), (4, .int x4), (5, .int x5), (8, .int x8)]) (by decide +kernel) (by decide) rfl ?_
    refine wp_iload (i := 8) (x := x8) 6 (by decide +kernel) rfl ?_
    refine wp_iconst (z := 1) (v := 1) (by decide +kernel) (by decide) ?_
    refine wp_iadd (by decide +kernel) ?_
    refine wp_istore (i := 9) (lv' := [(9, .int (x8 + 1)), (6, .long (x6 * 10)), (0, .ref h), (2, .int x2), (3, .int x3), (4, .int x4), (5, .int x5), (8, .int x8)]) (by decide +kernel) (by decide) rfl ?_
    exact wp_sub [2, 3, 4, 5, 6, 1, 7, 0] rfl H
set_option maxRecDepth 20000 in
theorem b9_arm_101 {X : XX} {G : GG} {I : Nat → Nat → Int32} {L : Nat → Nat → Int64} {h : Nat} {x2 : Int32} {x3 : Int32} {x4 : Int32} {x5 : Int32} {x6 : Int64} {x8 : Int32} {x9 : Int32} {Q : Int64 → (Nat → Nat → Int32) → (Nat → Nat → Int64) → Prop} (ok : OK9 G h) (H : if x9 < (0 : Int32) then (wpJ X B9_arm 80 [(0, .ref h), (2, .int x2), (3, .int x3), (4, .int x4), (5, .int x5), (6, .long x6), (8, .int (x8 + 1))] [] G I L Q) else (vp_in x9 14 ∧ (if x9 ≤ (0 : Int32) then (vp_in x9 14 ∧ (∀ L3, L3 = up2 L (h + 13) (cl x9) (((L (h + 13) (cl x9)) * (Int32.toInt64 (10 - x3))) + 0) → wpJ X B9_arm 101 [(0, .ref h), (2, .int x2), (3, .int x3), (4, .int x4), (5, .int x5), (6, .long x6), (8, .int x8), (9, .int (x9 + (-1)))] [] G I L3 Q)) else (vp_in (x9 - 1) 14 ∧ (vp_in x9 14 ∧ (∀ L5, L5 = up2 L (h + 13) (cl x9) (((L (h + 13) (cl x9)) * (Int32.toInt64 (10 - x3))) + ((L (h + 13) (cl (x9 - 1))) * (Int32.toInt64 x3))) → wpJ X B9_arm 101 [(0, .ref h), (2, .int x2), (3, .int x3), (4, .int x4), (5, .int x5), (6, .long x6), (8, .int x8), (9, .int (x9 + (-1)))] [] G I L5 Q)))))) : wpJ X B9_arm 101 [(0, .ref h), (2, .int x2), (3, .int x3), (4, .int x4), (5, .int x5), (6, .long x6), (8, .int x8), (9, .int x9)] [] G I L Q := by
  refine wp_iload (i := 9) (x := x9) 7 (by decide +kernel) rfl ?_
  refine wp_if_lt (off := 51) (tgt := 154) (by decide +kernel) (by decide) (fun c1 => ?_) (fun c1 => ?_)
  · rw [if_pos c1] at H
    refine wp_iinc (i := 8) (z := 1) (v := 1) (lv' := [(8, .int (x8 + 1)), (0, .ref h), (2, .int x2), (3, .int x3), (4, .int x4), (5, .int x5), (6, .long x6), (9, .int x9)]) 6 (by decide +kernel) rfl (by decide) (by decide) rfl ?_
    refine wp_goto (off := -77) (tgt := 80) (by decide +kernel) (by decide) ?_
    exact wp_sub [1, 2, 3, 4, 5, 6, 0] rfl H
  · rw [if_neg c1] at H
    refine wp_aload_n (z := 0) (i := 0) (r := (some h)) 0 (by decide +kernel) rfl rfl ?_
    refine wp_getS (idx := 47) (q := (h + 13)) (by decide +kernel) fl9_47 rfl ok.1 (okr9_32 ok) ?_
    refine wp_iload (i := 9) (x := x9) 7 (by decide +kernel) rfl ?_
    refine wp_aload_n (z := 0) (i := 0) (r := (some h)) 0 (by decide +kernel) rfl rfl ?_
    refine wp_getS (idx := 47) (q := (h + 13)) (by decide +kernel) fl9_47 rfl ok.1 (okr9_32 ok) ?_
    refine wp_iload (i := 9) (x := x9) 7 (by decide +kernel) rfl ?_
    obtain ⟨o8, H⟩ := H
    refine wp_lald (j := (cl x9)) (by decide +kernel) (oks9_32 ok) o8 rfl ?_
    refine wp_bipush (z := 10) (v := 10) (by decide +kernel) (by decide) ?_
    refine wp_iload_n (z := 3) (i := 3) (x := x3) 2 (by decide +kernel) rfl rfl ?_
    refine wp_isub (by decide +kernel) ?_
    refine wp_i2l (by decide +kernel) ?_
    refine wp_lmul (by decide +kernel) ?_
    refine wp_iload (i := 9) (x := x9) 7 (by decide +kernel) rfl ?_
    refine wp_if_le (off := 18) (tgt := 145) (by decide +kernel) (by decide) (fun c2 => ?_) (fun c2 => ?_)
    · rw [if_pos c2] at H
      refine wp_lconst (z := 0) (v := 0) (by decide +kernel) (by decide) ?_
      refine wp_ladd (by decide +kernel) ?_
      obtain ⟨o4, H⟩ := H
      refine wp_last (j := (cl x9)) (by decide +kernel) (oks9_32 ok) o4 rfl ?_
      refine wp_memL (fun L3 eL3 => ?_)
      replace H := H L3 eL3
      refine wp_iinc (i := 9) (z := -1) (v := (-1)) (lv' := [(9, .int (x9 + (-1))), (0, .ref h), (2, .int x2), (3, .int x3), (4, .int x4), (5, .int x5), (6, .long x6), (8, .int x8)]) 7 (by decide +kernel) rfl (by decide) (by decide) rfl ?_
      refine wp_goto (off := -50) (tgt := 101) (by decide +kernel) (by decide) ?_
      exact wp_sub [1, 2, 3, 4, 5, 6, 7, 0] rfl H
    · rw [if_neg c2] at H
      refine wp_aload_n (z := 0) (i := 0) (r := (some h)) 0 (by decide +kernel) rfl rfl ?_
      refine wp_getS (idx := 47) (q := (h + 13)) (by decide +kernel) fl9_47 rfl ok.1 (okr9_32 ok) ?_
      refine wp_iload (i := 9) (x := x9) 7 (by decide +kernel) rfl ?_
      refine wp_iconst (z := 1) (v := 1) (by decide +kernel) (by decide) ?_
      refine wp_isub (by decide +kernel) ?_
      obtain ⟨o7, H⟩ := H
      refine wp_lald (j := (cl (x9 - 1))) (by decide +kernel) (oks9_32 ok) o7 rfl ?_
      refine wp_iload_n (z := 3) (i := 3) (x := x3) 2 (by decide +kernel) rfl rfl ?_
      refine wp_i2l (by decide +kernel) ?_
      refine wp_lmul (by decide +kernel) ?_
      refine wp_goto (off := 4) (tgt := 146) (by decide +kernel) (by decide) ?_
      refine wp_ladd (by decide +kernel) ?_
      obtain ⟨o6, H⟩ := H
      refine wp_last (j := (cl x9)) (by decide +kernel) (oks9_32 ok) o6 rfl ?_
      refine wp_memL (fun L5 eL5 => ?_)
      replace H := H L5 eL5
      refine wp_iinc (i := 9) (z := -1) (v := (-1)) (lv' := [(9, .int (x9 + (-1))), (0, .ref h), (2, .int x2), (3, .int x3), (4, .int x4), (5, .int x5), (6, .long x6), (8, .int x8)]) 7 (by decide +kernel) rfl (by decide) (by decide) rfl ?_
      refine wp_goto (off := -50) (tgt := 101) (by decide +kernel) (by decide) ?_
      exact wp_sub [1, 2, 3, 4, 5, 6, 7, 0] rfl H
set_option maxRecDepth 20000 in
theorem b9_arm_173 {X : XX} {G : GG} {I : Nat → Nat → Int32} {L : Nat → Nat → Int64} {h : Nat} {x4 : Int32} {x5 : Int32} {x6 : Int64} {x8 : Int32} {x9 : Int64} {x11 : Int32} {Q : Int64 → (Nat → Nat → Int32) → (Nat → Nat → Int64) → Prop} (ok : OK9 G h) (H : if x4 < x11 then (wpJ X B9_parted 0 [(0, .long x9), (2, .long x6), (4, .int x5)] [] G I L (fun r4 I2 L3 => Q r4 I2 L3)) else (if x8 = (-1) then (wpJ X B9_parted 0 [(0, .long x9), (2, .long x6), (4, .int x5)] [] G I L (fun r8 I6 L7 => Q r8 I6 L7)) else (if (9 - x11) < x8 then (wpJ X B9_arm 173 [(0, .ref h), (4, .int x4), (5, .int x5), (6, .long x6), (8, .int x8), (9, .long (x9 + 0)), (11, .int (x11 + 1))] [] G I L Q) else (vp_in x11 14 ∧ (∀ u10, u10 = (x9 + (L (h + 13) (cl x11))) → wpJ X B9_arm 173 [(0, .ref h), (4, .int x4), (5, .int x5), (6, .long x6), (8, .int x8), (9, .long u10), (11, .int (x11 + 1))] [] G I L Q))))) : wpJ X B9_arm 173 [(0, .ref h), (4, .int x4), (5, .int x5), (6, .long x6), (8, .int x8), (9, .long x9), (11, .int x11)] [] G I L Q := by
  refine wp_iload (i := 11) (x := x11) 6 (by decide +kernel) rfl ?_
  refine wp_iload (i := 4) (x := x4) 1 (by decide +kernel) rfl ?_
  refine wp_icmp_gt (off := 41) (tgt := 218) (by decide +kernel) (by decide) (fun c1 => ?_) (fun c1 => ?_)
  · rw [if_pos c1] at H
    refine wp_lload (i := 9) (x := x9) 5 (by decide +kernel) rfl ?_
    refine wp_lload (i := 6) (x := x6) 3 (by decide +kernel) rfl ?_
    refine wp_iload (i := 5) (x := x5) 2 (by decide +kernel) rfl ?_
    refine wp_callS (idx := 292) (B2 := B9_parted) (As := [.long x9, .long x6, .int x5]) (st := []) (by decide +kernel) m9_parted ml9_292 k9_parted (⟨Nat.le_of_ble_eq_true rfl, Nat.le_of_ble_eq_true rfl⟩ : rOK B9_arm B9_parted) rfl (Nat.le_of_ble_eq_true rfl) (Nat.le_of_ble_eq_true rfl) ⟨Nat.le_of_ble_eq_true rfl, Nat.le_of_ble_eq_true rfl⟩ rfl (wp_mono H (fun v9 M9 hq9 => ?_))
    clear H
    obtain ⟨r4, I2, L3, rfl, rfl, H⟩ := hq9
    show wp X B9_arm 227 [(0, .ref h), (4, .int x4), (5, .int x5), (6, .long x6), (8, .int x8), (9, .long x9), (11, .int x11)] [.long r4] (G, I2, L3) 0 0 _
    exact wp_lret (by decide +kernel) rfl (Nat.zero_le _) (Nat.zero_le _) ⟨_, _, _, rfl, rfl, H⟩
  · rw [if_neg c1] at H
    refine wp_iload (i := 8) (x := x8) 4 (by decide +kernel) rfl ?_
    refine wp_iconst (z := -1) (v := (-1)) (by decide +kernel) (by decide) ?_
    refine wp_icmp_eq (off := 35) (tgt := 218) (by decide +kernel) (by decide) (fun c5 => ?_) (fun c5 => ?_)
    · rw [if_pos c5] at H
      refine wp_lload (i := 9) (x := x9) 5 (by decide +kernel) rfl ?_
      refine wp_lload (i := 6) (x := x6) 3 (by decide +kernel) rfl ?_
      refine wp_iload (i := 5) (x := x5) 2 (by decide +kernel) rfl ?_
      refine wp_callS (idx := 292) (B2 := B9_parted) (As := [.long x9, .long x6, .int x5]) (st := []) (by decide +kernel) m9_parted ml9_292 k9_parted (⟨Nat.le_of_ble_eq_true rfl, Nat.le_of_ble_eq_true rfl⟩ : rOK B9_arm B9_parted) rfl (Nat.le_of_ble_eq_true rfl) (Nat.le_of_ble_eq_true rfl) ⟨Nat.le_of_ble_eq_true rfl, Nat.le_of_ble_eq_true rfl⟩ rfl (wp_mono H (fun v9 M9 hq9 => ?_))
      clear H
      obtain ⟨r8, I6, L7, rfl, rfl, H⟩ := hq9
      show wp X B9_arm 227 [(0, .ref h), (4, .int x4), (5, .int x5), (6, .long x6), (8, .int x8), (9, .long x9), (11, .int x11)] [.long r8] (G, I6, L7) 0 0 _
      exact wp_lret (by decide +kernel) rfl (Nat.zero_le _) (Nat.zero_le _) ⟨_, _, _, rfl, rfl, H⟩
    · rw [if_neg c5] at H
      refine wp_lload (i := 9) (x := x9) 5 (by decide +kernel) rfl ?_
      refine wp_bipush (z := 9) (v := 9) (by decide +kernel) (by decide) ?_
      refine wp_iload (i := 11) (x := x11) 6 (by decide +kernel) rfl ?_
      refine wp_isub (by decide +kernel) ?_
      refine wp_iload (i := 8) (x := x8) 4 (by decide +kernel) rfl ?_
      refine wp_icmp_lt (off := 13) (tgt := 208) (by decide +kernel) (by decide) (fun c9 => ?_) (fun c9 => ?_)
      · rw [if_pos c9] at H
        refine wp_lconst (z := 0) (v := 0) (by decide +kernel) (by decide) ?_
        refine wp_ladd (by decide +kernel) ?_
        refine wp_lstore (i := 9) (lv' := [(9, .long (x9 + 0)), (0, .ref h), (4, .int x4), (5, .int x5), (6, .long x6), (8, .int x8), (11, .int x11)]) (by decide +kernel) (by decide) rfl ?_
        refine wp_iinc (i := 11) (z := 1) (v := 1) (lv' := [(11, .int (x11 + 1)), (9, .long (x9 + 0)), (0, .ref h), (4, .int x4), (5, .int x5), (6, .long x6), (8, .int x8)]) 6 (by decide +kernel) rfl (by decide) (by decide) rfl ?_
        refine wp_goto (off := -42) (tgt := 173) (by decide +kernel) (by decide) ?_
        exact wp_sub [2, 3, 4, 5, 6, 1, 0] rfl H
      · rw [if_neg c9] at H
        refine wp_aload_n (z := 0) (i := 0) (r := (some h)) 0 (by decide +kernel) rfl rfl ?_
        refine wp_getS (idx := 47) (q := (h + 13)) (by decide +kernel) fl9_47 rfl ok.1 (okr9_32 ok) ?_
        refine wp_iload (i := 11) (x := x11) 6 (by decide +kernel) rfl ?_
        obtain ⟨o11, H⟩ := H
        refine wp_lald (j := (cl x11)) (by decide +kernel) (oks9_32 ok) o11 rfl ?_
        refine wp_goto (off := 4) (tgt := 209) (by decide +kernel) (by decide) ?_
        refine wp_ladd (by decide +kernel) ?_
        refine wp_topl (fun u10 eu10 => ?_)
        replace H := H u10 eu10
        refine wp_lstore (i := 9) (lv' := [(9, .long u10), (0, .ref h), (4, .int x4), (5, .int x5), (6, .long x6), (8, .int x8), (11, .int x11)]) (by decide +kernel) (by decide) rfl ?_
        refine wp_iinc (i := 11) (z := 1) (v := 1) (lv' := [(11, .int (x11 + 1)), (9, .long u10), (0, .ref h), (4, .int x4), (5, .int x5), (6, .long x6), (8, .int x8)]) 6 (by decide +kernel) rfl (by decide) (by decide) rfl ?_
        refine wp_goto (off := -42) (tgt := 173) (by decide +kernel) (by decide) ?_
        exact wp_sub [2, 3, 4, 5, 6, 1, 0] rfl H
/-! DeafWallModel.areMarks(III)Z -/
set_option maxRecDepth 20000 in
theorem b9_areMarks {X : XX} {G : GG} {I : Nat → Nat → Int32} {L : Nat → Nat → Int64} {h : Nat} {x1 : Int32} {x2 : Int32} {x3 : Int32} {Q : Int32 → (Nat → Nat → Int32) → (Nat → Nat → Int64) → Prop} (ok : OK9 G h) (H : wpI X B9_areMarks 6 [(0, .ref h), (1, .int x1), (2, .int x2), (3, .int x3), (4, .int 1), (5, .int 0)] [] G I L Q) : wpI X B9_areMarks 0 [(0, .ref h), (1, .int x1), (2, .int x2), (3, .int x3)] [] G I L Q := by
  refine wp_iconst (z := 1) (v := 1) (by decide +kernel) (by decide) ?_
  refine wp_istore (i := 4) (lv' := [(4, .int 1), (0, .ref h), (1, .int x1), (2, .int x2), (3, .int x3)]) (by decide +kernel) (by decide) rfl ?_
  refine wp_iconst (z := 0) (v := 0) (by decide +kernel) (by decide) ?_
  refine wp_istore (i := 5) (lv' := [(5, .int 0), (4, .int 1), (0, .ref h), (1, .int x1), (2, .int x2), (3, .int x3)]) (by decide +kernel) (by decide) rfl ?_
  exact wp_sub [2, 3, 4, 5, 1, 0] rfl H
set_option maxRecDepth 20000 in
theorem b9_areMarks_6 {X : XX} {G : GG} {I : Nat → Nat → Int32} {L : Nat → Nat → Int64} {h : Nat} {x1 : Int32} {x2 : Int32} {x3 : Int32} {x4 : Int32} {x5 : Int32} {Q : Int32 → (Nat → Nat → Int32) → (Nat → Nat → Int64) → Prop} (ok : OK9 G h) (H : if x3 ≤ x5 then ((x4 = 0 ∨ x4 = 1) ∧ (Q x4 I L)) else (if x4 = (0 : Int32) then (wpI X B9_areMarks 6 [(0, .ref h), (1, .int x1), (2, .int x2), (3, .int x3), (4, .int 0), (5, .int (x5 + 1))] [] G I L Q) else (p9_markOf I h x2 x5 ∧ (if ((x1 >>> (x5 &&& 31)) &&& 1) = (v9_markOf I h x2 x5) then (wpI X B9_areMarks 6 [(0, .ref h), (1, .int x1), (2, .int x2), (3, .int x3), (4, .int 1), (5, .int (x5 + 1))] [] G I L Q) else (wpI X B9_areMarks 6 [(0, .ref h), (1, .int x1), (2, .int x2), (3, .int x3), (4, .int 0), (5, .int (x5 + 1))] [] G I L Q))))) : wpI X B9_areMarks 6 [(0, .ref h), (1, .int x1), (2, .int x2), (3, .int x3), (4, .int x4), (5, .int x5)] [] G I L Q := by
  refine wp_iload (i := 5) (x := x5) 5 (by decide +kernel) rfl ?_
  refine wp_iload_n (z := 3) (i := 3) (x := x3) 3 (by decide +kernel) rfl rfl ?_
  refine wp_icmp_ge (off := 37) (tgt := 46) (by decide +kernel) (by decide) (fun c1 => ?_) (fun c1 => ?_)
  · rw [if_pos c1] at H
    refine wp_iload (i := 4) (x := x4) 4 (by decide +kernel) rfl ?_
    obtain ⟨o2, H⟩ := H
    exact wp_zret (by decide +kernel) rfl o2 (Nat.zero_le _) (Nat.zero_le _) ⟨_, _, _, rfl, rfl, H⟩
  · rw [if_neg c1] at H
    refine wp_iload (i := 4) (x := x4) 4 (by decide +kernel) rfl ?_
    refine wp_if_eq (off := 23) (tgt := 37) (by decide +kernel) (by decide) (fun c3 => ?_) (fun c3 => ?_)
    · rw [if_pos c3] at H
      refine wp_iconst (z := 0) (v := 0) (by decide +kernel) (by decide) ?_
      refine wp_istore (i := 4) (lv' := [(4, .int 0), (0, .ref h), (1, .int x1), (2, .int x2), (3, .int x3), (5, .int x5)]) (by decide +kernel) (by decide) rfl ?_
      refine wp_iinc (i := 5) (z := 1) (v := 1) (lv' := [(5, .int (x5 + 1)), (4, .int 0), (0, .ref h), (1, .int x1), (2, .int x2), (3, .int x3)]) 5 (by decide +kernel) rfl (by decide) (by decide) rfl ?_
      refine wp_goto (off := -37) (tgt := 6) (by decide +kernel) (by decide) ?_
      exact wp_sub [2, 3, 4, 5, 1, 0] rfl H
    · rw [if_neg c3] at H
      refine wp_iload_n (z := 1) (i := 1) (x := x1) 1 (by decide +kernel) rfl rfl ?_
      refine wp_iload (i := 5) (x := x5) 5 (by decide +kernel) rfl ?_
      refine wp_ishr (by decide +kernel) ?_
      refine wp_iconst (z := 1) (v := 1) (by decide +kernel) (by decide) ?_
      refine wp_iand (by decide +kernel) ?_
      refine wp_aload_n (z := 0) (i := 0) (r := (some h)) 0 (by decide +kernel) rfl rfl ?_
      refine wp_iload_n (z := 2) (i := 2) (x := x2) 2 (by decide +kernel) rfl rfl ?_
      refine wp_iload (i := 5) (x := x5) 5 (by decide +kernel) rfl ?_
      obtain ⟨o5, H⟩ := H
      refine wp_callV (idx := 241) (B2 := B9_markOf) (As := [.int x2, .int x5]) (a := h) (st := [.int ((x1 >>> (x5 &&& 31)) &&& 1)]) (by decide +kernel) m9_markOf ml9_241 k9_markOf e9_markOf ck9 ok.1 (⟨Nat.le_of_ble_eq_true rfl, Nat.le_of_ble_eq_true rfl⟩ : rOK B9_areMarks B9_markOf) rfl (Nat.le_of_ble_eq_true rfl) (Nat.le_of_ble_eq_true rfl) ⟨Nat.le_of_ble_eq_true rfl, Nat.le_of_ble_eq_true rfl⟩ rfl (wp_mono (b9_markOf (Q := (fun r I' L' => r = (v9_markOf I h x2 x5) ∧ I = I' ∧ L = L')) ok o5 ⟨rfl, rfl, rfl⟩) (fun v9 M9 hq9 => ?_))
      obtain ⟨_, _, _, rfl, rfl, rfl, rfl, rfl⟩ := hq9
      show wp X B9_areMarks 30 [(0, .ref h), (1, .int x1), (2, .int x2), (3, .int x3), (4, .int x4), (5, .int x5)] [.int (v9_markOf I h x2 x5), .int ((x1 >>> (x5 &&& 31)) &&& 1)] (G, I, L) 0 0 _
      refine wp_icmp_ne (off := 7) (tgt := 37) (by decide +kernel) (by decide) (fun c4 => ?_) (fun c4 => ?_)
      · rw [if_neg c4] at H
        refine wp_iconst (z := 0) (v := 0) (by decide +kernel) (by decide) ?_
        refine wp_istore (i := 4) (lv' := [(4, .int 0), (0, .ref h), (1, .int x1), (2, .int x2), (3, .int x3), (5, .int x5)]) (by decide +kernel) (by decide) rfl ?_
        refine wp_iinc (i := 5) (z := 1) (v := 1) (lv' := [(5, .int (x5 + 1)), (4, .int 0), (0, .ref h), (1, .int x1), (2, .int x2), (3, .int x3)]) 5 (by decide +kernel) rfl (by decide) (by decide) rfl ?_
        refine wp_goto (off := -37) (tgt := 6) (by decide +kernel) (by decide) ?_
        exact wp_sub [2, 3, 4, 5, 1, 0] rfl H
      · rw [if_pos c4] at H
        refine wp_iconst (z := 1) (v := 1) (by decide +kernel) (by decide) ?_
        refine wp_goto (off := 4) (tgt := 38) (by decide +kernel) (by decide) ?_
        refine wp_istore (i := 4) (lv' := [(4, .int 1), (0, .ref h), (1, .int x1), (2, .int x2), (3, .int x3), (5, .int x5)]) (by decide +kernel) (by decide) rfl ?_
        refine wp_iinc (i := 5) (z := 1) (v := 1) (lv' := [(5, .int (x5 + 1)), (4, .int 1), (0, .ref h), (1, .int x1), (2, .int x2), (3, .int x3)]) 5 (by decide +kernel) rfl (by decide) (by decide) rfl ?_
        refine wp_goto (off := -37) (tgt := 6) (by decide +kernel) (by decide) ?_
        exact wp_sub [2, 3, 4, 5, 1, 0] rfl H
/-! DeafWallModel.lays(II)Z -/
set_option maxRecDepth 20000 in
theorem b9_lays {X : XX} {G : GG} {I : Nat → Nat → Int32} {L : Nat → Nat → Int64} {h : Nat} {x1 : Int32} {x2 : Int32} {Q : Int32 → (Nat → Nat → Int32) → (Nat → Nat → Int64) → Prop} (ok : OK9 G h) (H : vp_in x1 384 ∧ (if x2 < (I (h + 14) (cl x1)) then (vp_in x1 384 ∧ (∀ I2, I2 = up2 I (h + 14) (cl x1) x2 → Q 1 I2 L)) else (Q 0 I L))) : wpI X B9_lays 0 [(0, .ref h), (1, .int x1), (2, .int x2)] [] G I L Q := by
  refine wp_iload_n (z := 2) (i := 2) (x := x2) 2 (by decide +kernel) rfl rfl ?_
  refine wp_aload_n (z := 0) (i := 0) (r := (some h)) 0 (by decide +kernel) rfl rfl ?_
  refine wp_getS (idx := 51) (q := (h + 14)) (by decide +kernel) fl9_51 rfl ok.1 (okr9_33 ok) ?_
  refine wp_iload_n (z := 1) (i := 1) (x := x1) 1 (by decide +kernel) rfl rfl ?_
  obtain ⟨o4, H⟩ := H
  refine wp_iald (j := (cl x1)) (by decide +kernel) (oks9_33 ok) o4 rfl ?_
  refine wp_icmp_lt (off := 5) (tgt := 12) (by decide +kernel) (by decide) (fun c1 => ?_) (fun c1 => ?_)
  · rw [if_pos c1] at H
    refine wp_aload_n (z := 0) (i := 0) (r := (some h)) 0 (by decide +kernel) rfl rfl ?_
    refine wp_getS (idx := 51) (q := (h + 14)) (by decide +kernel) fl9_51 rfl ok.1 (okr9_33 ok) ?_
    refine wp_iload_n (z := 1) (i := 1) (x := x1) 1 (by decide +kernel) rfl rfl ?_
    refine wp_iload_n (z := 2) (i := 2) (x := x2) 2 (by decide +kernel) rfl rfl ?_
    obtain ⟨o3, H⟩ := H
    refine wp_iast (j := (cl x1)) (by decide +kernel) (oks9_33 ok) o3 rfl ?_
    refine wp_memI (fun I2 eI2 => ?_)
    replace H := H I2 eI2
    refine wp_iconst (z := 1) (v := 1) (by decide +kernel) (by decide) ?_
    exact wp_zret (by decide +kernel) rfl (by decide) (Nat.zero_le _) (Nat.zero_le _) ⟨_, _, _, rfl, rfl, H⟩
  · rw [if_neg c1] at H
    refine wp_iconst (z := 0) (v := 0) (by decide +kernel) (by decide) ?_
    exact wp_zret (by decide +kernel) rfl (by decide) (Nat.zero_le _) (Nat.zero_le _) ⟨_, _, _, rfl, rfl, H⟩
/-! DeafWallModel.goesOnBy(II)Z -/
set_option maxRecDepth 20000 in
theorem b9_goesOnBy {X : XX} {G : GG} {I : Nat → Nat → Int32} {L : Nat → Nat → Int64} {h : Nat} {x1 : Int32} {x2 : Int32} {Q : Int32 → (Nat → Nat → Int32) → (Nat → Nat → Int64) → Prop} (ok : OK9 G h) (H : ∀ u1, u1 = (x1 - x1 / 64 * 64) → p9_longOf I h x2 ∧ (if (x1 / 64) < (v9_longOf I h x2) then (wpI X B9_areMarks 0 [(0, .ref h), (1, .int u1), (2, .int x2), (3, .int (x1 / 64))] [] G I L (fun r5 I3 L4 => if r5 = (0 : Int32) then (Q 0 I3 L4) else (p9_leftOf I3 h x2 (x1 / 64) ∧ (vp_in x1 384 ∧ (p9_longOf I3 h x2 ∧ (wpI X B9_lays 0 [(0, .ref h), (1, .int (v9_leftOf I3 h x2 (x1 / 64))), (2, .int (((I3 (h + 14) (cl x1)) + (v9_longOf I3 h x2)) - (x1 / 64)))] [] G I3 L4 (fun r9 I7 L8 => if r9 = (0 : Int32) then (Q 0 I7 L8) else (Q 1 I7 L8)))))))) else (p9_longOf I h x2 ∧ (wpI X B9_areMarks 0 [(0, .ref h), (1, .int u1), (2, .int x2), (3, .int (v9_longOf I h x2))] [] G I L (fun r16 I14 L15 => if r16 = (0 : Int32) then (Q 0 I14 L15) else (p9_longOf I14 h x2 ∧ (p9_longOf I14 h x2 ∧ (vp_in x1 384 ∧ (wpI X B9_lays 0 [(0, .ref h), (1, .int ((64 * ((x1 / 64) - (v9_longOf I14 h x2))) + (u1 >>> ((v9_longOf I14 h x2) &&& 31)))), (2, .int (I14 (h + 14) (cl x1)))] [] G I14 L15 (fun r20 I18 L19 => if r20 = (0 : Int32) then (Q 0 I18 L19) else (Q 1 I18 L19))))))))))) : wpI X B9_goesOnBy 0 [(0, .ref h), (1, .int x1), (2, .int x2)] [] G I L Q := by
  refine wp_iload_n (z := 1) (i := 1) (x := x1) 1 (by decide +kernel) rfl rfl ?_
  refine wp_bipush (z := 64) (v := 64) (by decide +kernel) (by decide) ?_
  refine wp_idiv (by decide +kernel) (by decide) ?_
  refine wp_istore_n (z := 3) (i := 3) (lv' := [(3, .int (x1 / 64)), (0, .ref h), (1, .int x1), (2, .int x2)]) (by decide +kernel) rfl (by decide) rfl ?_
  refine wp_iload_n (z := 1) (i := 1) (x := x1) 2 (by decide +kernel) rfl rfl ?_
  refine wp_bipush (z := 64) (v := 64) (by decide +kernel) (by decide) ?_
  refine wp_irem (by decide +kernel) (by decide) ?_
  refine wp_topi (fun u1 eu1 => ?_)
  replace H := H u1 eu1
  refine wp_istore (i := 4) (lv' := [(4, .int u1), (3, .int (x1 / 64)), (0, .ref h), (1, .int x1), (2, .int x2)]) (by decide +kernel) (by decide) rfl ?_
  refine wp_aload_n (z := 0) (i := 0) (r := (some h)) 2 (by decide +kernel) rfl rfl ?_
  refine wp_iload_n (z := 2) (i := 2) (x := x2) 4 (by decide +kernel) rfl rfl ?_
  obtain ⟨o26, H⟩ := H
  refine wp_callV (idx := 211) (B2 := B9_longOf) (As := [.int x2]) (a := h) (st := []) (by decide +kernel) m9_longOf ml9_211 k9_longOf e9_longOf ck9 ok.1 (⟨Nat.le_of_ble_eq_true rfl, Nat.le_of_ble_eq_true rfl⟩ : rOK B9_goesOnBy B9_longOf) rfl (Nat.le_of_ble_eq_true rfl) (Nat.le_of_ble_eq_true rfl) ⟨Nat.le_of_ble_eq_true rfl, Nat.le_of_ble_eq_true rfl⟩ rfl (wp_mono (b9_longOf (Q := (fun r I' L' => r = (v9_longOf I h x2) ∧ I = I' ∧ L = L')) ok o26 ⟨rfl, rfl, rfl⟩) (fun v9 M9 hq9 => ?_))
  obtain ⟨_, _, _, rfl, rfl, rfl, rfl, rfl⟩ := hq9
  show wp X B9_goesOnBy 16 [(4, .int u1), (3, .int (x1 / 64)), (0, .ref h), (1, .int x1), (2, .int x2)] [.int (v9_longOf I h x2)] (G, I, L) 0 0 _
  refine wp_iload_n (z := 3) (i := 3) (x := (x1 / 64)) 1 (by decide +kernel) rfl rfl ?_
  refine wp_icmp_gt (off := 56) (tgt := 73) (by decide +kernel) (by decide) (fun c2 => ?_) (fun c2 => ?_)
  · rw [if_pos c2] at H
    refine wp_aload_n (z := 0) (i := 0) (r := (some h)) 2 (by decide +kernel) rfl rfl ?_
    refine wp_iload (i := 4) (x := u1) 0 (by decide +kernel) rfl ?_
    refine wp_iload_n (z := 2) (i := 2) (x := x2) 4 (by decide +kernel) rfl rfl ?_
    refine wp_iload_n (z := 3) (i := 3) (x := (x1 / 64)) 1 (by decide +kernel) rfl rfl ?_
    refine wp_callV (idx := 296) (B2 := B9_areMarks) (As := [.int u1, .int x2, .int (x1 / 64)]) (a := h) (st := []) (by decide +kernel) m9_areMarks ml9_296 k9_areMarks e9_areMarks ck9 ok.1 (⟨Nat.le_of_ble_eq_true rfl, Nat.le_of_ble_eq_true rfl⟩ : rOK B9_goesOnBy B9_areMarks) rfl (Nat.le_of_ble_eq_true rfl) (Nat.le_of_ble_eq_true rfl) ⟨Nat.le_of_ble_eq_true rfl, Nat.le_of_ble_eq_true rfl⟩ rfl (wp_mono H (fun v9 M9 hq9 => ?_))
    clear H
    obtain ⟨r5, I3, L4, rfl, rfl, H⟩ := hq9
    show wp X B9_goesOnBy 81 [(4, .int u1), (3, .int (x1 / 64)), (0, .ref h), (1, .int x1), (2, .int x2)] [.int r5] (G, I3, L4) 0 0 _
    refine wp_if_eq (off := 34) (tgt := 115) (by decide +kernel) (by decide) (fun c6 => ?_) (fun c6 => ?_)
    · rw [if_pos c6] at H
      refine wp_iconst (z := 0) (v := 0) (by decide +kernel) (by decide) ?_
      exact wp_zret (by decide +kernel) rfl (by decide) (Nat.zero_le _) (Nat.zero_le _) ⟨_, _, _, rfl, rfl, H⟩
    · rw [if_neg c6] at H
      refine wp_aload_n (z := 0) (i := 0) (r := (some h)) 2 (by decide +kernel) rfl rfl ?_
      refine wp_aload_n (z := 0) (i := 0) (r := (some h)) 2 (by decide +kernel) rfl rfl ?_
      refine wp_iload_n (z := 2) (i := 2) (x := x2) 4 (by decide +kernel) rfl rfl ?_
      refine wp_iload_n (z := 3) (i := 3) (x := (x1 / 64)) 1 (by decide +kernel) rfl rfl ?_
      obtain ⟨o13, H⟩ := H
      refine wp_callV (idx := 302) (B2 := B9_leftOf) (As := [.int x2, .int (x1 / 64)]) (a := h) (st := [.ref h]) (by decide +kernel) m9_leftOf ml9_302 k9_leftOf e9_leftOf ck9 ok.1 (⟨Nat.le_of_ble_eq_true rfl, Nat.le_of_ble_eq_true rfl⟩ : rOK B9_goesOnBy B9_leftOf) rfl (Nat.le_of_ble_eq_true rfl) (Nat.le_of_ble_eq_true rfl) ⟨Nat.le_of_ble_eq_true rfl, Nat.le_of_ble_eq_true rfl⟩ rfl (wp_mono (b9_leftOf (Q := (fun r I' L' => r = (v9_leftOf I3 h x2 (x1 / 64)) ∧ I3 = I' ∧ L4 = L')) ok o13 ⟨rfl, rfl, rfl⟩) (fun v9 M9 hq9 => ?_))
      obtain ⟨_, _, _, rfl, rfl, rfl, rfl, rfl⟩ := hq9
      show wp X B9_goesOnBy 91 [(4, .int u1), (3, .int (x1 / 64)), (0, .ref h), (1, .int x1), (2, .int x2)] [.int (v9_leftOf I3 h x2 (x1 / 64)), .ref h] (G, I3, L4) 0 0 _
      refine wp_aload_n (z := 0) (i := 0) (r := (some h)) 2 (by decide +kernel) rfl rfl ?_
      refine wp_getS (idx := 51) (q := (h + 14)) (by decide +kernel) fl9_51 rfl ok.1 (okr9_33 ok) ?_
      refine wp_iload_n (z := 1) (i := 1) (x := x1) 3 (by decide +kernel) rfl rfl ?_
      obtain ⟨o12, H⟩ := H
      refine wp_iald (j := (cl x1)) (by decide +kernel) (oks9_33 ok) o12 rfl ?_
      refine wp_aload_n (z := 0) (i := 0) (r := (some h)) 2 (by decide +kernel) rfl rfl ?_
      refine wp_iload_n (z := 2) (i := 2) (x := x2) 4 (by decide +kernel) rfl rfl ?_
      obtain ⟨o11, H⟩ := H
      refine wp_callV (idx := 211) (B2 := B9_longOf) (As := [.int x2]) (a := h) (st := [.int (I3 (h + 14) (cl x1)), .int (v9_leftOf I3 h x2 (x1 / 64)), .ref h]) (by decide +kernel) m9_longOf ml9_211 k9_longOf e9_longOf ck9 ok.1 (⟨Nat.le_of_ble_eq_true rfl, Nat.le_of_ble_eq_true rfl⟩ : rOK B9_goesOnBy B9_longOf) rfl (Nat.le_of_ble_eq_true rfl) (Nat.le_of_ble_eq_true rfl) ⟨Nat.le_of_ble_eq_true rfl, Nat.le_of_ble_eq_true rfl⟩ rfl (wp_mono (b9_longOf (Q := (fun r I' L' => r = (v9_longOf I3 h x2) ∧ I3 = I' ∧ L4 = L')) ok o11 ⟨rfl, rfl, rfl⟩) (fun v9 M9 hq9 => ?_))
      obtain ⟨_, _, _, rfl, rfl, rfl, rfl, rfl⟩ := hq9
      show wp X B9_goesOnBy 102 [(4, .int u1), (3, .int (x1 / 64)), (0, .ref h), (1, .int x1), (2, .int x2)] [.int (v9_longOf I3 h x2), .int (I3 (h + 14) (cl x1)), .int (v9_leftOf I3 h x2 (x1 / 64)), .ref h] (G, I3, L4) 0 0 _
      refine wp_iadd (by decide +kernel) ?_
      refine wp_iload_n (z := 3) (i := 3) (x := (x1 / 64)) 1 (by decide +kernel) rfl rfl ?_
      refine wp_isub (by decide +kernel) ?_
      refine wp_callV (idx := 299) (B2 := B9_lays) (As := [.int (v9_leftOf I3 h x2 (x1 / 64)), .int (((I3 (h + 14) (cl x1)) + (v9_longOf I3 h x2)) - (x1 / 64))]) (a := h) (st := []) (by decide +kernel) m9_lays ml9_299 k9_lays e9_lays ck9 ok.1 (⟨Nat.le_of_ble_eq_true rfl, Nat.le_of_ble_eq_true rfl⟩ : rOK B9_goesOnBy B9_lays) rfl (Nat.le_of_ble_eq_true rfl) (Nat.le_of_ble_eq_true rfl) ⟨Nat.le_of_ble_eq_true rfl, Nat.le_of_ble_eq_true rfl⟩ rfl (wp_mono H (fun v9 M9 hq9 => ?_))
      clear H
      obtain ⟨r9, I7, L8, rfl, rfl, H⟩ := hq9
      show wp X B9_goesOnBy 108 [(4, .int u1), (3, .int (x1 / 64)), (0, .ref h), (1, .int x1), (2, .int x2)] [.int r9] (G, I7, L8) 0 0 _
      refine wp_if_eq (off := 7) (tgt := 115) (by decide +kernel) (by decide) (fun c10 => ?_) (fun c10 => ?_)
      · rw [if_pos c10] at H
        refine wp_iconst (z := 0) (v := 0) (by decide +kernel) (by decide) ?_
        exact wp_zret (by decide +kernel) rfl (by decide) (Nat.zero_le _) (Nat.zero_le _) ⟨_, _, _, rfl, rfl, H⟩
      · rw [if_neg c10] at H
        refine wp_iconst (z := 1) (v := 1) (by decide +kernel) (by decide) ?_
        refine wp_goto (off := 4) (tgt := 116) (by decide +kernel) (by decide) ?_
        exact wp_zret (by decide +kernel) rfl (by decide) (Nat.zero_le _) (Nat.zero_le _) ⟨_, _, _, rfl, rfl, H⟩
  · rw [if_neg c2] at H
    refine wp_aload_n (z := 0) (i := 0) (r := (some h)) 2 (by decide +kernel) rfl rfl ?_
    refine wp_iload (i := 4) (x := u1) 0 (by decide +kernel) rfl ?_
    refine wp_iload_n (z := 2) (i := 2) (x := x2) 4 (by decide +kernel) rfl rfl ?_
    refine wp_aload_n (z := 0) (i := 0) (r := (some h)) 2 (by decide +kernel) rfl rfl ?_
    refine wp_iload_n (z := 2) (i := 2) (x := x2) 4 (by decide +kernel) rfl rfl ?_
    obtain ⟨o25, H⟩ := H
    refine wp_callV (idx := 211) (B2 := B9_longOf) (As := [.int x2]) (a := h) (st := [.int x2, .int u1, .ref h]) (by decide +kernel) m9_longOf ml9_211 k9_longOf e9_longOf ck9 ok.1 (⟨Nat.le_of_ble_eq_true rfl, Nat.le_of_ble_eq_true rfl⟩ : rOK B9_goesOnBy B9_longOf) rfl (Nat.le_of_ble_eq_true rfl) (Nat.le_of_ble_eq_true rfl) ⟨Nat.le_of_ble_eq_true rfl, Nat.le_of_ble_eq_true rfl⟩ rfl (wp_mono (b9_longOf (Q := (fun r I' L' => r = (v9_longOf I h x2) ∧ I = I' ∧ L = L')) ok o25 ⟨rfl, rfl, rfl⟩) (fun v9 M9 hq9 => ?_))
    obtain ⟨_, _, _, rfl, rfl, rfl, rfl, rfl⟩ := hq9
    show wp X B9_goesOnBy 29 [(4, .int u1), (3, .int (x1 / 64)), (0, .ref h), (1, .int x1), (2, .int x2)] [.int (v9_longOf I h x2), .int x2, .int u1, .ref h] (G, I, L) 0 0 _
    refine wp_callV (idx := 296) (B2 := B9_areMarks) (As := [.int u1, .int x2, .int (v9_longOf I h x2)]) (a := h) (st := []) (by decide +kernel) m9_areMarks ml9_296 k9_areMarks e9_areMarks ck9 ok.1 (⟨Nat.le_of_ble_eq_true rfl, Nat.le_of_ble_eq_true rfl⟩ : rOK B9_goesOnBy B9_areMarks) rfl (Nat.le_of_ble_eq_true rfl) (Nat.le_of_ble_eq_true rfl) ⟨Nat.le_of_ble_eq_true rfl, Nat.le_of_ble_eq_true rfl⟩ rfl (wp_mono H (fun v9 M9 hq9 => ?_))
    clear H
    obtain ⟨r16, I14, L15, rfl, rfl, H⟩ := hq9
    show wp X B9_goesOnBy 32 [(4, .int u1), (3, .int (x1 / 64)), (0, .ref h), (1, .int x1), (2, .int x2)] [.int r16] (G, I14, L15) 0 0 _
    refine wp_if_eq (off := 39) (tgt := 71) (by decide +kernel) (by decide) (fun c17 => ?_) (fun c17 => ?_)
    · rw [if_pos c17] at H
      refine wp_iconst (z := 0) (v := 0) (by decide +kernel) (by decide) ?_
      exact wp_zret (by decide +kernel) rfl (by decide) (Nat.zero_le _) (Nat.zero_le _) ⟨_, _, _, rfl, rfl, H⟩
    · rw [if_neg c17] at H
      refine wp_aload_n (z := 0) (i := 0) (r := (some h)) 2 (by decide +kernel) rfl rfl ?_
      refine wp_bipush (z := 64) (v := 64) (by decide +kernel) (by decide) ?_
      refine wp_iload_n (z := 3) (i := 3) (x := (x1 / 64)) 1 (by decide +kernel) rfl rfl ?_
      refine wp_aload_n (z := 0) (i := 0) (r := (some h)) 2 (by decide +kernel) rfl rfl ?_
      refine wp_iload_n (z := 2) (i := 2) (x := x2) 4 (by decide +kernel) rfl rfl ?_
      obtain ⟨o24, H⟩ := H
      refine wp_callV (idx := 211) (B2 := B9_longOf) (As := [.int x2]) (a := h) (st := [.int (x1 / 64), .int 64, .ref h]) (by decide +kernel) m9_longOf ml9_211 k9_longOf e9_longOf ck9 ok.1 (⟨Nat.le_of_ble_eq_true rfl, Nat.le_of_ble_eq_true rfl⟩ : rOK B9_goesOnBy B9_longOf) rfl (Nat.le_of_ble_eq_true rfl) (Nat.le_of_ble_eq_true rfl) ⟨Nat.le_of_ble_eq_true rfl, Nat.le_of_ble_eq_true rfl⟩ rfl (wp_mono (b9_longOf (Q := (fun r I' L' => r = (v9_longOf I14 h x2) ∧ I14 = I' ∧ L15 = L')) ok o24 ⟨rfl, rfl, rfl⟩) (fun v9 M9 hq9 => ?_))
      obtain ⟨_, _, _, rfl, rfl, rfl, rfl, rfl⟩ := hq9
      show wp X B9_goesOnBy 44 [(4, .int u1), (3, .int (x1 / 64)), (0, .ref h), (1, .int x1), (2, .int x2)] [.int (v9_longOf I14 h x2), .int (x1 / 64), .int 64, .ref h] (G, I14, L15) 0 0 _
      refine wp_isub (by decide +kernel) ?_
      refine wp_imul (by decide +kernel) ?_
      refine wp_iload (i := 4) (x := u1) 0 (by decide +kernel) rfl ?_
      refine wp_aload_n (z := 0) (i := 0) (r := (some h)) 2 (by decide +kernel) rfl rfl ?_
      refine wp_iload_n (z := 2) (i := 2) (x := x2) 4 (by decide +kernel) rfl rfl ?_
      obtain ⟨o23, H⟩ := H
      refine wp_callV (idx := 211) (B2 := B9_longOf) (As := [.int x2]) (a := h) (st := [.int u1, .int (64 * ((x1 / 64) - (v9_longOf I14 h x2))), .ref h]) (by decide +kernel) m9_longOf ml9_211 k9_longOf e9_longOf ck9 ok.1 (⟨Nat.le_of_ble_eq_true rfl, Nat.le_of_ble_eq_true rfl⟩ : rOK B9_goesOnBy B9_longOf) rfl (Nat.le_of_ble_eq_true rfl) (Nat.le_of_ble_eq_true rfl) ⟨Nat.le_of_ble_eq_true rfl, Nat.le_of_ble_eq_true rfl⟩ rfl (wp_mono (b9_longOf (Q := (fun r I' L' => r = (v9_longOf I14 h x2) ∧ I14 = I' ∧ L15 = L')) ok o23 ⟨rfl, rfl, rfl⟩) (fun v9 M9 hq9 => ?_))
      obtain ⟨_, _, _, rfl, rfl, rfl, rfl, rfl⟩ := hq9
      show wp X B9_goesOnBy 53 [(4, .int u1), (3, .int (x1 / 64)), (0, .ref h), (1, .int x1), (2, .int x2)] [.int (v9_longOf I14 h x2), .int u1, .int (64 * ((x1 / 64) - (v9_longOf I14 h x2))), .ref h] (G, I14, L15) 0 0 _
      refine wp_ishr (by decide +kernel) ?_
      refine wp_iadd (by decide +kernel) ?_
      refine wp_aload_n (z := 0) (i := 0) (r := (some h)) 2 (by decide +kernel) rfl rfl ?_
      refine wp_getS (idx := 51) (q := (h + 14)) (by decide +kernel) fl9_51 rfl ok.1 (okr9_33 ok) ?_
      refine wp_iload_n (z := 1) (i := 1) (x := x1) 3 (by decide +kernel) rfl rfl ?_
      obtain ⟨o22, H⟩ := H
      refine wp_iald (j := (cl x1)) (by decide +kernel) (oks9_33 ok) o22 rfl ?_
      refine wp_callV (idx := 299) (B2 := B9_lays) (As := [.int ((64 * ((x1 / 64) - (v9_longOf I14 h x2))) + (u1 >>> ((v9_longOf I14 h x2) &&& 31))), .int (I14 (h + 14) (cl x1))]) (a := h) (st := []) (by decide +kernel) m9_lays ml9_299 k9_lays e9_lays ck9 ok.1 (⟨Nat.le_of_ble_eq_true rfl, Nat.le_of_ble_eq_true rfl⟩ : rOK B9_goesOnBy B9_lays) rfl (Nat.le_of_ble_eq_true rfl) (Nat.le_of_ble_eq_true rfl) ⟨Nat.le_of_ble_eq_true rfl, Nat.le_of_ble_eq_true rfl⟩ rfl (wp_mono H (fun v9 M9 hq9 => ?_))
      clear H
      obtain ⟨r20, I18, L19, rfl, rfl, H⟩ := hq9
      show wp X B9_goesOnBy 64 [(4, .int u1), (3, .int (x1 / 64)), (0, .ref h), (1, .int x1), (2, .int x2)] [.int r20] (G, I18, L19) 0 0 _
      refine wp_if_eq (off := 7) (tgt := 71) (by decide +kernel) (by decide) (fun c21 => ?_) (fun c21 => ?_)
      · rw [if_pos c21] at H
        refine wp_iconst (z := 0) (v := 0) (by decide +kernel) (by decide) ?_
        exact wp_zret (by decide +kernel) rfl (by decide) (Nat.zero_le _) (Nat.zero_le _) ⟨_, _, _, rfl, rfl, H⟩
      · rw [if_neg c21] at H
        refine wp_iconst (z := 1) (v := 1) (by decide +kernel) (by decide) ?_
        refine wp_goto (off := 4) (tgt := 72) (by decide +kernel) (by decide) ?_
        exact wp_zret (by decide +kernel) rfl (by decide) (Nat.zero_le _) (Nat.zero_le _) ⟨_, _, _, rfl, rfl, H⟩
/-! DeafWallModel.code(I)I -/
set_option maxRecDepth 20000 in
theorem b9_code {X : XX} {G : GG} {I : Nat → Nat → Int32} {L : Nat → Nat → Int64} {h : Nat} {x1 : Int32} {Q : Int32 → (Nat → Nat → Int32) → (Nat → Nat → Int64) → Prop} (ok : OK9 G h) (H : wpI X B9_isWall 0 [(0, .ref h), (1, .int x1)] [] G I L (fun r3 I1 L2 => if r3 = (0 : Int32) then (Q (-1) I1 L2) else (wpI X B9_code 12 [(0, .ref h), (2, .int 0)] [] G I1 L2 Q))) : wpI X B9_code 0 [(0, .ref h), (1, .int x1)] [] G I L Q := by
  refine wp_aload_n (z := 0) (i := 0) (r := (some h)) 0 (by decide +kernel) rfl rfl ?_
  refine wp_iload_n (z := 1) (i := 1) (x := x1) 1 (by decide +kernel) rfl rfl ?_
  refine wp_callV (idx := 196) (B2 := B9_isWall) (As := [.int x1]) (a := h) (st := []) (by decide +kernel) m9_isWall ml9_196 k9_isWall e9_isWall ck9 ok.1 (⟨Nat.le_of_ble_eq_true rfl, Nat.le_of_ble_eq_true rfl⟩ : rOK B9_code B9_isWall) rfl (Nat.le_of_ble_eq_true rfl) (Nat.le_of_ble_eq_true rfl) ⟨Nat.le_of_ble_eq_true rfl, Nat.le_of_ble_eq_true rfl⟩ rfl (wp_mono H (fun v9 M9 hq9 => ?_))
  clear H
  obtain ⟨r3, I1, L2, rfl, rfl, H⟩ := hq9
  show wp X B9_code 5 [(0, .ref h), (1, .int x1)] [.int r3] (G, I1, L2) 0 0 _
  refine wp_if_ne (off := 5) (tgt := 10) (by decide +kernel) (by decide) (fun c4 => ?_) (fun c4 => ?_)
  · rw [if_neg c4] at H
    refine wp_iconst (z := 0) (v := 0) (by decide +kernel) (by decide) ?_
    refine wp_istore_n (z := 2) (i := 2) (lv' := [(2, .int 0), (0, .ref h), (1, .int x1)]) (by decide +kernel) rfl (by decide) rfl ?_
    exact wp_sub [1, 0] rfl H
  · rw [if_pos c4] at H
    refine wp_iconst (z := -1) (v := (-1)) (by decide +kernel) (by decide) ?_
    exact wp_iret (by decide +kernel) rfl (Nat.zero_le _) (Nat.zero_le _) ⟨_, _, _, rfl, rfl, H⟩
set_option maxRecDepth 20000 in
theorem b9_code_12 {X : XX} {G : GG} {I : Nat → Nat → Int32} {L : Nat → Nat → Int64} {h : Nat} {x2 : Int32} {Q : Int32 → (Nat → Nat → Int32) → (Nat → Nat → Int64) → Prop} (ok : OK9 G h) (H : if 384 ≤ x2 then (wpI X B9_code 36 [(0, .ref h), (2, .int 0)] [] G I L Q) else (vp_in x2 384 ∧ (∀ I2, I2 = up2 I (h + 14) (cl x2) 99999999 → wpI X B9_code 12 [(0, .ref h), (2, .int (x2 + 1))] [] G I2 L Q))) : wpI X B9_code 12 [(0, .ref h), (2, .int x2)] [] G I L Q := by
  refine wp_iload_n (z := 2) (i := 2) (x := x2) 1 (by decide +kernel) rfl rfl ?_
  refine wp_sipush (z := 384) (v := 384) (by decide +kernel) (by decide) ?_
  refine wp_icmp_ge (off := 18) (tgt := 34) (by decide +kernel) (by decide) (fun c1 => ?_) (fun c1 => ?_)
  · rw [if_pos c1] at H
    refine wp_iconst (z := 0) (v := 0) (by decide +kernel) (by decide) ?_
    refine wp_istore_n (z := 2) (i := 2) (lv' := [(2, .int 0), (0, .ref h)]) (by decide +kernel) rfl (by decide) rfl ?_
    exact wp_sub [1, 0] rfl H
  · rw [if_neg c1] at H
    refine wp_aload_n (z := 0) (i := 0) (r := (some h)) 0 (by decide +kernel) rfl rfl ?_
    refine wp_getS (idx := 51) (q := (h + 14)) (by decide +kernel) fl9_51 rfl ok.1 (okr9_33 ok) ?_
    refine wp_iload_n (z := 2) (i := 2) (x := x2) 1 (by decide +kernel) rfl rfl ?_
    refine wp_ldcw (idx := 305) (v := 99999999) (by decide +kernel) (in_g (List.mem_of_getElem? (i := 1520) (by decide +kernel)) rfl) ?_
    obtain ⟨o3, H⟩ := H
    refine wp_iast (j := (cl x2)) (by decide +kernel) (oks9_33 ok) o3 rfl ?_
    refine wp_memI (fun I2 eI2 => ?_)
    replace H := H I2 eI2
    refine wp_iinc (i := 2) (z := 1) (v := 1) (lv' := [(2, .int (x2 + 1)), (0, .ref h)]) 1 (by decide +kernel) rfl (by decide) (by decide) rfl ?_
    refine wp_goto (off := -19) (tgt := 12) (by decide +kernel) (by decide) ?_
    exact wp_sub [1, 0] rfl H
set_option maxRecDepth 20000 in
theorem b9_code_36 {X : XX} {G : GG} {I : Nat → Nat → Int32} {L : Nat → Nat → Int64} {h : Nat} {x2 : Int32} {Q : Int32 → (Nat → Nat → Int32) → (Nat → Nat → Int64) → Prop} (ok : OK9 G h) (H : if (I h 16) ≤ x2 then (wpI X B9_code 137 [(0, .ref h), (2, .int 1)] [] G I L Q) else (wpI X B9_code 46 [(0, .ref h), (2, .int x2), (3, .int 0)] [] G I L Q)) : wpI X B9_code 36 [(0, .ref h), (2, .int x2)] [] G I L Q := by
  refine wp_iload_n (z := 2) (i := 2) (x := x2) 1 (by decide +kernel) rfl rfl ?_
  refine wp_aload_n (z := 0) (i := 0) (r := (some h)) 0 (by decide +kernel) rfl rfl ?_
  refine wp_getI (idx := 193) (by decide +kernel) fl9_193 rfl ok.1 ?_
  refine wp_icmp_ge (off := 94) (tgt := 135) (by decide +kernel) (by decide) (fun c1 => ?_) (fun c1 => ?_)
  · rw [if_pos c1] at H
    refine wp_iconst (z := 1) (v := 1) (by decide +kernel) (by decide) ?_
    refine wp_istore_n (z := 2) (i := 2) (lv' := [(2, .int 1), (0, .ref h)]) (by decide +kernel) rfl (by decide) rfl ?_
    exact wp_sub [1, 0] rfl H
  · rw [if_neg c1] at H
    refine wp_iconst (z := 0) (v := 0) (by decide +kernel) (by decide) ?_
    refine wp_istore_n (z := 3) (i := 3) (lv' := [(3, .int 0), (0, .ref h), (2, .int x2)]) (by decide +kernel) rfl (by decide) rfl ?_
    exact wp_sub [1, 2, 0] rfl H
set_option maxRecDepth 20000 in
theorem b9_code_46 {X : XX} {G : GG} {I : Nat → Nat → Int32} {L : Nat → Nat → Int64} {h : Nat} {x2 : Int32} {x3 : Int32} {Q : Int32 → (Nat → Nat → Int32) → (Nat → Nat → Int64) → Prop} (ok : OK9 G h) (H : if (I h 16) ≤ x3 then (wpI X B9_code 36 [(0, .ref h), (2, .int (x2 + 1))] [] G I L Q) else (if x2 = x3 then (wpI X B9_code 46 [(0, .ref h), (2, .int x2), (3, .int (x3 + 1))] [] G I L Q) else (p9_longOf I h x2 ∧ (p9_longOf I h x3 ∧ (if (v9_longOf I h x3) < (v9_longOf I h x2) then (wpI X B9_code 46 [(0, .ref h), (2, .int x2), (3, .int (x3 + 1))] [] G I L Q) else (vp_in ((((I h 11) + 17) + 1) + (2 * x3)) 4096 ∧ (p9_longOf I h x2 ∧ (wpI X B9_areMarks 0 [(0, .ref h), (1, .int (I (h + 1) (cl ((((I h 11) + 17) + 1) + (2 * x3))))), (2, .int x2), (3, .int (v9_longOf I h x2))] [] G I L (fun r6 I4 L5 => if r6 = (0 : Int32) then (wpI X B9_code 46 [(0, .ref h), (2, .int x2), (3, .int (x3 + 1))] [] G I4 L5 Q) else (p9_longOf I4 h x2 ∧ (p9_leftOf I4 h x3 (v9_longOf I4 h x2) ∧ (p9_longOf I4 h x3 ∧ (wpI X B9_lays 0 [(0, .ref h), (1, .int (v9_leftOf I4 h x3 (v9_longOf I4 h x2))), (2, .int (v9_longOf I4 h x3))] [] G I4 L5 (fun r10 I8 L9 => wpI X B9_code 46 [(0, .ref h), (2, .int x2), (3, .int (x3 + 1))] [] G I8 L9 Q)))))))))))))) : wpI X B9_code 46 [(0, .ref h), (2, .int x2), (3, .int x3)] [] G I L Q := by
  refine wp_iload_n (z := 3) (i := 3) (x := x3) 2 (by decide +kernel) rfl rfl ?_
  refine wp_aload_n (z := 0) (i := 0) (r := (some h)) 0 (by decide +kernel) rfl rfl ?_
  refine wp_getI (idx := 193) (by decide +kernel) fl9_193 rfl ok.1 ?_
  refine wp_icmp_ge (off := 78) (tgt := 129) (by decide +kernel) (by decide) (fun c1 => ?_) (fun c1 => ?_)
  · rw [if_pos c1] at H
    refine wp_iinc (i := 2) (z := 1) (v := 1) (lv' := [(2, .int (x2 + 1)), (0, .ref h), (3, .int x3)]) 1 (by decide +kernel) rfl (by decide) (by decide) rfl ?_
    refine wp_goto (off := -96) (tgt := 36) (by decide +kernel) (by decide) ?_
    exact wp_sub [1, 0] rfl H
  · rw [if_neg c1] at H
    refine wp_iload_n (z := 2) (i := 2) (x := x2) 1 (by decide +kernel) rfl rfl ?_
    refine wp_iload_n (z := 3) (i := 3) (x := x3) 2 (by decide +kernel) rfl rfl ?_
    refine wp_icmp_eq (off := 67) (tgt := 123) (by decide +kernel) (by decide) (fun c2 => ?_) (fun c2 => ?_)
    · rw [if_pos c2] at H
      refine wp_iinc (i := 3) (z := 1) (v := 1) (lv' := [(3, .int (x3 + 1)), (0, .ref h), (2, .int x2)]) 2 (by decide +kernel) rfl (by decide) (by decide) rfl ?_
      refine wp_goto (off := -80) (tgt := 46) (by decide +kernel) (by decide) ?_
      exact wp_sub [1, 2, 0] rfl H
    · rw [if_neg c2] at H
      refine wp_aload_n (z := 0) (i := 0) (r := (some h)) 0 (by decide +kernel) rfl rfl ?_
      refine wp_iload_n (z := 2) (i := 2) (x := x2) 1 (by decide +kernel) rfl rfl ?_
      obtain ⟨o17, H⟩ := H
      refine wp_callV (idx := 211) (B2 := B9_longOf) (As := [.int x2]) (a := h) (st := []) (by decide +kernel) m9_longOf ml9_211 k9_longOf e9_longOf ck9 ok.1 (⟨Nat.le_of_ble_eq_true rfl, Nat.le_of_ble_eq_true rfl⟩ : rOK B9_code B9_longOf) rfl (Nat.le_of_ble_eq_true rfl) (Nat.le_of_ble_eq_true rfl) ⟨Nat.le_of_ble_eq_true rfl, Nat.le_of_ble_eq_true rfl⟩ rfl (wp_mono (b9_longOf (Q := (fun r I' L' => r = (v9_longOf I h x2) ∧ I = I' ∧ L = L')) ok o17 ⟨rfl, rfl, rfl⟩) (fun v9 M9 hq9 => ?_))
      obtain ⟨_, _, _, rfl, rfl, rfl, rfl, rfl⟩ := hq9
      show wp X B9_code 64 [(0, .ref h), (2, .int x2), (3, .int x3)] [.int (v9_longOf I h x2)] (G, I, L) 0 0 _
      refine wp_aload_n (z := 0) (i := 0) (r := (some h)) 0 (by decide +kernel) rfl rfl ?_
      refine wp_iload_n (z := 3) (i := 3) (x := x3) 2 (by decide +kernel) rfl rfl ?_
      obtain ⟨o16, H⟩ := H
      refine wp_callV (idx := 211) (B2 := B9_longOf) (As := [.int x3]) (a := h) (st := [.int (v9_longOf I h x2)]) (by decide +kernel) m9_longOf ml9_211 k9_longOf e9_longOf ck9 ok.1 (⟨Nat.le_of_ble_eq_true rfl, Nat.le_of_ble_eq_true rfl⟩ : rOK B9_code B9_longOf) rfl (Nat.le_of_ble_eq_true rfl) (Nat.le_of_ble_eq_true rfl) ⟨Nat.le_of_ble_eq_true rfl, Nat.le_of_ble_eq_true rfl⟩ rfl (wp_mono (b9_longOf (Q := (fun r I' L' => r = (v9_longOf I h x3) ∧ I = I' ∧ L = L')) ok o16 ⟨rfl, rfl, rfl⟩) (fun v9 M9 hq9 => ?_))
      obtain ⟨_, _, _, rfl, rfl, rfl, rfl, rfl⟩ := hq9
      show wp X B9_code 69 [(0, .ref h), (2, .int x2), (3, .int x3)] [.int (v9_longOf I h x3), .int (v9_longOf I h x2)] (G, I, L) 0 0 _
      refine wp_icmp_gt (off := 54) (tgt := 123) (by decide +kernel) (by decide) (fun c3 => ?_) (fun c3 => ?_)
      · rw [if_pos c3] at H
        refine wp_iinc (i := 3) (z := 1) (v := 1) (lv' := [(3, .int (x3 + 1)), (0, .ref h), (2, .int x2)]) 2 (by decide +kernel) rfl (by decide) (by decide) rfl ?_
        refine wp_goto (off := -80) (tgt := 46) (by decide +kernel) (by decide) ?_
        exact wp_sub [1, 2, 0] rfl H
      · rw [if_neg c3] at H
        refine wp_aload_n (z := 0) (i := 0) (r := (some h)) 0 (by decide +kernel) rfl rfl ?_
        refine wp_aload_n (z := 0) (i := 0) (r := (some h)) 0 (by decide +kernel) rfl rfl ?_
        refine wp_getS (idx := 7) (q := (h + 1)) (by decide +kernel) fl9_7 rfl ok.1 (okr9_0 ok) ?_
        refine wp_aload_n (z := 0) (i := 0) (r := (some h)) 0 (by decide +kernel) rfl rfl ?_
        refine wp_getI (idx := 178) (by decide +kernel) fl9_178 rfl ok.1 ?_
        refine wp_bipush (z := 17) (v := 17) (by decide +kernel) (by decide) ?_
        refine wp_iadd (by decide +kernel) ?_
        refine wp_iconst (z := 1) (v := 1) (by decide +kernel) (by decide) ?_
        refine wp_iadd (by decide +kernel) ?_
        refine wp_iconst (z := 2) (v := 2) (by decide +kernel) (by decide) ?_
        refine wp_iload_n (z := 3) (i := 3) (x := x3) 2 (by decide +kernel) rfl rfl ?_
        refine wp_imul (by decide +kernel) ?_
        refine wp_iadd (by decide +kernel) ?_
        obtain ⟨o15, H⟩ := H
        refine wp_iald (j := (cl ((((I h 11) + 17) + 1) + (2 * x3)))) (by decide +kernel) (oks9_0 ok) o15 rfl ?_
        refine wp_iload_n (z := 2) (i := 2) (x := x2) 1 (by decide +kernel) rfl rfl ?_
        refine wp_aload_n (z := 0) (i := 0) (r := (some h)) 0 (by decide +kernel) rfl rfl ?_
        refine wp_iload_n (z := 2) (i := 2) (x := x2) 1 (by decide +kernel) rfl rfl ?_
        obtain ⟨o14, H⟩ := H
        refine wp_callV (idx := 211) (B2 := B9_longOf) (As := [.int x2]) (a := h) (st := [.int x2, .int (I (h + 1) (cl ((((I h 11) + 17) + 1) + (2 * x3)))), .ref h]) (by decide +kernel) m9_longOf ml9_211 k9_longOf e9_longOf ck9 ok.1 (⟨Nat.le_of_ble_eq_true rfl, Nat.le_of_ble_eq_true rfl⟩ : rOK B9_code B9_longOf) rfl (Nat.le_of_ble_eq_true rfl) (Nat.le_of_ble_eq_true rfl) ⟨Nat.le_of_ble_eq_true rfl, Nat.le_of_ble_eq_true rfl⟩ rfl (wp_mono (b9_longOf (Q := (fun r I' L' => r = (v9_longOf I h x2) ∧ I = I' ∧ L = L')) ok o14 ⟨rfl, rfl, rfl⟩) (fun v9 M9 hq9 => ?_))
        obtain ⟨_, _, _, rfl, rfl, rfl, rfl, rfl⟩ := hq9
        show wp X B9_code 97 [(0, .ref h), (2, .int x2), (3, .int x3)] [.int (v9_longOf I h x2), .int x2, .int (I (h + 1) (cl ((((I h 11) + 17) + 1) + (2 * x3)))), .ref h] (G, I, L) 0 0 _
        refine wp_callV (idx := 296) (B2 := B9_areMarks) (As := [.int (I (h + 1) (cl ((((I h 11) + 17) + 1) + (2 * x3)))), .int x2, .int (v9_longOf I h x2)]) (a := h) (st := []) (by decide +kernel) m9_areMarks ml9_296 k9_areMarks e9_areMarks ck9 ok.1 (⟨Nat.le_of_ble_eq_true rfl, Nat.le_of_ble_eq_true rfl⟩ : rOK B9_code B9_areMarks) rfl (Nat.le_of_ble_eq_true rfl) (Nat.le_of_ble_eq_true rfl) ⟨Nat.le_of_ble_eq_true rfl, Nat.le_of_ble_eq_true rfl⟩ rfl (wp_mono H (fun v9 M9 hq9 => ?_))
        clear H
        obtain ⟨r6, I4, L5, rfl, rfl, H⟩ := hq9
        show wp X B9_code 100 [(0, .ref h), (2, .int x2), (3, .int x3)] [.int r6] (G, I4, L5) 0 0 _
        refine wp_if_eq (off := 23) (tgt := 123) (by decide +kernel) (by decide) (fun c7 => ?_) (fun c7 => ?_)
        · rw [if_pos c7] at H
          refine wp_iinc (i := 3) (z := 1) (v := 1) (lv' := [(3, .int (x3 + 1)), (0, .ref h), (2, .int x2)]) 2 (by decide +kernel) rfl (by decide) (by decide) rfl ?_
          refine wp_goto (off := -80) (tgt := 46) (by decide +kernel) (by decide) ?_
          exact wp_sub [1, 2, 0] rfl H
        · rw [if_neg c7] at H
          refine wp_aload_n (z := 0) (i := 0) (r := (some h)) 0 (by decide +kernel) rfl rfl ?_
          refine wp_aload_n (z := 0) (i := 0) (r := (some h)) 0 (by decide +kernel) rfl rfl ?_
          refine wp_iload_n (z := 3) (i := 3) (x := x3) 2 (by decide +kernel) rfl rfl ?_
          refine wp_aload_n (z := 0) (i := 0) (r := (some h)) 0 (by decide +kernel) rfl rfl ?_
          refine wp_iload_n (z := 2) (i := 2) (x := x2) 1 (by decide +kernel) rfl rfl ?_
          obtain ⟨o13, H⟩ := H
          refine wp_callV (idx := 211) (B2 := B9_longOf) (As := [.int x2]) (a := h) (st := [.int x3, .ref h, .ref h]) (by decide +kernel) m9_longOf ml9_211 k9_longOf e9_longOf ck9 ok.1 (⟨Nat.le_of_ble_eq_true rfl, Nat.le_of_ble_eq_true rfl⟩ : rOK B9_code B9_longOf) rfl (Nat.le_of_ble_eq_true rfl) (Nat.le_of_ble_eq_true rfl) ⟨Nat.le_of_ble_eq_true rfl, Nat.le_of_ble_eq_true rfl⟩ rfl (wp_mono (b9_longOf (Q := (fun r I' L' => r = (v9_longOf I4 h x2) ∧ I4 = I' ∧ L5 = L')) ok o13 ⟨rfl, rfl, rfl⟩) (fun v9 M9 hq9 => ?_))
          obtain ⟨_, _, _, rfl, rfl, rfl, rfl, rfl⟩ := hq9
          show wp X B9_code 111 [(0, .ref h), (2, .int x2), (3, .int x3)] [.int (v9_longOf I4 h x2), .int x3, .ref h, .ref h] (G, I4, L5) 0 0 _
          obtain ⟨o12, H⟩ := H
          refine wp_callV (idx := 302) (B2 := B9_leftOf) (As := [.int x3, .int (v9_longOf I4 h x2)]) (a := h) (st := [.ref h]) (by decide +kernel) m9_leftOf ml9_302 k9_leftOf e9_leftOf ck9 ok.1 (⟨Nat.le_of_ble_eq_true rfl, Nat.le_of_ble_eq_true rfl⟩ : rOK B9_code B9_leftOf) rfl (Nat.le_of_ble_eq_true rfl) (Nat.le_of_ble_eq_true rfl) ⟨Nat.le_of_ble_eq_true rfl, Nat.le_of_ble_eq_true rfl⟩ rfl (wp_mono (b9_leftOf (Q := (fun r I' L' => r = (v9_leftOf I4 h x3 (v9_longOf I4 h x2)) ∧ I4 = I' ∧ L5 = L')) ok o12 ⟨rfl, rfl, rfl⟩) (fun v9 M9 hq9 => ?_))
          obtain ⟨_, _, _, rfl, rfl, rfl, rfl, rfl⟩ := hq9
          show wp X B9_code 114 [(0, .ref h), (2, .int x2), (3, .int x3)] [.int (v9_leftOf I4 h x3 (v9_longOf I4 h x2)), .ref h] (G, I4, L5) 0 0 _
          refine wp_aload_n (z := 0) (i := 0) (r := (some h)) 0 (by decide +kernel) rfl rfl ?_
          refine wp_iload_n (z := 3) (i := 3) (x := x3) 2 (by decide +kernel) rfl rfl ?_
          obtain ⟨o11, H⟩ := H
          refine wp_callV (idx := 211) (B2 := B9_longOf) (As := [.int x3]) (a := h) (st := [.int (v9_leftOf I4 h x3 (v9_longOf I4 h x2)), .ref h]) (by decide +kernel) m9_longOf ml9_211 k9_longOf e9_longOf ck9 ok.1 (⟨Nat.le_of_ble_eq_true rfl, Nat.le_of_ble_eq_true rfl⟩ : rOK B9_code B9_longOf) rfl (Nat.le_of_ble_eq_true rfl) (Nat.le_of_ble_eq_true rfl) ⟨Nat.le_of_ble_eq_true rfl, Nat.le_of_ble_eq_true rfl⟩ rfl (wp_mono (b9_longOf (Q := (fun r I' L' => r = (v9_longOf I4 h x3) ∧ I4 = I' ∧ L5 = L')) ok o11 ⟨rfl, rfl, rfl⟩) (fun v9 M9 hq9 => ?_))
          obtain ⟨_, _, _, rfl, rfl, rfl, rfl, rfl⟩ := hq9
          show wp X B9_code 119 [(0, .ref h), (2, .int x2), (3, .int x3)] [.int (v9_longOf I4 h x3), .int (v9_leftOf I4 h x3 (v9_longOf I4 h x2)), .ref h] (G, I4, L5) 0 0 _
          refine wp_callV (idx := 299) (B2 := B9_lays) (As := [.int (v9_leftOf I4 h x3 (v9_longOf I4 h x2)), .int (v9_longOf I4 h x3)]) (a := h) (st := []) (by decide +kernel) m9_lays ml9_299 k9_lays e9_lays ck9 ok.1 (⟨Nat.le_of_ble_eq_true rfl, Nat.le_of_ble_eq_true rfl⟩ : rOK B9_code B9_lays) rfl (Nat.le_of_ble_eq_true rfl) (Nat.le_of_ble_eq_true rfl) ⟨Nat.le_of_ble_eq_true rfl, Nat.le_of_ble_eq_true rfl⟩ rfl (wp_mono H (fun v9 M9 hq9 => ?_))
          clear H
          obtain ⟨r10, I8, L9, rfl, rfl, H⟩ := hq9
          show wp X B9_code 122 [(0, .ref h), (2, .int x2), (3, .int x3)] [.int r10] (G, I8, L9) 0 0 _
          refine wp_pop (by decide +kernel) rfl ?_
          refine wp_iinc (i := 3) (z := 1) (v := 1) (lv' := [(3, .int (x3 + 1)), (0, .ref h), (2, .int x2)]) 2 (by decide +kernel) rfl (by decide) (by decide) rfl ?_
          refine wp_goto (off := -80) (tgt := 46) (by decide +kernel) (by decide) ?_
          exact wp_sub [1, 2, 0] rfl H
set_option maxRecDepth 20000 in
theorem b9_code_137 {X : XX} {G : GG} {I : Nat → Nat → Int32} {L : Nat → Nat → Int64} {h : Nat} {x2 : Int32} {Q : Int32 → (Nat → Nat → Int32) → (Nat → Nat → Int64) → Prop} (ok : OK9 G h) (H : if x2 = (0 : Int32) then (if (I (h + 14) 0) = 99999999 then (Q 0 I L) else (Q (I (h + 14) 0) I L)) else (wpI X B9_code 146 [(0, .ref h), (2, .int 0), (3, .int 64)] [] G I L Q)) : wpI X B9_code 137 [(0, .ref h), (2, .int x2)] [] G I L Q := by
  refine wp_iload_n (z := 2) (i := 2) (x := x2) 1 (by decide +kernel) rfl rfl ?_
  refine wp_if_eq (off := 66) (tgt := 204) (by decide +kernel) (by decide) (fun c1 => ?_) (fun c1 => ?_)
  · rw [if_pos c1] at H
    refine wp_aload_n (z := 0) (i := 0) (r := (some h)) 0 (by decide +kernel) rfl rfl ?_
    refine wp_getS (idx := 51) (q := (h + 14)) (by decide +kernel) fl9_51 rfl ok.1 (okr9_33 ok) ?_
    refine wp_iconst (z := 0) (v := 0) (by decide +kernel) (by decide) ?_
    refine wp_iald (j := 0) (by decide +kernel) (oks9_33 ok) (vin_c (by decide)) (by decide) ?_
    refine wp_ldcw (idx := 305) (v := 99999999) (by decide +kernel) (in_g (List.mem_of_getElem? (i := 1520) (by decide +kernel)) rfl) ?_
    refine wp_icmp_ne (off := 7) (tgt := 220) (by decide +kernel) (by decide) (fun c2 => ?_) (fun c2 => ?_)
    · rw [if_neg c2] at H
      refine wp_aload_n (z := 0) (i := 0) (r := (some h)) 0 (by decide +kernel) rfl rfl ?_
      refine wp_getS (idx := 51) (q := (h + 14)) (by decide +kernel) fl9_51 rfl ok.1 (okr9_33 ok) ?_
      refine wp_iconst (z := 0) (v := 0) (by decide +kernel) (by decide) ?_
      refine wp_iald (j := 0) (by decide +kernel) (oks9_33 ok) (vin_c (by decide)) (by decide) ?_
      exact wp_iret (by decide +kernel) rfl (Nat.zero_le _) (Nat.zero_le _) ⟨_, _, _, rfl, rfl, H⟩
    · rw [if_pos c2] at H
      refine wp_iconst (z := 0) (v := 0) (by decide +kernel) (by decide) ?_
      refine wp_goto (off := 9) (tgt := 226) (by decide +kernel) (by decide) ?_
      exact wp_iret (by decide +kernel) rfl (Nat.zero_le _) (Nat.zero_le _) ⟨_, _, _, rfl, rfl, H⟩
  · rw [if_neg c1] at H
    refine wp_iconst (z := 0) (v := 0) (by decide +kernel) (by decide) ?_
    refine wp_istore_n (z := 2) (i := 2) (lv' := [(2, .int 0), (0, .ref h)]) (by decide +kernel) rfl (by decide) rfl ?_
    refine wp_bipush (z := 64) (v := 64) (by decide +kernel) (by decide) ?_
    refine wp_istore_n (z := 3) (i := 3) (lv' := [(3, .int 64), (2, .int 0), (0, .ref h)]) (by decide +kernel) rfl (by decide) rfl ?_
    exact wp_sub [2, 1, 0] rfl H
set_option maxRecDepth 20000 in
theorem b9_code_146 {X : XX} {G : GG} {I : Nat → Nat → Int32} {L : Nat → Nat → Int64} {h : Nat} {x2 : Int32} {x3 : Int32} {Q : Int32 → (Nat → Nat → Int32) → (Nat → Nat → Int64) → Prop} (ok : OK9 G h) (H : if 384 ≤ x3 then (wpI X B9_code 137 [(0, .ref h), (2, .int x2)] [] G I L Q) else (wpI X B9_code 156 [(0, .ref h), (2, .int x2), (3, .int x3), (4, .int 0)] [] G I L Q)) : wpI X B9_code 146 [(0, .ref h), (2, .int x2), (3, .int x3)] [] G I L Q := by
  refine wp_iload_n (z := 3) (i := 3) (x := x3) 2 (by decide +kernel) rfl rfl ?_
  refine wp_sipush (z := 384) (v := 384) (by decide +kernel) (by decide) ?_
  refine wp_icmp_ge (off := 51) (tgt := 201) (by decide +kernel) (by decide) (fun c1 => ?_) (fun c1 => ?_)
  · rw [if_pos c1] at H
    refine wp_goto (off := -64) (tgt := 137) (by decide +kernel) (by decide) ?_
    exact wp_sub [0, 1] rfl H
  · rw [if_neg c1] at H
    refine wp_iconst (z := 0) (v := 0) (by decide +kernel) (by decide) ?_
    refine wp_istore (i := 4) (lv' := [(4, .int 0), (0, .ref h), (2, .int x2), (3, .int x3)]) (by decide +kernel) (by decide) rfl ?_
    exact wp_sub [1, 2, 3, 0] rfl H
set_option maxRecDepth 20000 in
theorem b9_code_156 {X : XX} {G : GG} {I : Nat → Nat → Int32} {L : Nat → Nat → Int64} {h : Nat} {x2 : Int32} {x3 : Int32} {x4 : Int32} {Q : Int32 → (Nat → Nat → Int32) → (Nat → Nat → Int64) → Prop} (ok : OK9 G h) (H : if (I h 16) ≤ x4 then (wpI X B9_code 146 [(0, .ref h), (2, .int x2), (3, .int (x3 + 1))] [] G I L Q) else (vp_in x3 384 ∧ (if 99999999 ≤ (I (h + 14) (cl x3)) then (wpI X B9_code 156 [(0, .ref h), (2, .int x2), (3, .int x3), (4, .int (x4 + 1))] [] G I L Q) else (wpI X B9_goesOnBy 0 [(0, .ref h), (1, .int x3), (2, .int x4)] [] G I L (fun r5 I3 L4 => if r5 = (0 : Int32) then (wpI X B9_code 156 [(0, .ref h), (2, .int x2), (3, .int x3), (4, .int (x4 + 1))] [] G I3 L4 Q) else (wpI X B9_code 156 [(0, .ref h), (2, .int 1), (3, .int x3), (4, .int (x4 + 1))] [] G I3 L4 Q)))))) : wpI X B9_code 156 [(0, .ref h), (2, .int x2), (3, .int x3), (4, .int x4)] [] G I L Q := by
  refine wp_iload (i := 4) (x := x4) 3 (by decide +kernel) rfl ?_
  refine wp_aload_n (z := 0) (i := 0) (r := (some h)) 0 (by decide +kernel) rfl rfl ?_
  refine wp_getI (idx := 193) (by decide +kernel) fl9_193 rfl ok.1 ?_
  refine wp_icmp_ge (off := 33) (tgt := 195) (by decide +kernel) (by decide) (fun c1 => ?_) (fun c1 => ?_)
  · rw [if_pos c1] at H
    refine wp_iinc (i := 3) (z := 1) (v := 1) (lv' := [(3, .int (x3 + 1)), (0, .ref h), (2, .int x2), (4, .int x4)]) 2 (by decide +kernel) rfl (by decide) (by decide) rfl ?_
    refine wp_goto (off := -52) (tgt := 146) (by decide +kernel) (by decide) ?_
    exact wp_sub [1, 2, 0] rfl H
  · rw [if_neg c1] at H
    refine wp_aload_n (z := 0) (i := 0) (r := (some h)) 0 (by decide +kernel) rfl rfl ?_
    refine wp_getS (idx := 51) (q := (h + 14)) (by decide +kernel) fl9_51 rfl ok.1 (okr9_33 ok) ?_
    refine wp_iload_n (z := 3) (i := 3) (x := x3) 2 (by decide +kernel) rfl rfl ?_
    obtain ⟨o7, H⟩ := H
    refine wp_iald (j := (cl x3)) (by decide +kernel) (oks9_33 ok) o7 rfl ?_
    refine wp_ldcw (idx := 305) (v := 99999999) (by decide +kernel) (in_g (List.mem_of_getElem? (i := 1520) (by decide +kernel)) rfl) ?_
    refine wp_icmp_ge (off := 15) (tgt := 189) (by decide +kernel) (by decide) (fun c2 => ?_) (fun c2 => ?_)
    · rw [if_pos c2] at H
      refine wp_iinc (i := 4) (z := 1) (v := 1) (lv' := [(4, .int (x4 + 1)), (0, .ref h), (2, .int x2), (3, .int x3)]) 3 (by decide +kernel) rfl (by decide) (by decide) rfl ?_
      refine wp_goto (off := -36) (tgt := 156) (by decide +kernel) (by decide) ?_
      exact wp_sub [1, 2, 3, 0] rfl H
    · rw [if_neg c2] at H
      refine wp_aload_n (z := 0) (i := 0) (r := (some h)) 0 (by decide +kernel) rfl rfl ?_
      refine wp_iload_n (z := 3) (i := 3) (x := x3) 2 (by decide +kernel) rfl rfl ?_
      refine wp_iload (i := 4) (x := x4) 3 (by decide +kernel) rfl ?_
      refine wp_callV (idx := 306) (B2 := B9_goesOnBy) (As := [.int x3, .int x4]) (a := h) (st := []) (by decide +kernel) m9_goesOnBy ml9_306 k9_goesOnBy e9_goesOnBy ck9 ok.1 (⟨Nat.le_of_ble_eq_true rfl, Nat.le_of_ble_eq_true rfl⟩ : rOK B9_code B9_goesOnBy) rfl (Nat.le_of_ble_eq_true rfl) (Nat.le_of_ble_eq_true rfl) ⟨Nat.le_of_ble_eq_true rfl, Nat.le_of_ble_eq_true rfl⟩ rfl (wp_mono H (fun v9 M9 hq9 => ?_))
      clear H
      obtain ⟨r5, I3, L4, rfl, rfl, H⟩ := hq9
      show wp X B9_code 184 [(0, .ref h), (2, .int x2), (3, .int x3), (4, .int x4)] [.int r5] (G, I3, L4) 0 0 _
      refine wp_if_eq (off := 5) (tgt := 189) (by decide +kernel) (by decide) (fun c6 => ?_) (fun c6 => ?_)
      · rw [if_pos c6] at H
        refine wp_iinc (i := 4) (z := 1) (v := 1) (lv' := [(4, .int (x4 + 1)), (0, .ref h), (2, .int x2), (3, .int x3)]) 3 (by decide +kernel) rfl (by decide) (by decide) rfl ?_
        refine wp_goto (off := -36) (tgt := 156) (by decide +kernel) (by decide) ?_
        exact wp_sub [1, 2, 3, 0] rfl H
      · rw [if_neg c6] at H
        refine wp_iconst (z := 1) (v := 1) (by decide +kernel) (by decide) ?_
        refine wp_istore_n (z := 2) (i := 2) (lv' := [(2, .int 1), (0, .ref h), (3, .int x3), (4, .int x4)]) (by decide +kernel) rfl (by decide) rfl ?_
        refine wp_iinc (i := 4) (z := 1) (v := 1) (lv' := [(4, .int (x4 + 1)), (2, .int 1), (0, .ref h), (3, .int x3)]) 3 (by decide +kernel) rfl (by decide) (by decide) rfl ?_
        refine wp_goto (off := -36) (tgt := 156) (by decide +kernel) (by decide) ?_
        exact wp_sub [2, 1, 3, 0] rfl H
/-! DeafWallModel.ways(II)J -/
set_option maxRecDepth 20000 in
theorem b9_ways {X : XX} {G : GG} {I : Nat → Nat → Int32} {L : Nat → Nat → Int64} {h : Nat} {x1 : Int32} {x2 : Int32} {Q : Int64 → (Nat → Nat → Int32) → (Nat → Nat → Int64) → Prop} (ok : OK9 G h) (H : wpI X B9_isWall 0 [(0, .ref h), (1, .int x1)] [] G I L (fun r3 I1 L2 => if r3 = (0 : Int32) then (Q (-1) I1 L2) else (if (v9_isIn x2 0 20) = (0 : Int32) then (Q (-1) I1 L2) else (wpJ X B9_ways 24 [(0, .ref h), (2, .int x2), (3, .int 0)] [] G I1 L2 Q)))) : wpJ X B9_ways 0 [(0, .ref h), (1, .int x1), (2, .int x2)] [] G I L Q := by
  refine wp_aload_n (z := 0) (i := 0) (r := (some h)) 0 (by decide +kernel) rfl rfl ?_
  refine wp_iload_n (z := 1) (i := 1) (x := x1) 1 (by decide +kernel) rfl rfl ?_
  refine wp_callV (idx := 196) (B2 := B9_isWall) (As := [.int x1]) (a := h) (st := []) (by decide +kernel) m9_isWall ml9_196 k9_isWall e9_isWall ck9 ok.1 (⟨Nat.le_of_ble_eq_true rfl, Nat.le_of_ble_eq_true rfl⟩ : rOK B9_ways B9_isWall) rfl (Nat.le_of_ble_eq_true rfl) (Nat.le_of_ble_eq_true rfl) ⟨Nat.le_of_ble_eq_true rfl, Nat.le_of_ble_eq_true rfl⟩ rfl (wp_mono H (fun v9 M9 hq9 => ?_))
  clear H
  obtain ⟨r3, I1, L2, rfl, rfl, H⟩ := hq9
  show wp X B9_ways 5 [(0, .ref h), (1, .int x1), (2, .int x2)] [.int r3] (G, I1, L2) 0 0 _
  refine wp_if_eq (off := 13) (tgt := 18) (by decide +kernel) (by decide) (fun c4 => ?_) (fun c4 => ?_)
  · rw [if_pos c4] at H
    refine wp_ldc2 (idx := 288) (v := (-1)) (by decide +kernel) (in_g (List.mem_of_getElem? (i := 1508) (by decide +kernel)) rfl) ?_
    exact wp_lret (by decide +kernel) rfl (Nat.zero_le _) (Nat.zero_le _) ⟨_, _, _, rfl, rfl, H⟩
  · rw [if_neg c4] at H
    refine wp_iload_n (z := 2) (i := 2) (x := x2) 2 (by decide +kernel) rfl rfl ?_
    refine wp_iconst (z := 0) (v := 0) (by decide +kernel) (by decide) ?_
    refine wp_bipush (z := 20) (v := 20) (by decide +kernel) (by decide) ?_
    refine wp_callS (idx := 121) (B2 := B9_isIn) (As := [.int x2, .int 0, .int 20]) (st := []) (by decide +kernel) m9_isIn ml9_121 k9_isIn (⟨Nat.le_of_ble_eq_true rfl, Nat.le_of_ble_eq_true rfl⟩ : rOK B9_ways B9_isIn) rfl (Nat.le_of_ble_eq_true rfl) (Nat.le_of_ble_eq_true rfl) ⟨Nat.le_of_ble_eq_true rfl, Nat.le_of_ble_eq_true rfl⟩ rfl (wp_mono (b9_isIn (Q := (fun r I' L' => r = (v9_isIn x2 0 20) ∧ I1 = I' ∧ L2 = L'))  ⟨rfl, rfl, rfl⟩) (fun v9 M9 hq9 => ?_))
    obtain ⟨_, _, _, rfl, rfl, rfl, rfl, rfl⟩ := hq9
    show wp X B9_ways 15 [(0, .ref h), (1, .int x1), (2, .int x2)] [.int (v9_isIn x2 0 20)] (G, I1, L2) 0 0 _
    refine wp_if_ne (off := 7) (tgt := 22) (by decide +kernel) (by decide) (fun c5 => ?_) (fun c5 => ?_)
    · rw [if_neg c5] at H
      refine wp_iconst (z := 0) (v := 0) (by decide +kernel) (by decide) ?_
      refine wp_istore_n (z := 3) (i := 3) (lv' := [(3, .int 0), (0, .ref h), (1, .int x1), (2, .int x2)]) (by decide +kernel) rfl (by decide) rfl ?_
      exact wp_sub [1, 3, 0] rfl H
    · rw [if_pos c5] at H
      refine wp_ldc2 (idx := 288) (v := (-1)) (by decide +kernel) (in_g (List.mem_of_getElem? (i := 1508) (by decide +kernel)) rfl) ?_
      exact wp_lret (by decide +kernel) rfl (Nat.zero_le _) (Nat.zero_le _) ⟨_, _, _, rfl, rfl, H⟩
set_option maxRecDepth 20000 in
theorem b9_ways_24 {X : XX} {G : GG} {I : Nat → Nat → Int32} {L : Nat → Nat → Int64} {h : Nat} {x2 : Int32} {x3 : Int32} {Q : Int64 → (Nat → Nat → Int32) → (Nat → Nat → Int64) → Prop} (ok : OK9 G h) (H : if x2 < x3 then (vp_in x2 31 ∧ (Q (L (h + 15) (cl x2)) I L)) else (if x3 = (0 : Int32) then (vp_in x3 31 ∧ (∀ L6, L6 = up2 L (h + 15) (cl x3) 1 → wpJ X B9_ways 47 [(0, .ref h), (2, .int x2), (3, .int x3), (4, .int 0)] [] G I L6 Q)) else (vp_in x3 31 ∧ (∀ L4, L4 = up2 L (h + 15) (cl x3) 0 → wpJ X B9_ways 47 [(0, .ref h), (2, .int x2), (3, .int x3), (4, .int 0)] [] G I L4 Q)))) : wpJ X B9_ways 24 [(0, .ref h), (2, .int x2), (3, .int x3)] [] G I L Q := by
  refine wp_iload_n (z := 3) (i := 3) (x := x3) 2 (by decide +kernel) rfl rfl ?_
  refine wp_iload_n (z := 2) (i := 2) (x := x2) 1 (by decide +kernel) rfl rfl ?_
  refine wp_icmp_gt (off := 78) (tgt := 104) (by decide +kernel) (by decide) (fun c1 => ?_) (fun c1 => ?_)
  · rw [if_pos c1] at H
    refine wp_aload_n (z := 0) (i := 0) (r := (some h)) 0 (by decide +kernel) rfl rfl ?_
    refine wp_getS (idx := 54) (q := (h + 15)) (by decide +kernel) fl9_54 rfl ok.1 (okr9_34 ok) ?_
    refine wp_iload_n (z := 2) (i := 2) (x := x2) 1 (by decide +kernel) rfl rfl ?_
    obtain ⟨o2, H⟩ := H
    refine wp_lald (j := (cl x2)) (by decide +kernel) (oks9_34 ok) o2 rfl ?_
    exact wp_lret (by decide +kernel) rfl (Nat.zero_le _) (Nat.zero_le _) ⟨_, _, _, rfl, rfl, H⟩
  · rw [if_neg c1] at H
    refine wp_aload_n (z := 0) (i := 0) (r := (some h)) 0 (by decide +kernel) rfl rfl ?_
    refine wp_getS (idx := 54) (q := (h + 15)) (by decide +kernel) fl9_54 rfl ok.1 (okr9_34 ok) ?_
    refine wp_iload_n (z := 3) (i := 3) (x := x3) 2 (by decide +kernel) rfl rfl ?_
    refine wp_iload_n (z := 3) (i := 3) (x := x3) 2 (by decide +kernel) rfl rfl ?_
    refine wp_if_ne (off := 7) (tgt := 42) (by decide +kernel) (by decide) (fun c3 => ?_) (fun c3 => ?_)
    · rw [if_neg c3] at H
      refine wp_lconst (z := 0) (v := 0) (by decide +kernel) (by decide) ?_
      obtain ⟨o5, H⟩ := H
      refine wp_last (j := (cl x3)) (by decide +kernel) (oks9_34 ok) o5 rfl ?_
      refine wp_memL (fun L4 eL4 => ?_)
      replace H := H L4 eL4
      refine wp_iconst (z := 0) (v := 0) (by decide +kernel) (by decide) ?_
      refine wp_istore (i := 4) (lv' := [(4, .int 0), (0, .ref h), (2, .int x2), (3, .int x3)]) (by decide +kernel) (by decide) rfl ?_
      exact wp_sub [1, 2, 3, 0] rfl H
    · rw [if_pos c3] at H
      refine wp_lconst (z := 1) (v := 1) (by decide +kernel) (by decide) ?_
      refine wp_goto (off := 4) (tgt := 43) (by decide +kernel) (by decide) ?_
      obtain ⟨o7, H⟩ := H
      refine wp_last (j := (cl x3)) (by decide +kernel) (oks9_34 ok) o7 rfl ?_
      refine wp_memL (fun L6 eL6 => ?_)
      replace H := H L6 eL6
      refine wp_iconst (z := 0) (v := 0) (by decide +kernel) (by decide) ?_
      refine wp_istore (i := 4) (lv' := [(4, .int 0), (0, .ref h), (2, .int x2), (3, .int x3)]) (by decide +kernel) (by decide) rfl ?_
      exact wp_sub [1, 2, 3, 0] rfl H
set_option maxRecDepth 20000 in
theorem b9_ways_47 {X : XX} {G : GG} {I : Nat → Nat → Int32} {L : Nat → Nat → Int64} {h : Nat} {x2 : Int32} {x3 : Int32} {x4 : Int32} {Q : Int64 → (Nat → Nat → Int32) → (Nat → Nat → Int64) → Prop} (ok : OK9 G h) (H : if (I h 16) ≤ x4 then (wpJ X B9_ways 24 [(0, .ref h), (2, .int x2), (3, .int (x3 + 1))] [] G I L Q) else (vp_in x3 31 ∧ (p9_longOf I h x4 ∧ (if x3 < (v9_longOf I h x4) then (vp_in x3 31 ∧ (∀ L3, L3 = up2 L (h + 15) (cl x3) ((L (h + 15) (cl x3)) + 0) → wpJ X B9_ways 47 [(0, .ref h), (2, .int x2), (3, .int x3), (4, .int (x4 + 1))] [] G I L3 Q)) else (p9_longOf I h x4 ∧ (vp_in (x3 - (v9_longOf I h x4)) 31 ∧ (vp_in x3 31 ∧ (∀ L5, L5 = up2 L (h + 15) (cl x3) ((L (h + 15) (cl x3)) + (L (h + 15) (cl (x3 - (v9_longOf I h x4))))) → wpJ X B9_ways 47 [(0, .ref h), (2, .int x2), (3, .int x3), (4, .int (x4 + 1))] [] G I L5 Q)))))))) : wpJ X B9_ways 47 [(0, .ref h), (2, .int x2), (3, .int x3), (4, .int x4)] [] G I L Q := by
  refine wp_iload (i := 4) (x := x4) 3 (by decide +kernel) rfl ?_
  refine wp_aload_n (z := 0) (i := 0) (r := (some h)) 0 (by decide +kernel) rfl rfl ?_
  refine wp_getI (idx := 193) (by decide +kernel) fl9_193 rfl ok.1 ?_
  refine wp_icmp_ge (off := 45) (tgt := 98) (by decide +kernel) (by decide) (fun c1 => ?_) (fun c1 => ?_)
  · rw [if_pos c1] at H
    refine wp_iinc (i := 3) (z := 1) (v := 1) (lv' := [(3, .int (x3 + 1)), (0, .ref h), (2, .int x2), (4, .int x4)]) 2 (by decide +kernel) rfl (by decide) (by decide) rfl ?_
    refine wp_goto (off := -77) (tgt := 24) (by decide +kernel) (by decide) ?_
    exact wp_sub [1, 2, 0] rfl H
  · rw [if_neg c1] at H
    refine wp_aload_n (z := 0) (i := 0) (r := (some h)) 0 (by decide +kernel) rfl rfl ?_
    refine wp_getS (idx := 54) (q := (h + 15)) (by decide +kernel) fl9_54 rfl ok.1 (okr9_34 ok) ?_
    refine wp_iload_n (z := 3) (i := 3) (x := x3) 2 (by decide +kernel) rfl rfl ?_
    refine wp_dup2 (by decide +kernel) rfl rfl ?_
    obtain ⟨o10, H⟩ := H
    refine wp_lald (j := (cl x3)) (by decide +kernel) (oks9_34 ok) o10 rfl ?_
    refine wp_aload_n (z := 0) (i := 0) (r := (some h)) 0 (by decide +kernel) rfl rfl ?_
    refine wp_iload (i := 4) (x := x4) 3 (by decide +kernel) rfl ?_
    obtain ⟨o9, H⟩ := H
    refine wp_callV (idx := 211) (B2 := B9_longOf) (As := [.int x4]) (a := h) (st := [.long (L (h + 15) (cl x3)), .int x3, .ref (h + 15)]) (by decide +kernel) m9_longOf ml9_211 k9_longOf e9_longOf ck9 ok.1 (⟨Nat.le_of_ble_eq_true rfl, Nat.le_of_ble_eq_true rfl⟩ : rOK B9_ways B9_longOf) rfl (Nat.le_of_ble_eq_true rfl) (Nat.le_of_ble_eq_true rfl) ⟨Nat.le_of_ble_eq_true rfl, Nat.le_of_ble_eq_true rfl⟩ rfl (wp_mono (b9_longOf (Q := (fun r I' L' => r = (v9_longOf I h x4) ∧ I = I' ∧ L = L')) ok o9 ⟨rfl, rfl, rfl⟩) (fun v9 M9 hq9 => ?_))
    obtain ⟨_, _, _, rfl, rfl, rfl, rfl, rfl⟩ := hq9
    show wp X B9_ways 69 [(0, .ref h), (2, .int x2), (3, .int x3), (4, .int x4)] [.int (v9_longOf I h x4), .long (L (h + 15) (cl x3)), .int x3, .ref (h + 15)] (G, I, L) 0 0 _
    refine wp_iload_n (z := 3) (i := 3) (x := x3) 2 (by decide +kernel) rfl rfl ?_
    refine wp_icmp_gt (off := 19) (tgt := 89) (by decide +kernel) (by decide) (fun c2 => ?_) (fun c2 => ?_)
    · rw [if_pos c2] at H
      refine wp_lconst (z := 0) (v := 0) (by decide +kernel) (by decide) ?_
      refine wp_ladd (by decide +kernel) ?_
      obtain ⟨o4, H⟩ := H
      refine wp_last (j := (cl x3)) (by decide +kernel) (oks9_34 ok) o4 rfl ?_
      refine wp_memL (fun L3 eL3 => ?_)
      replace H := H L3 eL3
      refine wp_iinc (i := 4) (z := 1) (v := 1) (lv' := [(4, .int (x4 + 1)), (0, .ref h), (2, .int x2), (3, .int x3)]) 3 (by decide +kernel) rfl (by decide) (by decide) rfl ?_
      refine wp_goto (off := -48) (tgt := 47) (by decide +kernel) (by decide) ?_
      exact wp_sub [1, 2, 3, 0] rfl H
    · rw [if_neg c2] at H
      refine wp_aload_n (z := 0) (i := 0) (r := (some h)) 0 (by decide +kernel) rfl rfl ?_
      refine wp_getS (idx := 54) (q := (h + 15)) (by decide +kernel) fl9_54 rfl ok.1 (okr9_34 ok) ?_
      refine wp_iload_n (z := 3) (i := 3) (x := x3) 2 (by decide +kernel) rfl rfl ?_
      refine wp_aload_n (z := 0) (i := 0) (r := (some h)) 0 (by decide +kernel) rfl rfl ?_
      refine wp_iload (i := 4) (x := x4) 3 (by decide +kernel) rfl ?_
      obtain ⟨o8, H⟩ := H
      refine wp_callV (idx := 211) (B2 := B9_longOf) (As := [.int x4]) (a := h) (st := [.int x3, .ref (h + 15), .long (L (h + 15) (cl x3)), .int x3, .ref (h + 15)]) (by decide +kernel) m9_longOf ml9_211 k9_longOf e9_longOf ck9 ok.1 (⟨Nat.le_of_ble_eq_true rfl, Nat.le_of_ble_eq_true rfl⟩ : rOK B9_ways B9_longOf) rfl (Nat.le_of_ble_eq_true rfl) (Nat.le_of_ble_eq_true rfl) ⟨Nat.le_of_ble_eq_true rfl, Nat.le_of_ble_eq_true rfl⟩ rfl (wp_mono (b9_longOf (Q := (fun r I' L' => r = (v9_longOf I h x4) ∧ I = I' ∧ L = L')) ok o8 ⟨rfl, rfl, rfl⟩) (fun v9 M9 hq9 => ?_))
      obtain ⟨_, _, _, rfl, rfl, rfl, rfl, rfl⟩ := hq9
      show wp X B9_ways 84 [(0, .ref h), (2, .int x2), (3, .int x3), (4, .int x4)] [.int (v9_longOf I h x4), .int x3, .ref (h + 15), .long (L (h + 15) (cl x3)), .int x3, .ref (h + 15)] (G, I, L) 0 0 _
      refine wp_isub (by decide +kernel) ?_
      obtain ⟨o7, H⟩ := H
      refine wp_lald (j := (cl (x3 - (v9_longOf I h x4)))) (by decide +kernel) (oks9_34 ok) o7 rfl ?_
      refine wp_goto (off := 4) (tgt := 90) (by decide +kernel) (by decide) ?_
      refine wp_ladd (by decide +kernel) ?_
      obtain ⟨o6, H⟩ := H
      refine wp_last (j := (cl x3)) (by decide +kernel) (oks9_34 ok) o6 rfl ?_
      refine wp_memL (fun L5 eL5 => ?_)
      replace H := H L5 eL5
      refine wp_iinc (i := 4) (z := 1) (v := 1) (lv' := [(4, .int (x4 + 1)), (0, .ref h), (2, .int x2), (3, .int x3)]) 3 (by decide +kernel) rfl (by decide) (by decide) rfl ?_
      refine wp_goto (off := -48) (tgt := 47) (by decide +kernel) (by decide) ?_
      exact wp_sub [1, 2, 3, 0] rfl H
/-! DeafWallModel.alikeFrom(IIII)I -/
set_option maxRecDepth 20000 in
theorem b9_alikeFrom {X : XX} {G : GG} {I : Nat → Nat → Int32} {L : Nat → Nat → Int64} {h : Nat} {x1 : Int32} {x2 : Int32} {x3 : Int32} {x4 : Int32} {Q : Int32 → (Nat → Nat → Int32) → (Nat → Nat → Int64) → Prop} (ok : OK9 G h) (H : wpI X B9_alikeFrom 3 [(0, .ref h), (1, .int x1), (2, .int x2), (3, .int x3), (4, .int x4), (5, .int 0)] [] G I L Q) : wpI X B9_alikeFrom 0 [(0, .ref h), (1, .int x1), (2, .int x2), (3, .int x3), (4, .int x4)] [] G I L Q := by
  refine wp_iconst (z := 0) (v := 0) (by decide +kernel) (by decide) ?_
  refine wp_istore (i := 5) (lv' := [(5, .int 0), (0, .ref h), (1, .int x1), (2, .int x2), (3, .int x3), (4, .int x4)]) (by decide +kernel) (by decide) rfl ?_
  exact wp_sub [1, 2, 3, 4, 5, 0] rfl H
set_option maxRecDepth 20000 in
theorem b9_alikeFrom_3 {X : XX} {G : GG} {I : Nat → Nat → Int32} {L : Nat → Nat → Int64} {h : Nat} {x1 : Int32} {x2 : Int32} {x3 : Int32} {x4 : Int32} {x5 : Int32} {Q : Int32 → (Nat → Nat → Int32) → (Nat → Nat → Int64) → Prop} (ok : OK9 G h) (H : p9_longOf I h x1 ∧ (if (v9_longOf I h x1) ≤ (x2 + x5) then (Q x5 I L) else (p9_longOf I h x3 ∧ (if (v9_longOf I h x3) ≤ (x4 + x5) then (Q x5 I L) else (p9_markOf I h x1 (x2 + x5) ∧ (p9_markOf I h x3 (x4 + x5) ∧ (if (v9_markOf I h x1 (x2 + x5)) = (v9_markOf I h x3 (x4 + x5)) then (wpI X B9_alikeFrom 3 [(0, .ref h), (1, .int x1), (2, .int x2), (3, .int x3), (4, .int x4), (5, .int (x5 + 1))] [] G I L Q) else (Q x5 I L)))))))) : wpI X B9_alikeFrom 3 [(0, .ref h), (1, .int x1), (2, .int x2), (3, .int x3), (4, .int x4), (5, .int x5)] [] G I L Q := by
  refine wp_iload_n (z := 2) (i := 2) (x := x2) 2 (by decide +kernel) rfl rfl ?_
  refine wp_iload (i := 5) (x := x5) 5 (by decide +kernel) rfl ?_
  refine wp_iadd (by decide +kernel) ?_
  refine wp_aload_n (z := 0) (i := 0) (r := (some h)) 0 (by decide +kernel) rfl rfl ?_
  refine wp_iload_n (z := 1) (i := 1) (x := x1) 1 (by decide +kernel) rfl rfl ?_
  obtain ⟨o7, H⟩ := H
  refine wp_callV (idx := 211) (B2 := B9_longOf) (As := [.int x1]) (a := h) (st := [.int (x2 + x5)]) (by decide +kernel) m9_longOf ml9_211 k9_longOf e9_longOf ck9 ok.1 (⟨Nat.le_of_ble_eq_true rfl, Nat.le_of_ble_eq_true rfl⟩ : rOK B9_alikeFrom B9_longOf) rfl (Nat.le_of_ble_eq_true rfl) (Nat.le_of_ble_eq_true rfl) ⟨Nat.le_of_ble_eq_true rfl, Nat.le_of_ble_eq_true rfl⟩ rfl (wp_mono (b9_longOf (Q := (fun r I' L' => r = (v9_longOf I h x1) ∧ I = I' ∧ L = L')) ok o7 ⟨rfl, rfl, rfl⟩) (fun v9 M9 hq9 => ?_))
  obtain ⟨_, _, _, rfl, rfl, rfl, rfl, rfl⟩ := hq9
  show wp X B9_alikeFrom 12 [(0, .ref h), (1, .int x1), (2, .int x2), (3, .int x3), (4, .int x4), (5, .int x5)] [.int (v9_longOf I h x1), .int (x2 + x5)] (G, I, L) 0 0 _
  refine wp_icmp_ge (off := 44) (tgt := 56) (by decide +kernel) (by decide) (fun c1 => ?_) (fun c1 => ?_)
  · rw [if_pos c1] at H
    refine wp_iload (i := 5) (x := x5) 5 (by decide +kernel) rfl ?_
    exact wp_iret (by decide +kernel) rfl (Nat.zero_le _) (Nat.zero_le _) ⟨_, _, _, rfl, rfl, H⟩
  · rw [if_neg c1] at H
    refine wp_iload (i := 4) (x := x4) 4 (by decide +kernel) rfl ?_
    refine wp_iload (i := 5) (x := x5) 5 (by decide +kernel) rfl ?_
    refine wp_iadd (by decide +kernel) ?_
    refine wp_aload_n (z := 0) (i := 0) (r := (some h)) 0 (by decide +kernel) rfl rfl ?_
    refine wp_iload_n (z := 3) (i := 3) (x := x3) 3 (by decide +kernel) rfl rfl ?_
    obtain ⟨o6, H⟩ := H
    refine wp_callV (idx := 211) (B2 := B9_longOf) (As := [.int x3]) (a := h) (st := [.int (x4 + x5)]) (by decide +kernel) m9_longOf ml9_211 k9_longOf e9_longOf ck9 ok.1 (⟨Nat.le_of_ble_eq_true rfl, Nat.le_of_ble_eq_true rfl⟩ : rOK B9_alikeFrom B9_longOf) rfl (Nat.le_of_ble_eq_true rfl) (Nat.le_of_ble_eq_true rfl) ⟨Nat.le_of_ble_eq_true rfl, Nat.le_of_ble_eq_true rfl⟩ rfl (wp_mono (b9_longOf (Q := (fun r I' L' => r = (v9_longOf I h x3) ∧ I = I' ∧ L = L')) ok o6 ⟨rfl, rfl, rfl⟩) (fun v9 M9 hq9 => ?_))
    obtain ⟨_, _, _, rfl, rfl, rfl, rfl, rfl⟩ := hq9
    show wp X B9_alikeFrom 25 [(0, .ref h), (1, .int x1), (2, .int x2), (3, .int x3), (4, .int x4), (5, .int x5)] [.int (v9_longOf I h x3), .int (x4 + x5)] (G, I, L) 0 0 _
    refine wp_icmp_ge (off := 31) (tgt := 56) (by decide +kernel) (by decide) (fun c2 => ?_) (fun c2 => ?_)
    · rw [if_pos c2] at H
      refine wp_iload (i := 5) (x := x5) 5 (by decide +kernel) rfl ?_
      exact wp_iret (by decide +kernel) rfl (Nat.zero_le _) (Nat.zero_le _) ⟨_, _, _, rfl, rfl, H⟩
    · rw [if_neg c2] at H
      refine wp_aload_n (z := 0) (i := 0) (r := (some h)) 0 (by decide +kernel) rfl rfl ?_
      refine wp_iload_n (z := 1) (i := 1) (x := x1) 1 (by decide +kernel) rfl rfl ?_
      refine wp_iload_n (z := 2) (i := 2) (x := x2) 2 (by decide +kernel) rfl rfl ?_
      refine wp_iload (i := 5) (x := x5) 5 (by decide +kernel) rfl ?_
      refine wp_iadd (by decide +kernel) ?_
      obtain ⟨o5, H⟩ := H
      refine wp_callV (idx := 241) (B2 := B9_markOf) (As := [.int x1, .int (x2 + x5)]) (a := h) (st := []) (by decide +kernel) m9_markOf ml9_241 k9_markOf e9_markOf ck9 ok.1 (⟨Nat.le_of_ble_eq_true rfl, Nat.le_of_ble_eq_true rfl⟩ : rOK B9_alikeFrom B9_markOf) rfl (Nat.le_of_ble_eq_true rfl) (Nat.le_of_ble_eq_true rfl) ⟨Nat.le_of_ble_eq_true rfl, Nat.le_of_ble_eq_true rfl⟩ rfl (wp_mono (b9_markOf (Q := (fun r I' L' => r = (v9_markOf I h x1 (x2 + x5)) ∧ I = I' ∧ L = L')) ok o5 ⟨rfl, rfl, rfl⟩) (fun v9 M9 hq9 => ?_))
      obtain ⟨_, _, _, rfl, rfl, rfl, rfl, rfl⟩ := hq9
      show wp X B9_alikeFrom 37 [(0, .ref h), (1, .int x1), (2, .int x2), (3, .int x3), (4, .int x4), (5, .int x5)] [.int (v9_markOf I h x1 (x2 + x5))] (G, I, L) 0 0 _
      refine wp_aload_n (z := 0) (i := 0) (r := (some h)) 0 (by decide +kernel) rfl rfl ?_
      refine wp_iload_n (z := 3) (i := 3) (x := x3) 3 (by decide +kernel) rfl rfl ?_
      refine wp_iload (i := 4) (x := x4) 4 (by decide +kernel) rfl ?_
      refine wp_iload (i := 5) (x := x5) 5 (by decide +kernel) rfl ?_
      refine wp_iadd (by decide +kernel) ?_
      obtain ⟨o4, H⟩ := H
      refine wp_callV (idx := 241) (B2 := B9_markOf) (As := [.int x3, .int (x4 + x5)]) (a := h) (st := [.int (v9_markOf I h x1 (x2 + x5))]) (by decide +kernel) m9_markOf ml9_241 k9_markOf e9_markOf ck9 ok.1 (⟨Nat.le_of_ble_eq_true rfl, Nat.le_of_ble_eq_true rfl⟩ : rOK B9_alikeFrom B9_markOf) rfl (Nat.le_of_ble_eq_true rfl) (Nat.le_of_ble_eq_true rfl) ⟨Nat.le_of_ble_eq_true rfl, Nat.le_of_ble_eq_true rfl⟩ rfl (wp_mono (b9_markOf (Q := (fun r I' L' => r = (v9_markOf I h x3 (x4 + x5)) ∧ I = I' ∧ L = L')) ok o4 ⟨rfl, rfl, rfl⟩) (fun v9 M9 hq9 => ?_))
      obtain ⟨_, _, _, rfl, rfl, rfl, rfl, rfl⟩ := hq9
      show wp X B9_alikeFrom 47 [(0, .ref h), (1, .int x1), (2, .int x2), (3, .int x3), (4, .int x4), (5, .int x5)] [.int (v9_markOf I h x3 (x4 + x5)), .int (v9_markOf I h x1 (x2 + x5))] (G, I, L) 0 0 _
      refine wp_icmp_ne (off := 9) (tgt := 56) (by decide +kernel) (by decide) (fun c3 => ?_) (fun c3 => ?_)
      · rw [if_neg c3] at H
        refine wp_iload (i := 5) (x := x5) 5 (by decide +kernel) rfl ?_
        exact wp_iret (by decide +kernel) rfl (Nat.zero_le _) (Nat.zero_le _) ⟨_, _, _, rfl, rfl, H⟩
      · rw [if_pos c3] at H
        refine wp_iinc (i := 5) (z := 1) (v := 1) (lv' := [(5, .int (x5 + 1)), (0, .ref h), (1, .int x1), (2, .int x2), (3, .int x3), (4, .int x4)]) 5 (by decide +kernel) rfl (by decide) (by decide) rfl ?_
        refine wp_goto (off := -50) (tgt := 3) (by decide +kernel) (by decide) ?_
        exact wp_sub [1, 2, 3, 4, 5, 0] rfl H
/-! DeafWallModel.rhymeOf(II)I -/
set_option maxRecDepth 20000 in
theorem b9_rhymeOf {X : XX} {G : GG} {I : Nat → Nat → Int32} {L : Nat → Nat → Int64} {h : Nat} {x1 : Int32} {x2 : Int32} {Q : Int32 → (Nat → Nat → Int32) → (Nat → Nat → Int64) → Prop} (ok : OK9 G h) (H : wpI X B9_rhymeOf 2 [(0, .ref h), (1, .int x1), (2, .int x2), (3, .int 0)] [] G I L Q) : wpI X B9_rhymeOf 0 [(0, .ref h), (1, .int x1), (2, .int x2)] [] G I L Q := by
  refine wp_iconst (z := 0) (v := 0) (by decide +kernel) (by decide) ?_
  refine wp_istore_n (z := 3) (i := 3) (lv' := [(3, .int 0), (0, .ref h), (1, .int x1), (2, .int x2)]) (by decide +kernel) rfl (by decide) rfl ?_
  exact wp_sub [1, 2, 3, 0] rfl H
set_option maxRecDepth 20000 in
theorem b9_rhymeOf_2 {X : XX} {G : GG} {I : Nat → Nat → Int32} {L : Nat → Nat → Int64} {h : Nat} {x1 : Int32} {x2 : Int32} {x3 : Int32} {Q : Int32 → (Nat → Nat → Int32) → (Nat → Nat → Int64) → Prop} (ok : OK9 G h) (H : p9_longOf I h x1 ∧ (if (v9_longOf I h x1) ≤ x3 then (Q x3 I L) else (p9_longOf I h x2 ∧ (if (v9_longOf I h x2) ≤ x3 then (Q x3 I L) else (p9_longOf I h x1 ∧ (p9_markOf I h x1 (((v9_longOf I h x1) - 1) - x3) ∧ (p9_longOf I h x2 ∧ (p9_markOf I h x2 (((v9_longOf I h x2) - 1) - x3) ∧ (if (v9_markOf I h x1 (((v9_longOf I h x1) - 1) - x3)) = (v9_markOf I h x2 (((v9_longOf I h x2) - 1) - x3)) then (wpI X B9_rhymeOf 2 [(0, .ref h), (1, .int x1), (2, .int x2), (3, .int (x3 + 1))] [] G I L Q) else (Q x3 I L)))))))))) : wpI X B9_rhymeOf 2 [(0, .ref h), (1, .int x1), (2, .int x2), (3, .int x3)] [] G I L Q := by
  refine wp_iload_n (z := 3) (i := 3) (x := x3) 3 (by decide +kernel) rfl rfl ?_
  refine wp_aload_n (z := 0) (i := 0) (r := (some h)) 0 (by decide +kernel) rfl rfl ?_
  refine wp_iload_n (z := 1) (i := 1) (x := x1) 1 (by decide +kernel) rfl rfl ?_
  obtain ⟨o9, H⟩ := H
  refine wp_callV (idx := 211) (B2 := B9_longOf) (As := [.int x1]) (a := h) (st := [.int x3]) (by decide +kernel) m9_longOf ml9_211 k9_longOf e9_longOf ck9 ok.1 (⟨Nat.le_of_ble_eq_true rfl, Nat.le_of_ble_eq_true rfl⟩ : rOK B9_rhymeOf B9_longOf) rfl (Nat.le_of_ble_eq_true rfl) (Nat.le_of_ble_eq_true rfl) ⟨Nat.le_of_ble_eq_true rfl, Nat.le_of_ble_eq_true rfl⟩ rfl (wp_mono (b9_longOf (Q := (fun r I' L' => r = (v9_longOf I h x1) ∧ I = I' ∧ L = L')) ok o9 ⟨rfl, rfl, rfl⟩) (fun v9 M9 hq9 => ?_))
  obtain ⟨_, _, _, rfl, rfl, rfl, rfl, rfl⟩ := hq9
  show wp X B9_rhymeOf 8 [(0, .ref h), (1, .int x1), (2, .int x2), (3, .int x3)] [.int (v9_longOf I h x1), .int x3] (G, I, L) 0 0 _
  refine wp_icmp_ge (off := 49) (tgt := 57) (by decide +kernel) (by decide) (fun c1 => ?_) (fun c1 => ?_)
  · rw [if_pos c1] at H
    refine wp_iload_n (z := 3) (i := 3) (x := x3) 3 (by decide +kernel) rfl rfl ?_
    exact wp_iret (by decide +kernel) rfl (Nat.zero_le _) (Nat.zero_le _) ⟨_, _, _, rfl, rfl, H⟩
  · rw [if_neg c1] at H
    refine wp_iload_n (z := 3) (i := 3) (x := x3) 3 (by decide +kernel) rfl rfl ?_
    refine wp_aload_n (z := 0) (i := 0) (r := (some h)) 0 (by decide +kernel) rfl rfl ?_
    refine wp_iload_n (z := 2) (i := 2) (x := x2) 2 (by decide +kernel) rfl rfl ?_
    obtain ⟨o8, H⟩ := H
    refine wp_callV (idx := 211) (B2 := B9_longOf) (As := [.int x2]) (a := h) (st := [.int x3]) (by decide +kernel) m9_longOf ml9_211 k9_longOf e9_longOf ck9 ok.1 (⟨Nat.le_of_ble_eq_true rfl, Nat.le_of_ble_eq_true rfl⟩ : rOK B9_rhymeOf B9_longOf) rfl (Nat.le_of_ble_eq_true rfl) (Nat.le_of_ble_eq_true rfl) ⟨Nat.le_of_ble_eq_true rfl, Nat.le_of_ble_eq_true rfl⟩ rfl (wp_mono (b9_longOf (Q := (fun r I' L' => r = (v9_longOf I h x2) ∧ I = I' ∧ L = L')) ok o8 ⟨rfl, rfl, rfl⟩) (fun v9 M9 hq9 => ?_))
    obtain ⟨_, _, _, rfl, rfl, rfl, rfl, rfl⟩ := hq9
    show wp X B9_rhymeOf 17 [(0, .ref h), (1, .int x1), (2, .int x2), (3, .int x3)] [.int (v9_longOf I h x2), .int x3] (G, I, L) 0 0 _
    refine wp_icmp_ge (off := 40) (tgt := 57) (by decide +kernel) (by decide) (fun c2 => ?_) (fun c2 => ?_)
    · rw [if_pos c2] at H
      refine wp_iload_n (z := 3) (i := 3) (x := x3) 3 (by decide +kernel) rfl rfl ?_
      exact wp_iret (by decide +kernel) rfl (Nat.zero_le _) (Nat.zero_le _) ⟨_, _, _, rfl, rfl, H⟩
    · rw [if_neg c2] at H
      refine wp_aload_n (z := 0) (i := 0) (r := (some h)) 0 (by decide +kernel) rfl rfl ?_
      refine wp_iload_n (z := 1) (i := 1) (x := x1) 1 (by decide +kernel) rfl rfl ?_
      refine wp_aload_n (z := 0) (i := 0) (r := (some h)) 0 (by decide +kernel) rfl rfl ?_
      refine wp_iload_n (z := 1) (i := 1) (x := x1) 1 (by decide +kernel) rfl rfl ?_
      obtain ⟨o7, H⟩ := H
      refine wp_callV (idx := 211) (B2 := B9_longOf) (As := [.int x1]) (a := h) (st := [.int x1, .ref h]) (by decide +kernel) m9_longOf ml9_211 k9_longOf e9_longOf ck9 ok.1 (⟨Nat.le_of_ble_eq_true rfl, Nat.le_of_ble_eq_true rfl⟩ : rOK B9_rhymeOf B9_longOf) rfl (Nat.le_of_ble_eq_true rfl) (Nat.le_of_ble_eq_true rfl) ⟨Nat.le_of_ble_eq_true rfl, Nat.le_of_ble_eq_true rfl⟩ rfl (wp_mono (b9_longOf (Q := (fun r I' L' => r = (v9_longOf I h x1) ∧ I = I' ∧ L = L')) ok o7 ⟨rfl, rfl, rfl⟩) (fun v9 M9 hq9 => ?_))
      obtain ⟨_, _, _, rfl, rfl, rfl, rfl, rfl⟩ := hq9
      show wp X B9_rhymeOf 27 [(0, .ref h), (1, .int x1), (2, .int x2), (3, .int x3)] [.int (v9_longOf I h x1), .int x1, .ref h] (G, I, L) 0 0 _
      refine wp_iconst (z := 1) (v := 1) (by decide +kernel) (by decide) ?_
      refine wp_isub (by decide +kernel) ?_
      refine wp_iload_n (z := 3) (i := 3) (x := x3) 3 (by decide +kernel) rfl rfl ?_
      refine wp_isub (by decide +kernel) ?_
      obtain ⟨o6, H⟩ := H
      refine wp_callV (idx := 241) (B2 := B9_markOf) (As := [.int x1, .int (((v9_longOf I h x1) - 1) - x3)]) (a := h) (st := []) (by decide +kernel) m9_markOf ml9_241 k9_markOf e9_markOf ck9 ok.1 (⟨Nat.le_of_ble_eq_true rfl, Nat.le_of_ble_eq_true rfl⟩ : rOK B9_rhymeOf B9_markOf) rfl (Nat.le_of_ble_eq_true rfl) (Nat.le_of_ble_eq_true rfl) ⟨Nat.le_of_ble_eq_true rfl, Nat.le_of_ble_eq_true rfl⟩ rfl (wp_mono (b9_markOf (Q := (fun r I' L' => r = (v9_markOf I h x1 (((v9_longOf I h x1) - 1) - x3)) ∧ I = I' ∧ L = L')) ok o6 ⟨rfl, rfl, rfl⟩) (fun v9 M9 hq9 => ?_))
      obtain ⟨_, _, _, rfl, rfl, rfl, rfl, rfl⟩ := hq9
      show wp X B9_rhymeOf 34 [(0, .ref h), (1, .int x1), (2, .int x2), (3, .int x3)] [.int (v9_markOf I h x1 (((v9_longOf I h x1) - 1) - x3))] (G, I, L) 0 0 _
      refine wp_aload_n (z := 0) (i := 0) (r := (some h)) 0 (by decide +kernel) rfl rfl ?_
      refine wp_iload_n (z := 2) (i := 2) (x := x2) 2 (by decide +kernel) rfl rfl ?_
      refine wp_aload_n (z := 0) (i := 0) (r := (some h)) 0 (by decide +kernel) rfl rfl ?_
      refine wp_iload_n (z := 2) (i := 2) (x := x2) 2 (by decide +kernel) rfl rfl ?_
      obtain ⟨o5, H⟩ := H
      refine wp_callV (idx := 211) (B2 := B9_longOf) (As := [.int x2]) (a := h) (st := [.int x2, .ref h, .int (v9_markOf I h x1 (((v9_longOf I h x1) - 1) - x3))]) (by decide +kernel) m9_longOf ml9_211 k9_longOf e9_longOf ck9 ok.1 (⟨Nat.le_of_ble_eq_true rfl, Nat.le_of_ble_eq_true rfl⟩ : rOK B9_rhymeOf B9_longOf) rfl (Nat.le_of_ble_eq_true rfl) (Nat.le_of_ble_eq_true rfl) ⟨Nat.le_of_ble_eq_true rfl, Nat.le_of_ble_eq_true rfl⟩ rfl (wp_mono (b9_longOf (Q := (fun r I' L' => r = (v9_longOf I h x2) ∧ I = I' ∧ L = L')) ok o5 ⟨rfl, rfl, rfl⟩) (fun v9 M9 hq9 => ?_))
      obtain ⟨_, _, _, rfl, rfl, rfl, rfl, rfl⟩ := hq9
      show wp X B9_rhymeOf 41 [(0, .ref h), (1, .int x1), (2, .int x2), (3, .int x3)] [.int (v9_longOf I h x2), .int x2, .ref h, .int (v9_markOf I h x1 (((v9_longOf I h x1) - 1) - x3))] (G, I, L) 0 0 _
      refine wp_iconst (z := 1) (v := 1) (by decide +kernel) (by decide) ?_
      refine wp_isub (by decide +kernel) ?_
      refine wp_iload_n (z := 3) (i := 3) (x := x3) 3 (by decide +kernel) rfl rfl ?_
      refine wp_isub (by decide +kernel) ?_
      obtain ⟨o4, H⟩ := H
      refine wp_callV (idx := 241) (B2 := B9_markOf) (As := [.int x2, .int (((v9_longOf I h x2) - 1) - x3)]) (a := h) (st := [.int (v9_markOf I h x1 (((v9_longOf I h x1) - 1) - x3))]) (by decide +kernel) m9_markOf ml9_241 k9_markOf e9_markOf ck9 ok.1 (⟨Nat.le_of_ble_eq_true rfl, Nat.le_of_ble_eq_true rfl⟩ : rOK B9_rhymeOf B9_markOf) rfl (Nat.le_of_ble_eq_true rfl) (Nat.le_of_ble_eq_true rfl) ⟨Nat.le_of_ble_eq_true rfl, Nat.le_of_ble_eq_true rfl⟩ rfl (wp_mono (b9_markOf (Q := (fun r I' L' => r = (v9_markOf I h x2 (((v9_longOf I h x2) - 1) - x3)) ∧ I = I' ∧ L = L')) ok o4 ⟨rfl, rfl, rfl⟩) (fun v9 M9 hq9 => ?_))
      obtain ⟨_, _, _, rfl, rfl, rfl, rfl, rfl⟩ := hq9
      show wp X B9_rhymeOf 48 [(0, .ref h), (1, .int x1), (2, .int x2), (3, .int x3)] [.int (v9_markOf I h x2 (((v9_longOf I h x2) - 1) - x3)), .int (v9_markOf I h x1 (((v9_longOf I h x1) - 1) - x3))] (G, I, L) 0 0 _
      refine wp_icmp_ne (off := 9) (tgt := 57) (by decide +kernel) (by decide) (fun c3 => ?_) (fun c3 => ?_)
      · rw [if_neg c3] at H
        refine wp_iload_n (z := 3) (i := 3) (x := x3) 3 (by decide +kernel) rfl rfl ?_
        exact wp_iret (by decide +kernel) rfl (Nat.zero_le _) (Nat.zero_le _) ⟨_, _, _, rfl, rfl, H⟩
      · rw [if_pos c3] at H
        refine wp_iinc (i := 3) (z := 1) (v := 1) (lv' := [(3, .int (x3 + 1)), (0, .ref h), (1, .int x1), (2, .int x2)]) 3 (by decide +kernel) rfl (by decide) (by decide) rfl ?_
        refine wp_goto (off := -52) (tgt := 2) (by decide +kernel) (by decide) ?_
        exact wp_sub [1, 2, 3, 0] rfl H
/-! DeafWallModel.echoOf(II)I -/
set_option maxRecDepth 20000 in
theorem b9_echoOf {X : XX} {G : GG} {I : Nat → Nat → Int32} {L : Nat → Nat → Int64} {h : Nat} {x1 : Int32} {x2 : Int32} {Q : Int32 → (Nat → Nat → Int32) → (Nat → Nat → Int64) → Prop} (ok : OK9 G h) (H : wpI X B9_echoOf 5 [(0, .ref h), (1, .int x1), (2, .int x2), (3, .int 0), (4, .int 0)] [] G I L Q) : wpI X B9_echoOf 0 [(0, .ref h), (1, .int x1), (2, .int x2)] [] G I L Q := by
  refine wp_iconst (z := 0) (v := 0) (by decide +kernel) (by decide) ?_
  refine wp_istore_n (z := 3) (i := 3) (lv' := [(3, .int 0), (0, .ref h), (1, .int x1), (2, .int x2)]) (by decide +kernel) rfl (by decide) rfl ?_
  refine wp_iconst (z := 0) (v := 0) (by decide +kernel) (by decide) ?_
  refine wp_istore (i := 4) (lv' := [(4, .int 0), (3, .int 0), (0, .ref h), (1, .int x1), (2, .int x2)]) (by decide +kernel) (by decide) rfl ?_
  exact wp_sub [2, 3, 4, 1, 0] rfl H
set_option maxRecDepth 20000 in
theorem b9_echoOf_5 {X : XX} {G : GG} {I : Nat → Nat → Int32} {L : Nat → Nat → Int64} {h : Nat} {x1 : Int32} {x2 : Int32} {x3 : Int32} {x4 : Int32} {Q : Int32 → (Nat → Nat → Int32) → (Nat → Nat → Int64) → Prop} (ok : OK9 G h) (H : p9_longOf I h x1 ∧ (if (v9_longOf I h x1) ≤ x4 then (Q x3 I L) else (wpI X B9_echoOf 18 [(0, .ref h), (1, .int x1), (2, .int x2), (3, .int x3), (4, .int x4), (5, .int 0)] [] G I L Q))) : wpI X B9_echoOf 5 [(0, .ref h), (1, .int x1), (2, .int x2), (3, .int x3), (4, .int x4)] [] G I L Q := by
  refine wp_iload (i := 4) (x := x4) 4 (by decide +kernel) rfl ?_
  refine wp_aload_n (z := 0) (i := 0) (r := (some h)) 0 (by decide +kernel) rfl rfl ?_
  refine wp_iload_n (z := 1) (i := 1) (x := x1) 1 (by decide +kernel) rfl rfl ?_
  obtain ⟨o2, H⟩ := H
  refine wp_callV (idx := 211) (B2 := B9_longOf) (As := [.int x1]) (a := h) (st := [.int x4]) (by decide +kernel) m9_longOf ml9_211 k9_longOf e9_longOf ck9 ok.1 (⟨Nat.le_of_ble_eq_true rfl, Nat.le_of_ble_eq_true rfl⟩ : rOK B9_echoOf B9_longOf) rfl (Nat.le_of_ble_eq_true rfl) (Nat.le_of_ble_eq_true rfl) ⟨Nat.le_of_ble_eq_true rfl, Nat.le_of_ble_eq_true rfl⟩ rfl (wp_mono (b9_longOf (Q := (fun r I' L' => r = (v9_longOf I h x1) ∧ I = I' ∧ L = L')) ok o2 ⟨rfl, rfl, rfl⟩) (fun v9 M9 hq9 => ?_))
  obtain ⟨_, _, _, rfl, rfl, rfl, rfl, rfl⟩ := hq9
  show wp X B9_echoOf 12 [(0, .ref h), (1, .int x1), (2, .int x2), (3, .int x3), (4, .int x4)] [.int (v9_longOf I h x1), .int x4] (G, I, L) 0 0 _
  refine wp_icmp_ge (off := 57) (tgt := 69) (by decide +kernel) (by decide) (fun c1 => ?_) (fun c1 => ?_)
  · rw [if_pos c1] at H
    refine wp_iload_n (z := 3) (i := 3) (x := x3) 3 (by decide +kernel) rfl rfl ?_
    exact wp_iret (by decide +kernel) rfl (Nat.zero_le _) (Nat.zero_le _) ⟨_, _, _, rfl, rfl, H⟩
  · rw [if_neg c1] at H
    refine wp_iconst (z := 0) (v := 0) (by decide +kernel) (by decide) ?_
    refine wp_istore (i := 5) (lv' := [(5, .int 0), (0, .ref h), (1, .int x1), (2, .int x2), (3, .int x3), (4, .int x4)]) (by decide +kernel) (by decide) rfl ?_
    exact wp_sub [1, 2, 3, 4, 5, 0] rfl H
set_option maxRecDepth 20000 in
theorem b9_echoOf_18 {X : XX} {G : GG} {I : Nat → Nat → Int32} {L : Nat → Nat → Int64} {h : Nat} {x1 : Int32} {x2 : Int32} {x3 : Int32} {x4 : Int32} {x5 : Int32} {Q : Int32 → (Nat → Nat → Int32) → (Nat → Nat → Int64) → Prop} (ok : OK9 G h) (H : p9_longOf I h x2 ∧ (if (v9_longOf I h x2) ≤ x5 then (wpI X B9_echoOf 5 [(0, .ref h), (1, .int x1), (2, .int x2), (3, .int x3), (4, .int (x4 + 1))] [] G I L Q) else (wpI X B9_alikeFrom 0 [(0, .ref h), (1, .int x1), (2, .int x4), (3, .int x2), (4, .int x5)] [] G I L (fun r4 I2 L3 => if r4 ≤ x3 then (wpI X B9_echoOf 18 [(0, .ref h), (1, .int x1), (2, .int x2), (3, .int x3), (4, .int x4), (5, .int (x5 + 1))] [] G I2 L3 Q) else (wpI X B9_alikeFrom 0 [(0, .ref h), (1, .int x1), (2, .int x4), (3, .int x2), (4, .int x5)] [] G I2 L3 (fun r8 I6 L7 => wpI X B9_echoOf 18 [(0, .ref h), (1, .int x1), (2, .int x2), (3, .int r8), (4, .int x4), (5, .int (x5 + 1))] [] G I6 L7 Q)))))) : wpI X B9_echoOf 18 [(0, .ref h), (1, .int x1), (2, .int x2), (3, .int x3), (4, .int x4), (5, .int x5)] [] G I L Q := by
  refine wp_iload (i := 5) (x := x5) 5 (by decide +kernel) rfl ?_
  refine wp_aload_n (z := 0) (i := 0) (r := (some h)) 0 (by decide +kernel) rfl rfl ?_
  refine wp_iload_n (z := 2) (i := 2) (x := x2) 2 (by decide +kernel) rfl rfl ?_
  obtain ⟨o9, H⟩ := H
  refine wp_callV (idx := 211) (B2 := B9_longOf) (As := [.int x2]) (a := h) (st := [.int x5]) (by decide +kernel) m9_longOf ml9_211 k9_longOf e9_longOf ck9 ok.1 (⟨Nat.le_of_ble_eq_true rfl, Nat.le_of_ble_eq_true rfl⟩ : rOK B9_echoOf B9_longOf) rfl (Nat.le_of_ble_eq_true rfl) (Nat.le_of_ble_eq_true rfl) ⟨Nat.le_of_ble_eq_true rfl, Nat.le_of_ble_eq_true rfl⟩ rfl (wp_mono (b9_longOf (Q := (fun r I' L' => r = (v9_longOf I h x2) ∧ I = I' ∧ L = L')) ok o9 ⟨rfl, rfl, rfl⟩) (fun v9 M9 hq9 => ?_))
  obtain ⟨_, _, _, rfl, rfl, rfl, rfl, rfl⟩ := hq9
  show wp X B9_echoOf 25 [(0, .ref h), (1, .int x1), (2, .int x2), (3, .int x3), (4, .int x4), (5, .int x5)] [.int (v9_longOf I h x2), .int x5] (G, I, L) 0 0 _
  refine wp_icmp_ge (off := 38) (tgt := 63) (by decide +kernel) (by decide) (fun c1 => ?_) (fun c1 => ?_)
  · rw [if_pos c1] at H
    refine wp_iinc (i := 4) (z := 1) (v := 1) (lv' := [(4, .int (x4 + 1)), (0, .ref h), (1, .int x1), (2, .int x2), (3, .int x3), (5, .int x5)]) 4 (by decide +kernel) rfl (by decide) (by decide) rfl ?_
    refine wp_goto (off := -61) (tgt := 5) (by decide +kernel) (by decide) ?_
    exact wp_sub [1, 2, 3, 4, 0] rfl H
  · rw [if_neg c1] at H
    refine wp_aload_n (z := 0) (i := 0) (r := (some h)) 0 (by decide +kernel) rfl rfl ?_
    refine wp_iload_n (z := 1) (i := 1) (x := x1) 1 (by decide +kernel) rfl rfl ?_
    refine wp_iload (i := 4) (x := x4) 4 (by decide +kernel) rfl ?_
    refine wp_iload_n (z := 2) (i := 2) (x := x2) 2 (by decide +kernel) rfl rfl ?_
    refine wp_iload (i := 5) (x := x5) 5 (by decide +kernel) rfl ?_
    refine wp_callV (idx := 309) (B2 := B9_alikeFrom) (As := [.int x1, .int x4, .int x2, .int x5]) (a := h) (st := []) (by decide +kernel) m9_alikeFrom ml9_309 k9_alikeFrom e9_alikeFrom ck9 ok.1 (⟨Nat.le_of_ble_eq_true rfl, Nat.le_of_ble_eq_true rfl⟩ : rOK B9_echoOf B9_alikeFrom) rfl (Nat.le_of_ble_eq_true rfl) (Nat.le_of_ble_eq_true rfl) ⟨Nat.le_of_ble_eq_true rfl, Nat.le_of_ble_eq_true rfl⟩ rfl (wp_mono H (fun v9 M9 hq9 => ?_))
    clear H
    obtain ⟨r4, I2, L3, rfl, rfl, H⟩ := hq9
    show wp X B9_echoOf 38 [(0, .ref h), (1, .int x1), (2, .int x2), (3, .int x3), (4, .int x4), (5, .int x5)] [.int r4] (G, I2, L3) 0 0 _
    refine wp_iload_n (z := 3) (i := 3) (x := x3) 3 (by decide +kernel) rfl rfl ?_
    refine wp_icmp_le (off := 16) (tgt := 55) (by decide +kernel) (by decide) (fun c5 => ?_) (fun c5 => ?_)
    · rw [if_pos c5] at H
      refine wp_iload_n (z := 3) (i := 3) (x := x3) 3 (by decide +kernel) rfl rfl ?_
      refine wp_istore_n (z := 3) (i := 3) (lv' := [(3, .int x3), (0, .ref h), (1, .int x1), (2, .int x2), (4, .int x4), (5, .int x5)]) (by decide +kernel) rfl (by decide) rfl ?_
      refine wp_iinc (i := 5) (z := 1) (v := 1) (lv' := [(5, .int (x5 + 1)), (3, .int x3), (0, .ref h), (1, .int x1), (2, .int x2), (4, .int x4)]) 5 (by decide +kernel) rfl (by decide) (by decide) rfl ?_
      refine wp_goto (off := -42) (tgt := 18) (by decide +kernel) (by decide) ?_
      exact wp_sub [2, 3, 4, 1, 5, 0] rfl H
    · rw [if_neg c5] at H
      refine wp_aload_n (z := 0) (i := 0) (r := (some h)) 0 (by decide +kernel) rfl rfl ?_
      refine wp_iload_n (z := 1) (i := 1) (x := x1) 1 (by decide +kernel) rfl rfl ?_
      refine wp_iload (i := 4) (x := x4) 4 (by decide +kernel) rfl ?_
      refine wp_iload_n (z := 2) (i := 2) (x := x2) 2 (by decide +kernel) rfl rfl ?_
      refine wp_iload (i := 5) (x := x5) 5 (by decide +kernel) rfl ?_
      refine wp_callV (idx := 309) (B2 := B9_alikeFrom) (As := [.int x1, .int x4, .int x2, .int x5]) (a := h) (st := []) (by decide +kernel) m9_alikeFrom ml9_309 k9_alikeFrom e9_alikeFrom ck9 ok.1 (⟨Nat.le_of_ble_eq_true rfl, Nat.le_of_ble_eq_true rfl⟩ : rOK B9_echoOf B9_alikeFrom) rfl (Nat.le_of_ble_eq_true rfl) (Nat.le_of_ble_eq_true rfl) ⟨Nat.le_of_ble_eq_true rfl, Nat.le_of_ble_eq_true rfl⟩ rfl (wp_mono H (fun v9 M9 hq9 => ?_))
      clear H
      obtain ⟨r8, I6, L7, rfl, rfl, H⟩ := hq9
      show wp X B9_echoOf 52 [(0, .ref h), (1, .int x1), (2, .int x2), (3, .int x3), (4, .int x4), (5, .int x5)] [.int r8] (G, I6, L7) 0 0 _
      refine wp_goto (off := 4) (tgt := 56) (by decide +kernel) (by decide) ?_
      refine wp_istore_n (z := 3) (i := 3) (lv' := [(3, .int r8), (0, .ref h), (1, .int x1), (2, .int x2), (4, .int x4), (5, .int x5)]) (by decide +kernel) rfl (by decide) rfl ?_
      refine wp_iinc (i := 5) (z := 1) (v := 1) (lv' := [(5, .int (x5 + 1)), (3, .int r8), (0, .ref h), (1, .int x1), (2, .int x2), (4, .int x4)]) 5 (by decide +kernel) rfl (by decide) (by decide) rfl ?_
      refine wp_goto (off := -42) (tgt := 18) (by decide +kernel) (by decide) ?_
      exact wp_sub [2, 3, 4, 1, 5, 0] rfl H
/-! DeafWallModel.isWithin(II)Z -/
set_option maxRecDepth 20000 in
theorem b9_isWithin {X : XX} {G : GG} {I : Nat → Nat → Int32} {L : Nat → Nat → Int64} {h : Nat} {x1 : Int32} {x2 : Int32} {Q : Int32 → (Nat → Nat → Int32) → (Nat → Nat → Int64) → Prop} (ok : OK9 G h) (H : wpI X B9_isWithin 2 [(0, .ref h), (1, .int x1), (2, .int x2), (3, .int 0)] [] G I L Q) : wpI X B9_isWithin 0 [(0, .ref h), (1, .int x1), (2, .int x2)] [] G I L Q := by
  refine wp_iconst (z := 0) (v := 0) (by decide +kernel) (by decide) ?_
  refine wp_istore_n (z := 3) (i := 3) (lv' := [(3, .int 0), (0, .ref h), (1, .int x1), (2, .int x2)]) (by decide +kernel) rfl (by decide) rfl ?_
  exact wp_sub [1, 2, 3, 0] rfl H
set_option maxRecDepth 20000 in
theorem b9_isWithin_2 {X : XX} {G : GG} {I : Nat → Nat → Int32} {L : Nat → Nat → Int64} {h : Nat} {x1 : Int32} {x2 : Int32} {x3 : Int32} {Q : Int32 → (Nat → Nat → Int32) → (Nat → Nat → Int64) → Prop} (ok : OK9 G h) (H : p9_longOf I h x2 ∧ (if (v9_longOf I h x2) ≤ x3 then (Q 0 I L) else (wpI X B9_alikeFrom 0 [(0, .ref h), (1, .int x1), (2, .int 0), (3, .int x2), (4, .int x3)] [] G I L (fun r4 I2 L3 => p9_longOf I2 h x1 ∧ (if r4 = (v9_longOf I2 h x1) then (Q 1 I2 L3) else (wpI X B9_isWithin 2 [(0, .ref h), (1, .int x1), (2, .int x2), (3, .int (x3 + 1))] [] G I2 L3 Q)))))) : wpI X B9_isWithin 2 [(0, .ref h), (1, .int x1), (2, .int x2), (3, .int x3)] [] G I L Q := by
  refine wp_iload_n (z := 3) (i := 3) (x := x3) 3 (by decide +kernel) rfl rfl ?_
  refine wp_aload_n (z := 0) (i := 0) (r := (some h)) 0 (by decide +kernel) rfl rfl ?_
  refine wp_iload_n (z := 2) (i := 2) (x := x2) 2 (by decide +kernel) rfl rfl ?_
  obtain ⟨o7, H⟩ := H
  refine wp_callV (idx := 211) (B2 := B9_longOf) (As := [.int x2]) (a := h) (st := [.int x3]) (by decide +kernel) m9_longOf ml9_211 k9_longOf e9_longOf ck9 ok.1 (⟨Nat.le_of_ble_eq_true rfl, Nat.le_of_ble_eq_true rfl⟩ : rOK B9_isWithin B9_longOf) rfl (Nat.le_of_ble_eq_true rfl) (Nat.le_of_ble_eq_true rfl) ⟨Nat.le_of_ble_eq_true rfl, Nat.le_of_ble_eq_true rfl⟩ rfl (wp_mono (b9_longOf (Q := (fun r I' L' => r = (v9_longOf I h x2) ∧ I = I' ∧ L = L')) ok o7 ⟨rfl, rfl, rfl⟩) (fun v9 M9 hq9 => ?_))
  obtain ⟨_, _, _, rfl, rfl, rfl, rfl, rfl⟩ := hq9
  show wp X B9_isWithin 8 [(0, .ref h), (1, .int x1), (2, .int x2), (3, .int x3)] [.int (v9_longOf I h x2), .int x3] (G, I, L) 0 0 _
  refine wp_icmp_ge (off := 27) (tgt := 35) (by decide +kernel) (by decide) (fun c1 => ?_) (fun c1 => ?_)
  · rw [if_pos c1] at H
    refine wp_iconst (z := 0) (v := 0) (by decide +kernel) (by decide) ?_
    exact wp_zret (by decide +kernel) rfl (by decide) (Nat.zero_le _) (Nat.zero_le _) ⟨_, _, _, rfl, rfl, H⟩
  · rw [if_neg c1] at H
    refine wp_aload_n (z := 0) (i := 0) (r := (some h)) 0 (by decide +kernel) rfl rfl ?_
    refine wp_iload_n (z := 1) (i := 1) (x := x1) 1 (by decide +kernel) rfl rfl ?_
    refine wp_iconst (z := 0) (v := 0) (by decide +kernel) (by decide) ?_
    refine wp_iload_n (z := 2) (i := 2) (x := x2) 2 (by decide +kernel) rfl rfl ?_
    refine wp_iload_n (z := 3) (i := 3) (x := x3) 3 (by decide +kernel) rfl rfl ?_
    refine wp_callV (idx := 309) (B2 := B9_alikeFrom) (As := [.int x1, .int 0, .int x2, .int x3]) (a := h) (st := []) (by decide +kernel) m9_alikeFrom ml9_309 k9_alikeFrom e9_alikeFrom ck9 ok.1 (⟨Nat.le_of_ble_eq_true rfl, Nat.le_of_ble_eq_true rfl⟩ : rOK B9_isWithin B9_alikeFrom) rfl (Nat.le_of_ble_eq_true rfl) (Nat.le_of_ble_eq_true rfl) ⟨Nat.le_of_ble_eq_true rfl, Nat.le_of_ble_eq_true rfl⟩ rfl (wp_mono H (fun v9 M9 hq9 => ?_))
    clear H
    obtain ⟨r4, I2, L3, rfl, rfl, H⟩ := hq9
    show wp X B9_isWithin 19 [(0, .ref h), (1, .int x1), (2, .int x2), (3, .int x3)] [.int r4] (G, I2, L3) 0 0 _
    refine wp_aload_n (z := 0) (i := 0) (r := (some h)) 0 (by decide +kernel) rfl rfl ?_
    refine wp_iload_n (z := 1) (i := 1) (x := x1) 1 (by decide +kernel) rfl rfl ?_
    obtain ⟨o6, H⟩ := H
    refine wp_callV (idx := 211) (B2 := B9_longOf) (As := [.int x1]) (a := h) (st := [.int r4]) (by decide +kernel) m9_longOf ml9_211 k9_longOf e9_longOf ck9 ok.1 (⟨Nat.le_of_ble_eq_true rfl, Nat.le_of_ble_eq_true rfl⟩ : rOK B9_isWithin B9_longOf) rfl (Nat.le_of_ble_eq_true rfl) (Nat.le_of_ble_eq_true rfl) ⟨Nat.le_of_ble_eq_true rfl, Nat.le_of_ble_eq_true rfl⟩ rfl (wp_mono (b9_longOf (Q := (fun r I' L' => r = (v9_longOf I2 h x1) ∧ I2 = I' ∧ L3 = L')) ok o6 ⟨rfl, rfl, rfl⟩) (fun v9 M9 hq9 => ?_))
    obtain ⟨_, _, _, rfl, rfl, rfl, rfl, rfl⟩ := hq9
    show wp X B9_isWithin 24 [(0, .ref h), (1, .int x1), (2, .int x2), (3, .int x3)] [.int (v9_longOf I2 h x1), .int r4] (G, I2, L3) 0 0 _
    refine wp_icmp_ne (off := 5) (tgt := 29) (by decide +kernel) (by decide) (fun c5 => ?_) (fun c5 => ?_)
    · rw [if_neg c5] at H
      refine wp_iinc (i := 3) (z := 1) (v := 1) (lv' := [(3, .int (x3 + 1)), (0, .ref h), (1, .int x1), (2, .int x2)]) 3 (by decide +kernel) rfl (by decide) (by decide) rfl ?_
      refine wp_goto (off := -30) (tgt := 2) (by decide +kernel) (by decide) ?_
      exact wp_sub [1, 2, 3, 0] rfl H
    · rw [if_pos c5] at H
      refine wp_iconst (z := 1) (v := 1) (by decide +kernel) (by decide) ?_
      exact wp_zret (by decide +kernel) rfl (by decide) (Nat.zero_le _) (Nat.zero_le _) ⟨_, _, _, rfl, rfl, H⟩
/-! DeafWallModel.isTurned(II)Z -/
set_option maxRecDepth 20000 in
theorem b9_isTurned {X : XX} {G : GG} {I : Nat → Nat → Int32} {L : Nat → Nat → Int64} {h : Nat} {x1 : Int32} {x2 : Int32} {Q : Int32 → (Nat → Nat → Int32) → (Nat → Nat → Int64) → Prop} (ok : OK9 G h) (H : p9_longOf I h x1 ∧ (p9_longOf I h x2 ∧ (if (v9_longOf I h x1) = (v9_longOf I h x2) then (wpI X B9_isTurned 22 [(0, .ref h), (1, .int x1), (2, .int x2), (3, .int 1), (4, .int 0)] [] G I L Q) else (wpI X B9_isTurned 22 [(0, .ref h), (1, .int x1), (2, .int x2), (3, .int 0), (4, .int 0)] [] G I L Q)))) : wpI X B9_isTurned 0 [(0, .ref h), (1, .int x1), (2, .int x2)] [] G I L Q := by
  refine wp_aload_n (z := 0) (i := 0) (r := (some h)) 0 (by decide +kernel) rfl rfl ?_
  refine wp_iload_n (z := 1) (i := 1) (x := x1) 1 (by decide +kernel) rfl rfl ?_
  obtain ⟨o3, H⟩ := H
  refine wp_callV (idx := 211) (B2 := B9_longOf) (As := [.int x1]) (a := h) (st := []) (by decide +kernel) m9_longOf ml9_211 k9_longOf e9_longOf ck9 ok.1 (⟨Nat.le_of_ble_eq_true rfl, Nat.le_of_ble_eq_true rfl⟩ : rOK B9_isTurned B9_longOf) rfl (Nat.le_of_ble_eq_true rfl) (Nat.le_of_ble_eq_true rfl) ⟨Nat.le_of_ble_eq_true rfl, Nat.le_of_ble_eq_true rfl⟩ rfl (wp_mono (b9_longOf (Q := (fun r I' L' => r = (v9_longOf I h x1) ∧ I = I' ∧ L = L')) ok o3 ⟨rfl, rfl, rfl⟩) (fun v9 M9 hq9 => ?_))
  obtain ⟨_, _, _, rfl, rfl, rfl, rfl, rfl⟩ := hq9
  show wp X B9_isTurned 5 [(0, .ref h), (1, .int x1), (2, .int x2)] [.int (v9_longOf I h x1)] (G, I, L) 0 0 _
  refine wp_aload_n (z := 0) (i := 0) (r := (some h)) 0 (by decide +kernel) rfl rfl ?_
  refine wp_iload_n (z := 2) (i := 2) (x := x2) 2 (by decide +kernel) rfl rfl ?_
  obtain ⟨o2, H⟩ := H
  refine wp_callV (idx := 211) (B2 := B9_longOf) (As := [.int x2]) (a := h) (st := [.int (v9_longOf I h x1)]) (by decide +kernel) m9_longOf ml9_211 k9_longOf e9_longOf ck9 ok.1 (⟨Nat.le_of_ble_eq_true rfl, Nat.le_of_ble_eq_true rfl⟩ : rOK B9_isTurned B9_longOf) rfl (Nat.le_of_ble_eq_true rfl) (Nat.le_of_ble_eq_true rfl) ⟨Nat.le_of_ble_eq_true rfl, Nat.le_of_ble_eq_true rfl⟩ rfl (wp_mono (b9_longOf (Q := (fun r I' L' => r = (v9_longOf I h x2) ∧ I = I' ∧ L = L')) ok o2 ⟨rfl, rfl, rfl⟩) (fun v9 M9 hq9 => ?_))
  obtain ⟨_, _, _, rfl, rfl, rfl, rfl, rfl⟩ := hq9
  show wp X B9_isTurned 10 [(0, .ref h), (1, .int x1), (2, .int x2)] [.int (v9_longOf I h x2), .int (v9_longOf I h x1)] (G, I, L) 0 0 _
  refine wp_icmp_ne (off := 7) (tgt := 17) (by decide +kernel) (by decide) (fun c1 => ?_) (fun c1 => ?_)
  · rw [if_neg c1] at H
    refine wp_iconst (z := 0) (v := 0) (by decide +kernel) (by decide) ?_
    refine wp_istore_n (z := 3) (i := 3) (lv' := [(3, .int 0), (0, .ref h), (1, .int x1), (2, .int x2)]) (by decide +kernel) rfl (by decide) rfl ?_
    refine wp_iconst (z := 0) (v := 0) (by decide +kernel) (by decide) ?_
    refine wp_istore (i := 4) (lv' := [(4, .int 0), (3, .int 0), (0, .ref h), (1, .int x1), (2, .int x2)]) (by decide +kernel) (by decide) rfl ?_
    exact wp_sub [2, 3, 4, 1, 0] rfl H
  · rw [if_pos c1] at H
    refine wp_iconst (z := 1) (v := 1) (by decide +kernel) (by decide) ?_
    refine wp_goto (off := 4) (tgt := 18) (by decide +kernel) (by decide) ?_
    refine wp_istore_n (z := 3) (i := 3) (lv' := [(3, .int 1), (0, .ref h), (1, .int x1), (2, .int x2)]) (by decide +kernel) rfl (by decide) rfl ?_
    refine wp_iconst (z := 0) (v := 0) (by decide +kernel) (by decide) ?_
    refine wp_istore (i := 4) (lv' := [(4, .int 0), (3, .int 1), (0, .ref h), (1, .int x1), (2, .int x2)]) (by decide +kernel) (by decide) rfl ?_
    exact wp_sub [2, 3, 4, 1, 0] rfl H
set_option maxRecDepth 20000 in
theorem b9_isTurned_22 {X : XX} {G : GG} {I : Nat → Nat → Int32} {L : Nat → Nat → Int64} {h : Nat} {x1 : Int32} {x2 : Int32} {x3 : Int32} {x4 : Int32} {Q : Int32 → (Nat → Nat → Int32) → (Nat → Nat → Int64) → Prop} (ok : OK9 G h) (H : p9_longOf I h x1 ∧ (if (v9_longOf I h x1) ≤ x4 then ((x3 = 0 ∨ x3 = 1) ∧ (Q x3 I L)) else (if x3 = (0 : Int32) then ((x3 = 0 ∨ x3 = 1) ∧ (Q x3 I L)) else (p9_markOf I h x1 x4 ∧ (p9_longOf I h x2 ∧ (p9_markOf I h x2 (((v9_longOf I h x2) - 1) - x4) ∧ (if (v9_markOf I h x1 x4) = (v9_markOf I h x2 (((v9_longOf I h x2) - 1) - x4)) then (wpI X B9_isTurned 22 [(0, .ref h), (1, .int x1), (2, .int x2), (3, .int 1), (4, .int (x4 + 1))] [] G I L Q) else (wpI X B9_isTurned 22 [(0, .ref h), (1, .int x1), (2, .int x2), (3, .int 0), (4, .int (x4 + 1))] [] G I L Q)))))))) : wpI X B9_isTurned 22 [(0, .ref h), (1, .int x1), (2, .int x2), (3, .int x3), (4, .int x4)] [] G I L Q := by
  refine wp_iload (i := 4) (x := x4) 4 (by decide +kernel) rfl ?_
  refine wp_aload_n (z := 0) (i := 0) (r := (some h)) 0 (by decide +kernel) rfl rfl ?_
  refine wp_iload_n (z := 1) (i := 1) (x := x1) 1 (by decide +kernel) rfl rfl ?_
  obtain ⟨o9, H⟩ := H
  refine wp_callV (idx := 211) (B2 := B9_longOf) (As := [.int x1]) (a := h) (st := [.int x4]) (by decide +kernel) m9_longOf ml9_211 k9_longOf e9_longOf ck9 ok.1 (⟨Nat.le_of_ble_eq_true rfl, Nat.le_of_ble_eq_true rfl⟩ : rOK B9_isTurned B9_longOf) rfl (Nat.le_of_ble_eq_true rfl) (Nat.le_of_ble_eq_true rfl) ⟨Nat.le_of_ble_eq_true rfl, Nat.le_of_ble_eq_true rfl⟩ rfl (wp_mono (b9_longOf (Q := (fun r I' L' => r = (v9_longOf I h x1) ∧ I = I' ∧ L = L')) ok o9 ⟨rfl, rfl, rfl⟩) (fun v9 M9 hq9 => ?_))
  obtain ⟨_, _, _, rfl, rfl, rfl, rfl, rfl⟩ := hq9
  show wp X B9_isTurned 29 [(0, .ref h), (1, .int x1), (2, .int x2), (3, .int x3), (4, .int x4)] [.int (v9_longOf I h x1), .int x4] (G, I, L) 0 0 _
  refine wp_icmp_ge (off := 44) (tgt := 73) (by decide +kernel) (by decide) (fun c1 => ?_) (fun c1 => ?_)
  · rw [if_pos c1] at H
    refine wp_iload_n (z := 3) (i := 3) (x := x3) 3 (by decide +kernel) rfl rfl ?_
    obtain ⟨o2, H⟩ := H
    exact wp_zret (by decide +kernel) rfl o2 (Nat.zero_le _) (Nat.zero_le _) ⟨_, _, _, rfl, rfl, H⟩
  · rw [if_neg c1] at H
    refine wp_iload_n (z := 3) (i := 3) (x := x3) 3 (by decide +kernel) rfl rfl ?_
    refine wp_if_eq (off := 40) (tgt := 73) (by decide +kernel) (by decide) (fun c3 => ?_) (fun c3 => ?_)
    · rw [if_pos c3] at H
      refine wp_iload_n (z := 3) (i := 3) (x := x3) 3 (by decide +kernel) rfl rfl ?_
      obtain ⟨o4, H⟩ := H
      exact wp_zret (by decide +kernel) rfl o4 (Nat.zero_le _) (Nat.zero_le _) ⟨_, _, _, rfl, rfl, H⟩
    · rw [if_neg c3] at H
      refine wp_aload_n (z := 0) (i := 0) (r := (some h)) 0 (by decide +kernel) rfl rfl ?_
      refine wp_iload_n (z := 1) (i := 1) (x := x1) 1 (by decide +kernel) rfl rfl ?_
      refine wp_iload (i := 4) (x := x4) 4 (by decide +kernel) rfl ?_
      obtain ⟨o8, H⟩ := H
      refine wp_callV (idx := 241) (B2 := B9_markOf) (As := [.int x1, .int x4]) (a := h) (st := []) (by decide +kernel) m9_markOf ml9_241 k9_markOf e9_markOf ck9 ok.1 (⟨Nat.le_of_ble_eq_true rfl, Nat.le_of_ble_eq_true rfl⟩ : rOK B9_isTurned B9_markOf) rfl (Nat.le_of_ble_eq_true rfl) (Nat.le_of_ble_eq_true rfl) ⟨Nat.le_of_ble_eq_true rfl, Nat.le_of_ble_eq_true rfl⟩ rfl (wp_mono (b9_markOf (Q := (fun r I' L' => r = (v9_markOf I h x1 x4) ∧ I = I' ∧ L = L')) ok o8 ⟨rfl, rfl, rfl⟩) (fun v9 M9 hq9 => ?_))
      obtain ⟨_, _, _, rfl, rfl, rfl, rfl, rfl⟩ := hq9
      show wp X B9_isTurned 43 [(0, .ref h), (1, .int x1), (2, .int x2), (3, .int x3), (4, .int x4)] [.int (v9_markOf I h x1 x4)] (G, I, L) 0 0 _
      refine wp_aload_n (z := 0) (i := 0) (r := (some h)) 0 (by decide +kernel) rfl rfl ?_
      refine wp_iload_n (z := 2) (i := 2) (x := x2) 2 (by decide +kernel) rfl rfl ?_
      refine wp_aload_n (z := 0) (i := 0) (r := (some h)) 0 (by decide +kernel) rfl rfl ?_
      refine wp_iload_n (z := 2) (i := 2) (x := x2) 2 (by decide +kernel) rfl rfl ?_
      obtain ⟨o7, H⟩ := H
      refine wp_callV (idx := 211) (B2 := B9_longOf) (As := [.int x2]) (a := h) (st := [.int x2, .ref h, .int (v9_markOf I h x1 x4)]) (by decide +kernel) m9_longOf ml9_211 k9_longOf e9_longOf ck9 ok.1 (⟨Nat.le_of_ble_eq_true rfl, Nat.le_of_ble_eq_true rfl⟩ : rOK B9_isTurned B9_longOf) rfl (Nat.le_of_ble_eq_true rfl) (Nat.le_of_ble_eq_true rfl) ⟨Nat.le_of_ble_eq_true rfl, Nat.le_of_ble_eq_true rfl⟩ rfl (wp_mono (b9_longOf (Q := (fun r I' L' => r = (v9_longOf I h x2) ∧ I = I' ∧ L = L')) ok o7 ⟨rfl, rfl, rfl⟩) (fun v9 M9 hq9 => ?_))
      obtain ⟨_, _, _, rfl, rfl, rfl, rfl, rfl⟩ := hq9
      show wp X B9_isTurned 50 [(0, .ref h), (1, .int x1), (2, .int x2), (3, .int x3), (4, .int x4)] [.int (v9_longOf I h x2), .int x2, .ref h, .int (v9_markOf I h x1 x4)] (G, I, L) 0 0 _
      refine wp_iconst (z := 1) (v := 1) (by decide +kernel) (by decide) ?_
      refine wp_isub (by decide +kernel) ?_
      refine wp_iload (i := 4) (x := x4) 4 (by decide +kernel) rfl ?_
      refine wp_isub (by decide +kernel) ?_
      obtain ⟨o6, H⟩ := H
      refine wp_callV (idx := 241) (B2 := B9_markOf) (As := [.int x2, .int (((v9_longOf I h x2) - 1) - x4)]) (a := h) (st := [.int (v9_markOf I h x1 x4)]) (by decide +kernel) m9_markOf ml9_241 k9_markOf e9_markOf ck9 ok.1 (⟨Nat.le_of_ble_eq_true rfl, Nat.le_of_ble_eq_true rfl⟩ : rOK B9_isTurned B9_markOf) rfl (Nat.le_of_ble_eq_true rfl) (Nat.le_of_ble_eq_true rfl) ⟨Nat.le_of_ble_eq_true rfl, Nat.le_of_ble_eq_true rfl⟩ rfl (wp_mono (b9_markOf (Q := (fun r I' L' => r = (v9_markOf I h x2 (((v9_longOf I h x2) - 1) - x4)) ∧ I = I' ∧ L = L')) ok o6 ⟨rfl, rfl, rfl⟩) (fun v9 M9 hq9 => ?_))
      obtain ⟨_, _, _, rfl, rfl, rfl, rfl, rfl⟩ := hq9
      show wp X B9_isTurned 58 [(0, .ref h), (1, .int x1), (2, .int x2), (3, .int x3), (4, .int x4)] [.int (v9_markOf I h x2 (((v9_longOf I h x2) - 1) - x4)), .int (v9_markOf I h x1 x4)] (G, I, L) 0 0 _
      refine wp_icmp_ne (off := 7) (tgt := 65) (by decide +kernel) (by decide) (fun c5 => ?_) (fun c5 => ?_)
      · rw [if_neg c5] at H
        refine wp_iconst (z := 0) (v := 0) (by decide +kernel) (by decide) ?_
        refine wp_istore_n (z := 3) (i := 3) (lv' := [(3, .int 0), (0, .ref h), (1, .int x1), (2, .int x2), (4, .int x4)]) (by decide +kernel) rfl (by decide) rfl ?_
        refine wp_iinc (i := 4) (z := 1) (v := 1) (lv' := [(4, .int (x4 + 1)), (3, .int 0), (0, .ref h), (1, .int x1), (2, .int x2)]) 4 (by decide +kernel) rfl (by decide) (by decide) rfl ?_
        refine wp_goto (off := -48) (tgt := 22) (by decide +kernel) (by decide) ?_
        exact wp_sub [2, 3, 4, 1, 0] rfl H
      · rw [if_pos c5] at H
        refine wp_iconst (z := 1) (v := 1) (by decide +kernel) (by decide) ?_
        refine wp_goto (off := 4) (tgt := 66) (by decide +kernel) (by decide) ?_
        refine wp_istore_n (z := 3) (i := 3) (lv' := [(3, .int 1), (0, .ref h), (1, .int x1), (2, .int x2), (4, .int x4)]) (by decide +kernel) rfl (by decide) rfl ?_
        refine wp_iinc (i := 4) (z := 1) (v := 1) (lv' := [(4, .int (x4 + 1)), (3, .int 1), (0, .ref h), (1, .int x1), (2, .int x2)]) 4 (by decide +kernel) rfl (by decide) (by decide) rfl ?_
        refine wp_goto (off := -48) (tgt := 22) (by decide +kernel) (by decide) ?_
        exact wp_sub [2, 3, 4, 1, 0] rfl H
