set_option maxRecDepth 20000 in
theorem b10_law_1413 {X : XX} {G : GG} {I : Nat → Nat → Int32} {L : Nat → Nat → Int64} {k : Nat} {n : Nat} {a1 : Nat} {a2 : Nat} {x3 : Int32} {Q : Int32 → GG → (Nat → Nat → Int32) → (Nat → Nat → Int64) → Prop} (hk : k + 100 ≤ room_1.cells) (hn : n + 3000 ≤ room_1.slots) (ok1 : OK8 G a1) (ok2 : OK9 G a2) (H : vp_in (x3 + 1) (X.2.2.2 51) ∧ (vp_in (x3 + 2) (X.2.2.2 51) ∧ (vp_in (x3 + 3) (X.2.2.2 51) ∧ (if (scr X (x3 + 3)) = (0 : Int32) then (wpI X B8_loud 0 [(0, .ref a1), (1, .int (scr X (x3 + 1))), (2, .int (scr X (x3 + 2))), (3, .int 0)] [] G I L (fun r4 I2 L3 => vp_in (x3 + 1) (X.2.2.2 51) ∧ (vp_in (x3 + 2) (X.2.2.2 51) ∧ (vp_in (x3 + 3) (X.2.2.2 51) ∧ (if (scr X (x3 + 3)) = (0 : Int32) then (wpI X B9_loud 0 [(0, .ref a2), (1, .int (scr X (x3 + 1))), (2, .int (scr X (x3 + 2))), (3, .int 0)] [] G I2 L3 (fun r8 I6 L7 => if r4 = r8 then (wgI X B10_law 18 [(0, .ref (X.2.2.2 50)), (1, .ref a1), (2, .ref a2), (3, .int (x3 + 6))] [] G I6 L7 k n Q) else (Q 0 G I6 L7))) else (wpI X B9_loud 0 [(0, .ref a2), (1, .int (scr X (x3 + 1))), (2, .int (scr X (x3 + 2))), (3, .int 1)] [] G I2 L3 (fun r12 I10 L11 => if r4 = r12 then (wgI X B10_law 18 [(0, .ref (X.2.2.2 50)), (1, .ref a1), (2, .ref a2), (3, .int (x3 + 6))] [] G I10 L11 k n Q) else (Q 0 G I10 L11)))))))) else (wpI X B8_loud 0 [(0, .ref a1), (1, .int (scr X (x3 + 1))), (2, .int (scr X (x3 + 2))), (3, .int 1)] [] G I L (fun r19 I17 L18 => vp_in (x3 + 1) (X.2.2.2 51) ∧ (vp_in (x3 + 2) (X.2.2.2 51) ∧ (vp_in (x3 + 3) (X.2.2.2 51) ∧ (if (scr X (x3 + 3)) = (0 : Int32) then (wpI X B9_loud 0 [(0, .ref a2), (1, .int (scr X (x3 + 1))), (2, .int (scr X (x3 + 2))), (3, .int 0)] [] G I17 L18 (fun r23 I21 L22 => if r19 = r23 then (wgI X B10_law 18 [(0, .ref (X.2.2.2 50)), (1, .ref a1), (2, .ref a2), (3, .int (x3 + 6))] [] G I21 L22 k n Q) else (Q 0 G I21 L22))) else (wpI X B9_loud 0 [(0, .ref a2), (1, .int (scr X (x3 + 1))), (2, .int (scr X (x3 + 2))), (3, .int 1)] [] G I17 L18 (fun r27 I25 L26 => if r19 = r27 then (wgI X B10_law 18 [(0, .ref (X.2.2.2 50)), (1, .ref a1), (2, .ref a2), (3, .int (x3 + 6))] [] G I25 L26 k n Q) else (Q 0 G I25 L26)))))))))))) : wgI X B10_law 1413 [(0, .ref (X.2.2.2 50)), (1, .ref a1), (2, .ref a2), (3, .int x3)] [] G I L k n Q := by
  refine wp_aload_n (z := 1) (i := 1) (r := (some a1)) 1 (by decide +kernel) rfl rfl ?_
  refine wp_aload_n (z := 0) (i := 0) (r := (some (X.2.2.2 50))) 0 (by decide +kernel) rfl rfl ?_
  refine wp_iload_n (z := 3) (i := 3) (x := x3) 3 (by decide +kernel) rfl rfl ?_
  refine wp_iconst (z := 1) (v := 1) (by decide +kernel) (by decide) ?_
  refine wp_iadd (by decide +kernel) ?_
  obtain ⟨o34, H⟩ := H
  refine wp_scrald (by decide +kernel) o34 ?_
  show wp X B10_law 1419 [(0, .ref (X.2.2.2 50)), (1, .ref a1), (2, .ref a2), (3, .int x3)] [.int (scr X (x3 + 1)), .ref a1] (G, I, L) k n _
  refine wp_aload_n (z := 0) (i := 0) (r := (some (X.2.2.2 50))) 0 (by decide +kernel) rfl rfl ?_
  refine wp_iload_n (z := 3) (i := 3) (x := x3) 3 (by decide +kernel) rfl rfl ?_
  refine wp_iconst (z := 2) (v := 2) (by decide +kernel) (by decide) ?_
  refine wp_iadd (by decide +kernel) ?_
  obtain ⟨o33, H⟩ := H
  refine wp_scrald (by decide +kernel) o33 ?_
  show wp X B10_law 1424 [(0, .ref (X.2.2.2 50)), (1, .ref a1), (2, .ref a2), (3, .int x3)] [.int (scr X (x3 + 2)), .int (scr X (x3 + 1)), .ref a1] (G, I, L) k n _
  refine wp_aload_n (z := 0) (i := 0) (r := (some (X.2.2.2 50))) 0 (by decide +kernel) rfl rfl ?_
  refine wp_iload_n (z := 3) (i := 3) (x := x3) 3 (by decide +kernel) rfl rfl ?_
  refine wp_iconst (z := 3) (v := 3) (by decide +kernel) (by decide) ?_
  refine wp_iadd (by decide +kernel) ?_
  obtain ⟨o32, H⟩ := H
  refine wp_scrald (by decide +kernel) o32 ?_
  show wp X B10_law 1429 [(0, .ref (X.2.2.2 50)), (1, .ref a1), (2, .ref a2), (3, .int x3)] [.int (scr X (x3 + 3)), .int (scr X (x3 + 2)), .int (scr X (x3 + 1)), .ref a1] (G, I, L) k n _
  refine wp_if_eq (off := 7) (tgt := 1436) (by decide +kernel) (by decide) (fun c1 => ?_) (fun c1 => ?_)
  · rw [if_pos c1] at H
    refine wp_iconst (z := 0) (v := 0) (by decide +kernel) (by decide) ?_
    refine wp_callV (idx := 123) (B2 := B8_loud) (As := [.int (scr X (x3 + 1)), .int (scr X (x3 + 2)), .int 0]) (a := a1) (st := []) (by decide +kernel) m8_loud ml10_123 k8_loud e8_loud ck8 ok1.1 (⟨Nat.le_of_ble_eq_true rfl, Nat.le_of_ble_eq_true rfl⟩ : rOK B10_law B8_loud) rfl (Nat.le_of_ble_eq_true rfl) (Nat.le_of_ble_eq_true rfl) ⟨by show k + 0 ≤ room_1.cells; omega, by show n + 0 ≤ room_1.slots; omega⟩ rfl (wp_mono H (fun v9 M9 hq9 => ?_))
    clear H
    obtain ⟨r4, I2, L3, rfl, rfl, H⟩ := hq9
    show wp X B10_law 1440 [(0, .ref (X.2.2.2 50)), (1, .ref a1), (2, .ref a2), (3, .int x3)] [.int r4] (G, I2, L3) k n _
    refine wp_aload_n (z := 2) (i := 2) (r := (some a2)) 2 (by decide +kernel) rfl rfl ?_
    refine wp_aload_n (z := 0) (i := 0) (r := (some (X.2.2.2 50))) 0 (by decide +kernel) rfl rfl ?_
    refine wp_iload_n (z := 3) (i := 3) (x := x3) 3 (by decide +kernel) rfl rfl ?_
    refine wp_iconst (z := 1) (v := 1) (by decide +kernel) (by decide) ?_
    refine wp_iadd (by decide +kernel) ?_
    obtain ⟨o16, H⟩ := H
    refine wp_scrald (by decide +kernel) o16 ?_
    show wp X B10_law 1446 [(0, .ref (X.2.2.2 50)), (1, .ref a1), (2, .ref a2), (3, .int x3)] [.int (scr X (x3 + 1)), .ref a2, .int r4] (G, I2, L3) k n _
    refine wp_aload_n (z := 0) (i := 0) (r := (some (X.2.2.2 50))) 0 (by decide +kernel) rfl rfl ?_
    refine wp_iload_n (z := 3) (i := 3) (x := x3) 3 (by decide +kernel) rfl rfl ?_
    refine wp_iconst (z := 2) (v := 2) (by decide +kernel) (by decide) ?_
    refine wp_iadd (by decide +kernel) ?_
    obtain ⟨o15, H⟩ := H
    refine wp_scrald (by decide +kernel) o15 ?_
    show wp X B10_law 1451 [(0, .ref (X.2.2.2 50)), (1, .ref a1), (2, .ref a2), (3, .int x3)] [.int (scr X (x3 + 2)), .int (scr X (x3 + 1)), .ref a2, .int r4] (G, I2, L3) k n _
    refine wp_aload_n (z := 0) (i := 0) (r := (some (X.2.2.2 50))) 0 (by decide +kernel) rfl rfl ?_
    refine wp_iload_n (z := 3) (i := 3) (x := x3) 3 (by decide +kernel) rfl rfl ?_
    refine wp_iconst (z := 3) (v := 3) (by decide +kernel) (by decide) ?_
    refine wp_iadd (by decide +kernel) ?_
    obtain ⟨o14, H⟩ := H
    refine wp_scrald (by decide +kernel) o14 ?_
    show wp X B10_law 1456 [(0, .ref (X.2.2.2 50)), (1, .ref a1), (2, .ref a2), (3, .int x3)] [.int (scr X (x3 + 3)), .int (scr X (x3 + 2)), .int (scr X (x3 + 1)), .ref a2, .int r4] (G, I2, L3) k n _
    refine wp_if_eq (off := 7) (tgt := 1463) (by decide +kernel) (by decide) (fun c5 => ?_) (fun c5 => ?_)
    · rw [if_pos c5] at H
      refine wp_iconst (z := 0) (v := 0) (by decide +kernel) (by decide) ?_
      refine wp_callV (idx := 126) (B2 := B9_loud) (As := [.int (scr X (x3 + 1)), .int (scr X (x3 + 2)), .int 0]) (a := a2) (st := [.int r4]) (by decide +kernel) m9_loud ml10_126 k9_loud e9_loud ck9 ok2.1 (⟨Nat.le_of_ble_eq_true rfl, Nat.le_of_ble_eq_true rfl⟩ : rOK B10_law B9_loud) rfl (Nat.le_of_ble_eq_true rfl) (Nat.le_of_ble_eq_true rfl) ⟨by show k + 0 ≤ room_1.cells; omega, by show n + 0 ≤ room_1.slots; omega⟩ rfl (wp_mono H (fun v9 M9 hq9 => ?_))
      clear H
      obtain ⟨r8, I6, L7, rfl, rfl, H⟩ := hq9
      show wp X B10_law 1467 [(0, .ref (X.2.2.2 50)), (1, .ref a1), (2, .ref a2), (3, .int x3)] [.int r8, .int r4] (G, I6, L7) k n _
      refine wp_icmp_eq (off := 372) (tgt := 1839) (by decide +kernel) (by decide) (fun c9 => ?_) (fun c9 => ?_)
      · rw [if_pos c9] at H
        refine wp_iinc (i := 3) (z := 6) (v := 6) (lv' := [(3, .int (x3 + 6)), (0, .ref (X.2.2.2 50)), (1, .ref a1), (2, .ref a2)]) 3 (by decide +kernel) rfl (by decide) (by decide) rfl ?_
        refine wp_goto (off := -1824) (tgt := 18) (by decide +kernel) (by decide) ?_
        exact wp_sub [1, 2, 3, 0] rfl H
      · rw [if_neg c9] at H
        refine wp_iconst (z := 0) (v := 0) (by decide +kernel) (by decide) ?_
        exact wp_zret (by decide +kernel) rfl (by decide) (by show k ≤ room_1.cells; omega) (by show n ≤ room_1.slots; omega) ⟨_, rfl, H⟩
    · rw [if_neg c5] at H
      refine wp_iconst (z := 1) (v := 1) (by decide +kernel) (by decide) ?_
      refine wp_goto (off := 4) (tgt := 1464) (by decide +kernel) (by decide) ?_
      refine wp_callV (idx := 126) (B2 := B9_loud) (As := [.int (scr X (x3 + 1)), .int (scr X (x3 + 2)), .int 1]) (a := a2) (st := [.int r4]) (by decide +kernel) m9_loud ml10_126 k9_loud e9_loud ck9 ok2.1 (⟨Nat.le_of_ble_eq_true rfl, Nat.le_of_ble_eq_true rfl⟩ : rOK B10_law B9_loud) rfl (Nat.le_of_ble_eq_true rfl) (Nat.le_of_ble_eq_true rfl) ⟨by show k + 0 ≤ room_1.cells; omega, by show n + 0 ≤ room_1.slots; omega⟩ rfl (wp_mono H (fun v9 M9 hq9 => ?_))
      clear H
      obtain ⟨r12, I10, L11, rfl, rfl, H⟩ := hq9
      show wp X B10_law 1467 [(0, .ref (X.2.2.2 50)), (1, .ref a1), (2, .ref a2), (3, .int x3)] [.int r12, .int r4] (G, I10, L11) k n _
      refine wp_icmp_eq (off := 372) (tgt := 1839) (by decide +kernel) (by decide) (fun c13 => ?_) (fun c13 => ?_)
      · rw [if_pos c13] at H
        refine wp_iinc (i := 3) (z := 6) (v := 6) (lv' := [(3, .int (x3 + 6)), (0, .ref (X.2.2.2 50)), (1, .ref a1), (2, .ref a2)]) 3 (by decide +kernel) rfl (by decide) (by decide) rfl ?_
        refine wp_goto (off := -1824) (tgt := 18) (by decide +kernel) (by decide) ?_
        exact wp_sub [1, 2, 3, 0] rfl H
      · rw [if_neg c13] at H
        refine wp_iconst (z := 0) (v := 0) (by decide +kernel) (by decide) ?_
        exact wp_zret (by decide +kernel) rfl (by decide) (by show k ≤ room_1.cells; omega) (by show n ≤ room_1.slots; omega) ⟨_, rfl, H⟩
  · rw [if_neg c1] at H
    refine wp_iconst (z := 1) (v := 1) (by decide +kernel) (by decide) ?_
    refine wp_goto (off := 4) (tgt := 1437) (by decide +kernel) (by decide) ?_
    refine wp_callV (idx := 123) (B2 := B8_loud) (As := [.int (scr X (x3 + 1)), .int (scr X (x3 + 2)), .int 1]) (a := a1) (st := []) (by decide +kernel) m8_loud ml10_123 k8_loud e8_loud ck8 ok1.1 (⟨Nat.le_of_ble_eq_true rfl, Nat.le_of_ble_eq_true rfl⟩ : rOK B10_law B8_loud) rfl (Nat.le_of_ble_eq_true rfl) (Nat.le_of_ble_eq_true rfl) ⟨by show k + 0 ≤ room_1.cells; omega, by show n + 0 ≤ room_1.slots; omega⟩ rfl (wp_mono H (fun v9 M9 hq9 => ?_))
    clear H
    obtain ⟨r19, I17, L18, rfl, rfl, H⟩ := hq9
    show wp X B10_law 1440 [(0, .ref (X.2.2.2 50)), (1, .ref a1), (2, .ref a2), (3, .int x3)] [.int r19] (G, I17, L18) k n _
    refine wp_aload_n (z := 2) (i := 2) (r := (some a2)) 2 (by decide +kernel) rfl rfl ?_
    refine wp_aload_n (z := 0) (i := 0) (r := (some (X.2.2.2 50))) 0 (by decide +kernel) rfl rfl ?_
    refine wp_iload_n (z := 3) (i := 3) (x := x3) 3 (by decide +kernel) rfl rfl ?_
    refine wp_iconst (z := 1) (v := 1) (by decide +kernel) (by decide) ?_
    refine wp_iadd (by decide +kernel) ?_
    obtain ⟨o31, H⟩ := H
    refine wp_scrald (by decide +kernel) o31 ?_
    show wp X B10_law 1446 [(0, .ref (X.2.2.2 50)), (1, .ref a1), (2, .ref a2), (3, .int x3)] [.int (scr X (x3 + 1)), .ref a2, .int r19] (G, I17, L18) k n _
    refine wp_aload_n (z := 0) (i := 0) (r := (some (X.2.2.2 50))) 0 (by decide +kernel) rfl rfl ?_
    refine wp_iload_n (z := 3) (i := 3) (x := x3) 3 (by decide +kernel) rfl rfl ?_
    refine wp_iconst (z := 2) (v := 2) (by decide +kernel) (by decide) ?_
    refine wp_iadd (by decide +kernel) ?_
    obtain ⟨o30, H⟩ := H
    refine wp_scrald (by decide +kernel) o30 ?_
    show wp X B10_law 1451 [(0, .ref (X.2.2.2 50)), (1, .ref a1), (2, .ref a2), (3, .int x3)] [.int (scr X (x3 + 2)), .int (scr X (x3 + 1)), .ref a2, .int r19] (G, I17, L18) k n _
    refine wp_aload_n (z := 0) (i := 0) (r := (some (X.2.2.2 50))) 0 (by decide +kernel) rfl rfl ?_
    refine wp_iload_n (z := 3) (i := 3) (x := x3) 3 (by decide +kernel) rfl rfl ?_
    refine wp_iconst (z := 3) (v := 3) (by decide +kernel) (by decide) ?_
    refine wp_iadd (by decide +kernel) ?_
    obtain ⟨o29, H⟩ := H
    refine wp_scrald (by decide +kernel) o29 ?_
    show wp X B10_law 1456 [(0, .ref (X.2.2.2 50)), (1, .ref a1), (2, .ref a2), (3, .int x3)] [.int (scr X (x3 + 3)), .int (scr X (x3 + 2)), .int (scr X (x3 + 1)), .ref a2, .int r19] (G, I17, L18) k n _
    refine wp_if_eq (off := 7) (tgt := 1463) (by decide +kernel) (by decide) (fun c20 => ?_) (fun c20 => ?_)
    · rw [if_pos c20] at H
      refine wp_iconst (z := 0) (v := 0) (by decide +kernel) (by decide) ?_
      refine wp_callV (idx := 126) (B2 := B9_loud) (As := [.int (scr X (x3 + 1)), .int (scr X (x3 + 2)), .int 0]) (a := a2) (st := [.int r19]) (by decide +kernel) m9_loud ml10_126 k9_loud e9_loud ck9 ok2.1 (⟨Nat.le_of_ble_eq_true rfl, Nat.le_of_ble_eq_true rfl⟩ : rOK B10_law B9_loud) rfl (Nat.le_of_ble_eq_true rfl) (Nat.le_of_ble_eq_true rfl) ⟨by show k + 0 ≤ room_1.cells; omega, by show n + 0 ≤ room_1.slots; omega⟩ rfl (wp_mono H (fun v9 M9 hq9 => ?_))
      clear H
      obtain ⟨r23, I21, L22, rfl, rfl, H⟩ := hq9
      show wp X B10_law 1467 [(0, .ref (X.2.2.2 50)), (1, .ref a1), (2, .ref a2), (3, .int x3)] [.int r23, .int r19] (G, I21, L22) k n _
      refine wp_icmp_eq (off := 372) (tgt := 1839) (by decide +kernel) (by decide) (fun c24 => ?_) (fun c24 => ?_)
      · rw [if_pos c24] at H
        refine wp_iinc (i := 3) (z := 6) (v := 6) (lv' := [(3, .int (x3 + 6)), (0, .ref (X.2.2.2 50)), (1, .ref a1), (2, .ref a2)]) 3 (by decide +kernel) rfl (by decide) (by decide) rfl ?_
        refine wp_goto (off := -1824) (tgt := 18) (by decide +kernel) (by decide) ?_
        exact wp_sub [1, 2, 3, 0] rfl H
      · rw [if_neg c24] at H
        refine wp_iconst (z := 0) (v := 0) (by decide +kernel) (by decide) ?_
        exact wp_zret (by decide +kernel) rfl (by decide) (by show k ≤ room_1.cells; omega) (by show n ≤ room_1.slots; omega) ⟨_, rfl, H⟩
    · rw [if_neg c20] at H
      refine wp_iconst (z := 1) (v := 1) (by decide +kernel) (by decide) ?_
      refine wp_goto (off := 4) (tgt := 1464) (by decide +kernel) (by decide) ?_
      refine wp_callV (idx := 126) (B2 := B9_loud) (As := [.int (scr X (x3 + 1)), .int (scr X (x3 + 2)), .int 1]) (a := a2) (st := [.int r19]) (by decide +kernel) m9_loud ml10_126 k9_loud e9_loud ck9 ok2.1 (⟨Nat.le_of_ble_eq_true rfl, Nat.le_of_ble_eq_true rfl⟩ : rOK B10_law B9_loud) rfl (Nat.le_of_ble_eq_true rfl) (Nat.le_of_ble_eq_true rfl) ⟨by show k + 0 ≤ room_1.cells; omega, by show n + 0 ≤ room_1.slots; omega⟩ rfl (wp_mono H (fun v9 M9 hq9 => ?_))
      clear H
      obtain ⟨r27, I25, L26, rfl, rfl, H⟩ := hq9
      show wp X B10_law 1467 [(0, .ref (X.2.2.2 50)), (1, .ref a1), (2, .ref a2), (3, .int x3)] [.int r27, .int r19] (G, I25, L26) k n _
      refine wp_icmp_eq (off := 372) (tgt := 1839) (by decide +kernel) (by decide) (fun c28 => ?_) (fun c28 => ?_)
      · rw [if_pos c28] at H
        refine wp_iinc (i := 3) (z := 6) (v := 6) (lv' := [(3, .int (x3 + 6)), (0, .ref (X.2.2.2 50)), (1, .ref a1), (2, .ref a2)]) 3 (by decide +kernel) rfl (by decide) (by decide) rfl ?_
        refine wp_goto (off := -1824) (tgt := 18) (by decide +kernel) (by decide) ?_
        exact wp_sub [1, 2, 3, 0] rfl H
      · rw [if_neg c28] at H
        refine wp_iconst (z := 0) (v := 0) (by decide +kernel) (by decide) ?_
        exact wp_zret (by decide +kernel) rfl (by decide) (by show k ≤ room_1.cells; omega) (by show n ≤ room_1.slots; omega) ⟨_, rfl, H⟩
set_option maxRecDepth 20000 in
theorem b10_law_1472 {X : XX} {G : GG} {I : Nat → Nat → Int32} {L : Nat → Nat → Int64} {k : Nat} {n : Nat} {a1 : Nat} {a2 : Nat} {x3 : Int32} {Q : Int32 → GG → (Nat → Nat → Int32) → (Nat → Nat → Int64) → Prop} (hk : k + 100 ≤ room_1.cells) (hn : n + 3000 ≤ room_1.slots) (ok1 : OK8 G a1) (ok2 : OK9 G a2) (H : vp_in (x3 + 1) (X.2.2.2 51) ∧ (vp_in (x3 + 2) (X.2.2.2 51) ∧ (vp_in (x3 + 3) (X.2.2.2 51) ∧ (vp_in (x3 + 4) (X.2.2.2 51) ∧ (wpI X B8_hold 0 [(0, .ref a1), (1, .int (scr X (x3 + 1))), (2, .int (scr X (x3 + 2))), (3, .int (scr X (x3 + 3))), (4, .int (scr X (x3 + 4)))] [] G I L (fun r3 I1 L2 => vp_in (x3 + 1) (X.2.2.2 51) ∧ (vp_in (x3 + 2) (X.2.2.2 51) ∧ (vp_in (x3 + 3) (X.2.2.2 51) ∧ (vp_in (x3 + 4) (X.2.2.2 51) ∧ (wpI X B9_hold 0 [(0, .ref a2), (1, .int (scr X (x3 + 1))), (2, .int (scr X (x3 + 2))), (3, .int (scr X (x3 + 3))), (4, .int (scr X (x3 + 4)))] [] G I1 L2 (fun r6 I4 L5 => if r3 = r6 then (wgI X B10_law 18 [(0, .ref (X.2.2.2 50)), (1, .ref a1), (2, .ref a2), (3, .int (x3 + 6))] [] G I4 L5 k n Q) else (Q 0 G I4 L5)))))))))))) : wgI X B10_law 1472 [(0, .ref (X.2.2.2 50)), (1, .ref a1), (2, .ref a2), (3, .int x3)] [] G I L k n Q := by
  refine wp_aload_n (z := 1) (i := 1) (r := (some a1)) 1 (by decide +kernel) rfl rfl ?_
  refine wp_aload_n (z := 0) (i := 0) (r := (some (X.2.2.2 50))) 0 (by decide +kernel) rfl rfl ?_
  refine wp_iload_n (z := 3) (i := 3) (x := x3) 3 (by decide +kernel) rfl rfl ?_
  refine wp_iconst (z := 1) (v := 1) (by decide +kernel) (by decide) ?_
  refine wp_iadd (by decide +kernel) ?_
  obtain ⟨o15, H⟩ := H
  refine wp_scrald (by decide +kernel) o15 ?_
  show wp X B10_law 1478 [(0, .ref (X.2.2.2 50)), (1, .ref a1), (2, .ref a2), (3, .int x3)] [.int (scr X (x3 + 1)), .ref a1] (G, I, L) k n _
  refine wp_aload_n (z := 0) (i := 0) (r := (some (X.2.2.2 50))) 0 (by decide +kernel) rfl rfl ?_
  refine wp_iload_n (z := 3) (i := 3) (x := x3) 3 (by decide +kernel) rfl rfl ?_
  refine wp_iconst (z := 2) (v := 2) (by decide +kernel) (by decide) ?_
  refine wp_iadd (by decide +kernel) ?_
  obtain ⟨o14, H⟩ := H
  refine wp_scrald (by decide +kernel) o14 ?_
  show wp X B10_law 1483 [(0, .ref (X.2.2.2 50)), (1, .ref a1), (2, .ref a2), (3, .int x3)] [.int (scr X (x3 + 2)), .int (scr X (x3 + 1)), .ref a1] (G, I, L) k n _
  refine wp_aload_n (z := 0) (i := 0) (r := (some (X.2.2.2 50))) 0 (by decide +kernel) rfl rfl ?_
  refine wp_iload_n (z := 3) (i := 3) (x := x3) 3 (by decide +kernel) rfl rfl ?_
  refine wp_iconst (z := 3) (v := 3) (by decide +kernel) (by decide) ?_
  refine wp_iadd (by decide +kernel) ?_
  obtain ⟨o13, H⟩ := H
  refine wp_scrald (by decide +kernel) o13 ?_
  show wp X B10_law 1488 [(0, .ref (X.2.2.2 50)), (1, .ref a1), (2, .ref a2), (3, .int x3)] [.int (scr X (x3 + 3)), .int (scr X (x3 + 2)), .int (scr X (x3 + 1)), .ref a1] (G, I, L) k n _
  refine wp_aload_n (z := 0) (i := 0) (r := (some (X.2.2.2 50))) 0 (by decide +kernel) rfl rfl ?_
  refine wp_iload_n (z := 3) (i := 3) (x := x3) 3 (by decide +kernel) rfl rfl ?_
  refine wp_iconst (z := 4) (v := 4) (by decide +kernel) (by decide) ?_
  refine wp_iadd (by decide +kernel) ?_
  obtain ⟨o12, H⟩ := H
  refine wp_scrald (by decide +kernel) o12 ?_
  show wp X B10_law 1493 [(0, .ref (X.2.2.2 50)), (1, .ref a1), (2, .ref a2), (3, .int x3)] [.int (scr X (x3 + 4)), .int (scr X (x3 + 3)), .int (scr X (x3 + 2)), .int (scr X (x3 + 1)), .ref a1] (G, I, L) k n _
  refine wp_callV (idx := 127) (B2 := B8_hold) (As := [.int (scr X (x3 + 1)), .int (scr X (x3 + 2)), .int (scr X (x3 + 3)), .int (scr X (x3 + 4))]) (a := a1) (st := []) (by decide +kernel) m8_hold ml10_127 k8_hold e8_hold ck8 ok1.1 (⟨Nat.le_of_ble_eq_true rfl, Nat.le_of_ble_eq_true rfl⟩ : rOK B10_law B8_hold) rfl (Nat.le_of_ble_eq_true rfl) (Nat.le_of_ble_eq_true rfl) ⟨by show k + 0 ≤ room_1.cells; omega, by show n + 0 ≤ room_1.slots; omega⟩ rfl (wp_mono H (fun v9 M9 hq9 => ?_))
  clear H
  obtain ⟨r3, I1, L2, rfl, rfl, H⟩ := hq9
  show wp X B10_law 1496 [(0, .ref (X.2.2.2 50)), (1, .ref a1), (2, .ref a2), (3, .int x3)] [.int r3] (G, I1, L2) k n _
  refine wp_aload_n (z := 2) (i := 2) (r := (some a2)) 2 (by decide +kernel) rfl rfl ?_
  refine wp_aload_n (z := 0) (i := 0) (r := (some (X.2.2.2 50))) 0 (by decide +kernel) rfl rfl ?_
  refine wp_iload_n (z := 3) (i := 3) (x := x3) 3 (by decide +kernel) rfl rfl ?_
  refine wp_iconst (z := 1) (v := 1) (by decide +kernel) (by decide) ?_
  refine wp_iadd (by decide +kernel) ?_
  obtain ⟨o11, H⟩ := H
  refine wp_scrald (by decide +kernel) o11 ?_
  show wp X B10_law 1502 [(0, .ref (X.2.2.2 50)), (1, .ref a1), (2, .ref a2), (3, .int x3)] [.int (scr X (x3 + 1)), .ref a2, .int r3] (G, I1, L2) k n _
  refine wp_aload_n (z := 0) (i := 0) (r := (some (X.2.2.2 50))) 0 (by decide +kernel) rfl rfl ?_
  refine wp_iload_n (z := 3) (i := 3) (x := x3) 3 (by decide +kernel) rfl rfl ?_
  refine wp_iconst (z := 2) (v := 2) (by decide +kernel) (by decide) ?_
  refine wp_iadd (by decide +kernel) ?_
  obtain ⟨o10, H⟩ := H
  refine wp_scrald (by decide +kernel) o10 ?_
  show wp X B10_law 1507 [(0, .ref (X.2.2.2 50)), (1, .ref a1), (2, .ref a2), (3, .int x3)] [.int (scr X (x3 + 2)), .int (scr X (x3 + 1)), .ref a2, .int r3] (G, I1, L2) k n _
  refine wp_aload_n (z := 0) (i := 0) (r := (some (X.2.2.2 50))) 0 (by decide +kernel) rfl rfl ?_
  refine wp_iload_n (z := 3) (i := 3) (x := x3) 3 (by decide +kernel) rfl rfl ?_
  refine wp_iconst (z := 3) (v := 3) (by decide +kernel) (by decide) ?_
  refine wp_iadd (by decide +kernel) ?_
  obtain ⟨o9, H⟩ := H
  refine wp_scrald (by decide +kernel) o9 ?_
  show wp X B10_law 1512 [(0, .ref (X.2.2.2 50)), (1, .ref a1), (2, .ref a2), (3, .int x3)] [.int (scr X (x3 + 3)), .int (scr X (x3 + 2)), .int (scr X (x3 + 1)), .ref a2, .int r3] (G, I1, L2) k n _
  refine wp_aload_n (z := 0) (i := 0) (r := (some (X.2.2.2 50))) 0 (by decide +kernel) rfl rfl ?_
  refine wp_iload_n (z := 3) (i := 3) (x := x3) 3 (by decide +kernel) rfl rfl ?_
  refine wp_iconst (z := 4) (v := 4) (by decide +kernel) (by decide) ?_
  refine wp_iadd (by decide +kernel) ?_
  obtain ⟨o8, H⟩ := H
  refine wp_scrald (by decide +kernel) o8 ?_
  show wp X B10_law 1517 [(0, .ref (X.2.2.2 50)), (1, .ref a1), (2, .ref a2), (3, .int x3)] [.int (scr X (x3 + 4)), .int (scr X (x3 + 3)), .int (scr X (x3 + 2)), .int (scr X (x3 + 1)), .ref a2, .int r3] (G, I1, L2) k n _
  refine wp_callV (idx := 130) (B2 := B9_hold) (As := [.int (scr X (x3 + 1)), .int (scr X (x3 + 2)), .int (scr X (x3 + 3)), .int (scr X (x3 + 4))]) (a := a2) (st := [.int r3]) (by decide +kernel) m9_hold ml10_130 k9_hold e9_hold ck9 ok2.1 (⟨Nat.le_of_ble_eq_true rfl, Nat.le_of_ble_eq_true rfl⟩ : rOK B10_law B9_hold) rfl (Nat.le_of_ble_eq_true rfl) (Nat.le_of_ble_eq_true rfl) ⟨by show k + 0 ≤ room_1.cells; omega, by show n + 0 ≤ room_1.slots; omega⟩ rfl (wp_mono H (fun v9 M9 hq9 => ?_))
  clear H
  obtain ⟨r6, I4, L5, rfl, rfl, H⟩ := hq9
  show wp X B10_law 1520 [(0, .ref (X.2.2.2 50)), (1, .ref a1), (2, .ref a2), (3, .int x3)] [.int r6, .int r3] (G, I4, L5) k n _
  refine wp_icmp_eq (off := 319) (tgt := 1839) (by decide +kernel) (by decide) (fun c7 => ?_) (fun c7 => ?_)
  · rw [if_pos c7] at H
    refine wp_iinc (i := 3) (z := 6) (v := 6) (lv' := [(3, .int (x3 + 6)), (0, .ref (X.2.2.2 50)), (1, .ref a1), (2, .ref a2)]) 3 (by decide +kernel) rfl (by decide) (by decide) rfl ?_
    refine wp_goto (off := -1824) (tgt := 18) (by decide +kernel) (by decide) ?_
    exact wp_sub [1, 2, 3, 0] rfl H
  · rw [if_neg c7] at H
    refine wp_iconst (z := 0) (v := 0) (by decide +kernel) (by decide) ?_
    exact wp_zret (by decide +kernel) rfl (by decide) (by show k ≤ room_1.cells; omega) (by show n ≤ room_1.slots; omega) ⟨_, rfl, H⟩
set_option maxRecDepth 20000 in
theorem b10_law_1525 {X : XX} {G : GG} {I : Nat → Nat → Int32} {L : Nat → Nat → Int64} {k : Nat} {n : Nat} {a1 : Nat} {a2 : Nat} {x3 : Int32} {Q : Int32 → GG → (Nat → Nat → Int32) → (Nat → Nat → Int64) → Prop} (hk : k + 100 ≤ room_1.cells) (hn : n + 3000 ≤ room_1.slots) (ok1 : OK8 G a1) (ok2 : OK9 G a2) (H : vp_in (x3 + 1) (X.2.2.2 51) ∧ (vp_in (x3 + 2) (X.2.2.2 51) ∧ (vp_in (x3 + 3) (X.2.2.2 51) ∧ (vp_in (x3 + 4) (X.2.2.2 51) ∧ (wpI X B8_rhyme 0 [(0, .ref a1), (1, .int (scr X (x3 + 1))), (2, .int (scr X (x3 + 2))), (3, .int (scr X (x3 + 3))), (4, .int (scr X (x3 + 4)))] [] G I L (fun r3 I1 L2 => vp_in (x3 + 1) (X.2.2.2 51) ∧ (vp_in (x3 + 2) (X.2.2.2 51) ∧ (vp_in (x3 + 3) (X.2.2.2 51) ∧ (vp_in (x3 + 4) (X.2.2.2 51) ∧ (wpI X B9_rhyme 0 [(0, .ref a2), (1, .int (scr X (x3 + 1))), (2, .int (scr X (x3 + 2))), (3, .int (scr X (x3 + 3))), (4, .int (scr X (x3 + 4)))] [] G I1 L2 (fun r6 I4 L5 => if r3 = r6 then (wgI X B10_law 18 [(0, .ref (X.2.2.2 50)), (1, .ref a1), (2, .ref a2), (3, .int (x3 + 6))] [] G I4 L5 k n Q) else (Q 0 G I4 L5)))))))))))) : wgI X B10_law 1525 [(0, .ref (X.2.2.2 50)), (1, .ref a1), (2, .ref a2), (3, .int x3)] [] G I L k n Q := by
  refine wp_aload_n (z := 1) (i := 1) (r := (some a1)) 1 (by decide +kernel) rfl rfl ?_
  refine wp_aload_n (z := 0) (i := 0) (r := (some (X.2.2.2 50))) 0 (by decide +kernel) rfl rfl ?_
  refine wp_iload_n (z := 3) (i := 3) (x := x3) 3 (by decide +kernel) rfl rfl ?_
  refine wp_iconst (z := 1) (v := 1) (by decide +kernel) (by decide) ?_
  refine wp_iadd (by decide +kernel) ?_
  obtain ⟨o15, H⟩ := H
  refine wp_scrald (by decide +kernel) o15 ?_
  show wp X B10_law 1531 [(0, .ref (X.2.2.2 50)), (1, .ref a1), (2, .ref a2), (3, .int x3)] [.int (scr X (x3 + 1)), .ref a1] (G, I, L) k n _
  refine wp_aload_n (z := 0) (i := 0) (r := (some (X.2.2.2 50))) 0 (by decide +kernel) rfl rfl ?_
  refine wp_iload_n (z := 3) (i := 3) (x := x3) 3 (by decide +kernel) rfl rfl ?_
  refine wp_iconst (z := 2) (v := 2) (by decide +kernel) (by decide) ?_
  refine wp_iadd (by decide +kernel) ?_
  obtain ⟨o14, H⟩ := H
  refine wp_scrald (by decide +kernel) o14 ?_
  show wp X B10_law 1536 [(0, .ref (X.2.2.2 50)), (1, .ref a1), (2, .ref a2), (3, .int x3)] [.int (scr X (x3 + 2)), .int (scr X (x3 + 1)), .ref a1] (G, I, L) k n _
  refine wp_aload_n (z := 0) (i := 0) (r := (some (X.2.2.2 50))) 0 (by decide +kernel) rfl rfl ?_
  refine wp_iload_n (z := 3) (i := 3) (x := x3) 3 (by decide +kernel) rfl rfl ?_
  refine wp_iconst (z := 3) (v := 3) (by decide +kernel) (by decide) ?_
  refine wp_iadd (by decide +kernel) ?_
  obtain ⟨o13, H⟩ := H
  refine wp_scrald (by decide +kernel) o13 ?_
  show wp X B10_law 1541 [(0, .ref (X.2.2.2 50)), (1, .ref a1), (2, .ref a2), (3, .int x3)] [.int (scr X (x3 + 3)), .int (scr X (x3 + 2)), .int (scr X (x3 + 1)), .ref a1] (G, I, L) k n _
  refine wp_aload_n (z := 0) (i := 0) (r := (some (X.2.2.2 50))) 0 (by decide +kernel) rfl rfl ?_
  refine wp_iload_n (z := 3) (i := 3) (x := x3) 3 (by decide +kernel) rfl rfl ?_
  refine wp_iconst (z := 4) (v := 4) (by decide +kernel) (by decide) ?_
  refine wp_iadd (by decide +kernel) ?_
  obtain ⟨o12, H⟩ := H
  refine wp_scrald (by decide +kernel) o12 ?_
  show wp X B10_law 1546 [(0, .ref (X.2.2.2 50)), (1, .ref a1), (2, .ref a2), (3, .int x3)] [.int (scr X (x3 + 4)), .int (scr X (x3 + 3)), .int (scr X (x3 + 2)), .int (scr X (x3 + 1)), .ref a1] (G, I, L) k n _
  refine wp_callV (idx := 131) (B2 := B8_rhyme) (As := [.int (scr X (x3 + 1)), .int (scr X (x3 + 2)), .int (scr X (x3 + 3)), .int (scr X (x3 + 4))]) (a := a1) (st := []) (by decide +kernel) m8_rhyme ml10_131 k8_rhyme e8_rhyme ck8 ok1.1 (⟨Nat.le_of_ble_eq_true rfl, Nat.le_of_ble_eq_true rfl⟩ : rOK B10_law B8_rhyme) rfl (Nat.le_of_ble_eq_true rfl) (Nat.le_of_ble_eq_true rfl) ⟨by show k + 0 ≤ room_1.cells; omega, by show n + 0 ≤ room_1.slots; omega⟩ rfl (wp_mono H (fun v9 M9 hq9 => ?_))
  clear H
  obtain ⟨r3, I1, L2, rfl, rfl, H⟩ := hq9
  show wp X B10_law 1549 [(0, .ref (X.2.2.2 50)), (1, .ref a1), (2, .ref a2), (3, .int x3)] [.int r3] (G, I1, L2) k n _
  refine wp_aload_n (z := 2) (i := 2) (r := (some a2)) 2 (by decide +kernel) rfl rfl ?_
  refine wp_aload_n (z := 0) (i := 0) (r := (some (X.2.2.2 50))) 0 (by decide +kernel) rfl rfl ?_
  refine wp_iload_n (z := 3) (i := 3) (x := x3) 3 (by decide +kernel) rfl rfl ?_
  refine wp_iconst (z := 1) (v := 1) (by decide +kernel) (by decide) ?_
  refine wp_iadd (by decide +kernel) ?_
  obtain ⟨o11, H⟩ := H
  refine wp_scrald (by decide +kernel) o11 ?_
  show wp X B10_law 1555 [(0, .ref (X.2.2.2 50)), (1, .ref a1), (2, .ref a2), (3, .int x3)] [.int (scr X (x3 + 1)), .ref a2, .int r3] (G, I1, L2) k n _
  refine wp_aload_n (z := 0) (i := 0) (r := (some (X.2.2.2 50))) 0 (by decide +kernel) rfl rfl ?_
  refine wp_iload_n (z := 3) (i := 3) (x := x3) 3 (by decide +kernel) rfl rfl ?_
  refine wp_iconst (z := 2) (v := 2) (by decide +kernel) (by decide) ?_
  refine wp_iadd (by decide +kernel) ?_
  obtain ⟨o10, H⟩ := H
  refine wp_scrald (by decide +kernel) o10 ?_
  show wp X B10_law 1560 [(0, .ref (X.2.2.2 50)), (1, .ref a1), (2, .ref a2), (3, .int x3)] [.int (scr X (x3 + 2)), .int (scr X (x3 + 1)), .ref a2, .int r3] (G, I1, L2) k n _
  refine wp_aload_n (z := 0) (i := 0) (r := (some (X.2.2.2 50))) 0 (by decide +kernel) rfl rfl ?_
  refine wp_iload_n (z := 3) (i := 3) (x := x3) 3 (by decide +kernel) rfl rfl ?_
  refine wp_iconst (z := 3) (v := 3) (by decide +kernel) (by decide) ?_
  refine wp_iadd (by decide +kernel) ?_
  obtain ⟨o9, H⟩ := H
  refine wp_scrald (by decide +kernel) o9 ?_
  show wp X B10_law 1565 [(0, .ref (X.2.2.2 50)), (1, .ref a1), (2, .ref a2), (3, .int x3)] [.int (scr X (x3 + 3)), .int (scr X (x3 + 2)), .int (scr X (x3 + 1)), .ref a2, .int r3] (G, I1, L2) k n _
  refine wp_aload_n (z := 0) (i := 0) (r := (some (X.2.2.2 50))) 0 (by decide +kernel) rfl rfl ?_
  refine wp_iload_n (z := 3) (i := 3) (x := x3) 3 (by decide +kernel) rfl rfl ?_
  refine wp_iconst (z := 4) (v := 4) (by decide +kernel) (by decide) ?_
  refine wp_iadd (by decide +kernel) ?_
  obtain ⟨o8, H⟩ := H
  refine wp_scrald (by decide +kernel) o8 ?_
  show wp X B10_law 1570 [(0, .ref (X.2.2.2 50)), (1, .ref a1), (2, .ref a2), (3, .int x3)] [.int (scr X (x3 + 4)), .int (scr X (x3 + 3)), .int (scr X (x3 + 2)), .int (scr X (x3 + 1)), .ref a2, .int r3] (G, I1, L2) k n _
  refine wp_callV (idx := 134) (B2 := B9_rhyme) (As := [.int (scr X (x3 + 1)), .int (scr X (x3 + 2)), .int (scr X (x3 + 3)), .int (scr X (x3 + 4))]) (a := a2) (st := [.int r3]) (by decide +kernel) m9_rhyme ml10_134 k9_rhyme e9_rhyme ck9 ok2.1 (⟨Nat.le_of_ble_eq_true rfl, Nat.le_of_ble_eq_true rfl⟩ : rOK B10_law B9_rhyme) rfl (Nat.le_of_ble_eq_true rfl) (Nat.le_of_ble_eq_true rfl) ⟨by show k + 0 ≤ room_1.cells; omega, by show n + 0 ≤ room_1.slots; omega⟩ rfl (wp_mono H (fun v9 M9 hq9 => ?_))
  clear H
  obtain ⟨r6, I4, L5, rfl, rfl, H⟩ := hq9
  show wp X B10_law 1573 [(0, .ref (X.2.2.2 50)), (1, .ref a1), (2, .ref a2), (3, .int x3)] [.int r6, .int r3] (G, I4, L5) k n _
  refine wp_icmp_eq (off := 266) (tgt := 1839) (by decide +kernel) (by decide) (fun c7 => ?_) (fun c7 => ?_)
  · rw [if_pos c7] at H
    refine wp_iinc (i := 3) (z := 6) (v := 6) (lv' := [(3, .int (x3 + 6)), (0, .ref (X.2.2.2 50)), (1, .ref a1), (2, .ref a2)]) 3 (by decide +kernel) rfl (by decide) (by decide) rfl ?_
    refine wp_goto (off := -1824) (tgt := 18) (by decide +kernel) (by decide) ?_
    exact wp_sub [1, 2, 3, 0] rfl H
  · rw [if_neg c7] at H
    refine wp_iconst (z := 0) (v := 0) (by decide +kernel) (by decide) ?_
    exact wp_zret (by decide +kernel) rfl (by decide) (by show k ≤ room_1.cells; omega) (by show n ≤ room_1.slots; omega) ⟨_, rfl, H⟩
set_option maxRecDepth 20000 in
theorem b10_law_1578 {X : XX} {G : GG} {I : Nat → Nat → Int32} {L : Nat → Nat → Int64} {k : Nat} {n : Nat} {a1 : Nat} {a2 : Nat} {x3 : Int32} {Q : Int32 → GG → (Nat → Nat → Int32) → (Nat → Nat → Int64) → Prop} (hk : k + 100 ≤ room_1.cells) (hn : n + 3000 ≤ room_1.slots) (ok1 : OK8 G a1) (ok2 : OK9 G a2) (H : vp_in (x3 + 1) (X.2.2.2 51) ∧ (vp_in (x3 + 2) (X.2.2.2 51) ∧ (vp_in (x3 + 3) (X.2.2.2 51) ∧ (wgI X B8_after 0 [(0, .ref a1), (1, .int (scr X (x3 + 1))), (2, .int (scr X (x3 + 2))), (3, .int (scr X (x3 + 3)))] [] G I L 0 0 (fun r3 G4 I1 L2 => vp_in (x3 + 1) (X.2.2.2 51) ∧ (vp_in (x3 + 2) (X.2.2.2 51) ∧ (vp_in (x3 + 3) (X.2.2.2 51) ∧ (OK9 G4 a2 ∧ (wpI X B9_after 0 [(0, .ref a2), (1, .int (scr X (x3 + 1))), (2, .int (scr X (x3 + 2))), (3, .int (scr X (x3 + 3)))] [] G4 I1 L2 (fun r8 I6 L7 => if r3 = r8 then (wgI X B10_law 18 [(0, .ref (X.2.2.2 50)), (1, .ref a1), (2, .ref a2), (3, .int (x3 + 6))] [] G4 I6 L7 k n Q) else (Q 0 G4 I6 L7))))))))))) : wgI X B10_law 1578 [(0, .ref (X.2.2.2 50)), (1, .ref a1), (2, .ref a2), (3, .int x3)] [] G I L k n Q := by
  refine wp_aload_n (z := 1) (i := 1) (r := (some a1)) 1 (by decide +kernel) rfl rfl ?_
  refine wp_aload_n (z := 0) (i := 0) (r := (some (X.2.2.2 50))) 0 (by decide +kernel) rfl rfl ?_
  refine wp_iload_n (z := 3) (i := 3) (x := x3) 3 (by decide +kernel) rfl rfl ?_
  refine wp_iconst (z := 1) (v := 1) (by decide +kernel) (by decide) ?_
  refine wp_iadd (by decide +kernel) ?_
  obtain ⟨o15, H⟩ := H
  refine wp_scrald (by decide +kernel) o15 ?_
  show wp X B10_law 1584 [(0, .ref (X.2.2.2 50)), (1, .ref a1), (2, .ref a2), (3, .int x3)] [.int (scr X (x3 + 1)), .ref a1] (G, I, L) k n _
  refine wp_aload_n (z := 0) (i := 0) (r := (some (X.2.2.2 50))) 0 (by decide +kernel) rfl rfl ?_
  refine wp_iload_n (z := 3) (i := 3) (x := x3) 3 (by decide +kernel) rfl rfl ?_
  refine wp_iconst (z := 2) (v := 2) (by decide +kernel) (by decide) ?_
  refine wp_iadd (by decide +kernel) ?_
  obtain ⟨o14, H⟩ := H
  refine wp_scrald (by decide +kernel) o14 ?_
  show wp X B10_law 1589 [(0, .ref (X.2.2.2 50)), (1, .ref a1), (2, .ref a2), (3, .int x3)] [.int (scr X (x3 + 2)), .int (scr X (x3 + 1)), .ref a1] (G, I, L) k n _
  refine wp_aload_n (z := 0) (i := 0) (r := (some (X.2.2.2 50))) 0 (by decide +kernel) rfl rfl ?_
  refine wp_iload_n (z := 3) (i := 3) (x := x3) 3 (by decide +kernel) rfl rfl ?_
  refine wp_iconst (z := 3) (v := 3) (by decide +kernel) (by decide) ?_
  refine wp_iadd (by decide +kernel) ?_
  obtain ⟨o13, H⟩ := H
  refine wp_scrald (by decide +kernel) o13 ?_
  show wp X B10_law 1594 [(0, .ref (X.2.2.2 50)), (1, .ref a1), (2, .ref a2), (3, .int x3)] [.int (scr X (x3 + 3)), .int (scr X (x3 + 2)), .int (scr X (x3 + 1)), .ref a1] (G, I, L) k n _
  refine wp_callV (idx := 135) (B2 := B8_after) (As := [.int (scr X (x3 + 1)), .int (scr X (x3 + 2)), .int (scr X (x3 + 3))]) (a := a1) (st := []) (by decide +kernel) m8_after ml10_135 k8_after e8_after ck8 ok1.1 (⟨Nat.le_of_ble_eq_true rfl, Nat.le_of_ble_eq_true rfl⟩ : rOK B10_law B8_after) rfl (Nat.le_of_ble_eq_true rfl) (Nat.le_of_ble_eq_true rfl) ⟨by show k + 0 ≤ room_1.cells; omega, by show n + 0 ≤ room_1.slots; omega⟩ rfl (wp_mono H (fun v9 M9 hq9 => ?_))
  clear H
  obtain ⟨G4, I1, L2⟩ := M9
  obtain ⟨r3, rfl, H⟩ := hq9
  try dsimp only at H
  show wp X B10_law 1597 [(0, .ref (X.2.2.2 50)), (1, .ref a1), (2, .ref a2), (3, .int x3)] [.int r3] (G4, I1, L2) k n _
  refine wp_aload_n (z := 2) (i := 2) (r := (some a2)) 2 (by decide +kernel) rfl rfl ?_
  refine wp_aload_n (z := 0) (i := 0) (r := (some (X.2.2.2 50))) 0 (by decide +kernel) rfl rfl ?_
  refine wp_iload_n (z := 3) (i := 3) (x := x3) 3 (by decide +kernel) rfl rfl ?_
  refine wp_iconst (z := 1) (v := 1) (by decide +kernel) (by decide) ?_
  refine wp_iadd (by decide +kernel) ?_
  obtain ⟨o12, H⟩ := H
  refine wp_scrald (by decide +kernel) o12 ?_
  show wp X B10_law 1603 [(0, .ref (X.2.2.2 50)), (1, .ref a1), (2, .ref a2), (3, .int x3)] [.int (scr X (x3 + 1)), .ref a2, .int r3] (G4, I1, L2) k n _
  refine wp_aload_n (z := 0) (i := 0) (r := (some (X.2.2.2 50))) 0 (by decide +kernel) rfl rfl ?_
  refine wp_iload_n (z := 3) (i := 3) (x := x3) 3 (by decide +kernel) rfl rfl ?_
  refine wp_iconst (z := 2) (v := 2) (by decide +kernel) (by decide) ?_
  refine wp_iadd (by decide +kernel) ?_
  obtain ⟨o11, H⟩ := H
  refine wp_scrald (by decide +kernel) o11 ?_
  show wp X B10_law 1608 [(0, .ref (X.2.2.2 50)), (1, .ref a1), (2, .ref a2), (3, .int x3)] [.int (scr X (x3 + 2)), .int (scr X (x3 + 1)), .ref a2, .int r3] (G4, I1, L2) k n _
  refine wp_aload_n (z := 0) (i := 0) (r := (some (X.2.2.2 50))) 0 (by decide +kernel) rfl rfl ?_
  refine wp_iload_n (z := 3) (i := 3) (x := x3) 3 (by decide +kernel) rfl rfl ?_
  refine wp_iconst (z := 3) (v := 3) (by decide +kernel) (by decide) ?_
  refine wp_iadd (by decide +kernel) ?_
  obtain ⟨o10, H⟩ := H
  refine wp_scrald (by decide +kernel) o10 ?_
  show wp X B10_law 1613 [(0, .ref (X.2.2.2 50)), (1, .ref a1), (2, .ref a2), (3, .int x3)] [.int (scr X (x3 + 3)), .int (scr X (x3 + 2)), .int (scr X (x3 + 1)), .ref a2, .int r3] (G4, I1, L2) k n _
  obtain ⟨f5, H⟩ := H
  refine wp_callV (idx := 138) (B2 := B9_after) (As := [.int (scr X (x3 + 1)), .int (scr X (x3 + 2)), .int (scr X (x3 + 3))]) (a := a2) (st := [.int r3]) (by decide +kernel) m9_after ml10_138 k9_after e9_after ck9 f5.1 (⟨Nat.le_of_ble_eq_true rfl, Nat.le_of_ble_eq_true rfl⟩ : rOK B10_law B9_after) rfl (Nat.le_of_ble_eq_true rfl) (Nat.le_of_ble_eq_true rfl) ⟨by show k + 0 ≤ room_1.cells; omega, by show n + 0 ≤ room_1.slots; omega⟩ rfl (wp_mono H (fun v9 M9 hq9 => ?_))
  clear H
  obtain ⟨r8, I6, L7, rfl, rfl, H⟩ := hq9
  show wp X B10_law 1616 [(0, .ref (X.2.2.2 50)), (1, .ref a1), (2, .ref a2), (3, .int x3)] [.int r8, .int r3] (G4, I6, L7) k n _
  refine wp_icmp_eq (off := 223) (tgt := 1839) (by decide +kernel) (by decide) (fun c9 => ?_) (fun c9 => ?_)
  · rw [if_pos c9] at H
    refine wp_iinc (i := 3) (z := 6) (v := 6) (lv' := [(3, .int (x3 + 6)), (0, .ref (X.2.2.2 50)), (1, .ref a1), (2, .ref a2)]) 3 (by decide +kernel) rfl (by decide) (by decide) rfl ?_
    refine wp_goto (off := -1824) (tgt := 18) (by decide +kernel) (by decide) ?_
    exact wp_sub [1, 2, 3, 0] rfl H
  · rw [if_neg c9] at H
    refine wp_iconst (z := 0) (v := 0) (by decide +kernel) (by decide) ?_
    exact wp_zret (by decide +kernel) rfl (by decide) (by show k ≤ room_1.cells; omega) (by show n ≤ room_1.slots; omega) ⟨_, rfl, H⟩
set_option maxRecDepth 20000 in
theorem b10_law_1621 {X : XX} {G : GG} {I : Nat → Nat → Int32} {L : Nat → Nat → Int64} {k : Nat} {n : Nat} {a1 : Nat} {a2 : Nat} {x3 : Int32} {Q : Int32 → GG → (Nat → Nat → Int32) → (Nat → Nat → Int64) → Prop} (hk : k + 100 ≤ room_1.cells) (hn : n + 3000 ≤ room_1.slots) (ok1 : OK8 G a1) (ok2 : OK9 G a2) (H : vp_in (x3 + 1) (X.2.2.2 51) ∧ (vp_in (x3 + 2) (X.2.2.2 51) ∧ (vp_in (x3 + 3) (X.2.2.2 51) ∧ (vp_in (x3 + 4) (X.2.2.2 51) ∧ (vp_in (x3 + 5) (X.2.2.2 51) ∧ (if (scr X (x3 + 5)) = (0 : Int32) then (wpJ X B8_odds 0 [(0, .ref a1), (1, .int (scr X (x3 + 1))), (2, .int (scr X (x3 + 2))), (3, .int (scr X (x3 + 3))), (4, .int (scr X (x3 + 4))), (5, .int 0)] [] G I L (fun r4 I2 L3 => vp_in (x3 + 1) (X.2.2.2 51) ∧ (vp_in (x3 + 2) (X.2.2.2 51) ∧ (vp_in (x3 + 3) (X.2.2.2 51) ∧ (vp_in (x3 + 4) (X.2.2.2 51) ∧ (vp_in (x3 + 5) (X.2.2.2 51) ∧ (if (scr X (x3 + 5)) = (0 : Int32) then (wpJ X B9_odds 0 [(0, .ref a2), (1, .int (scr X (x3 + 1))), (2, .int (scr X (x3 + 2))), (3, .int (scr X (x3 + 3))), (4, .int (scr X (x3 + 4))), (5, .int 0)] [] G I2 L3 (fun r8 I6 L7 => if (lg_cmp r4 r8) = (0 : Int32) then (wgI X B10_law 18 [(0, .ref (X.2.2.2 50)), (1, .ref a1), (2, .ref a2), (3, .int (x3 + 6))] [] G I6 L7 k n Q) else (Q 0 G I6 L7))) else (wpJ X B9_odds 0 [(0, .ref a2), (1, .int (scr X (x3 + 1))), (2, .int (scr X (x3 + 2))), (3, .int (scr X (x3 + 3))), (4, .int (scr X (x3 + 4))), (5, .int 1)] [] G I2 L3 (fun r12 I10 L11 => if (lg_cmp r4 r12) = (0 : Int32) then (wgI X B10_law 18 [(0, .ref (X.2.2.2 50)), (1, .ref a1), (2, .ref a2), (3, .int (x3 + 6))] [] G I10 L11 k n Q) else (Q 0 G I10 L11)))))))))) else (wpJ X B8_odds 0 [(0, .ref a1), (1, .int (scr X (x3 + 1))), (2, .int (scr X (x3 + 2))), (3, .int (scr X (x3 + 3))), (4, .int (scr X (x3 + 4))), (5, .int 1)] [] G I L (fun r21 I19 L20 => vp_in (x3 + 1) (X.2.2.2 51) ∧ (vp_in (x3 + 2) (X.2.2.2 51) ∧ (vp_in (x3 + 3) (X.2.2.2 51) ∧ (vp_in (x3 + 4) (X.2.2.2 51) ∧ (vp_in (x3 + 5) (X.2.2.2 51) ∧ (if (scr X (x3 + 5)) = (0 : Int32) then (wpJ X B9_odds 0 [(0, .ref a2), (1, .int (scr X (x3 + 1))), (2, .int (scr X (x3 + 2))), (3, .int (scr X (x3 + 3))), (4, .int (scr X (x3 + 4))), (5, .int 0)] [] G I19 L20 (fun r25 I23 L24 => if (lg_cmp r21 r25) = (0 : Int32) then (wgI X B10_law 18 [(0, .ref (X.2.2.2 50)), (1, .ref a1), (2, .ref a2), (3, .int (x3 + 6))] [] G I23 L24 k n Q) else (Q 0 G I23 L24))) else (wpJ X B9_odds 0 [(0, .ref a2), (1, .int (scr X (x3 + 1))), (2, .int (scr X (x3 + 2))), (3, .int (scr X (x3 + 3))), (4, .int (scr X (x3 + 4))), (5, .int 1)] [] G I19 L20 (fun r29 I27 L28 => if (lg_cmp r21 r29) = (0 : Int32) then (wgI X B10_law 18 [(0, .ref (X.2.2.2 50)), (1, .ref a1), (2, .ref a2), (3, .int (x3 + 6))] [] G I27 L28 k n Q) else (Q 0 G I27 L28)))))))))))))))) : wgI X B10_law 1621 [(0, .ref (X.2.2.2 50)), (1, .ref a1), (2, .ref a2), (3, .int x3)] [] G I L k n Q := by
  refine wp_aload_n (z := 1) (i := 1) (r := (some a1)) 1 (by decide +kernel) rfl rfl ?_
  refine wp_aload_n (z := 0) (i := 0) (r := (some (X.2.2.2 50))) 0 (by decide +kernel) rfl rfl ?_
  refine wp_iload_n (z := 3) (i := 3) (x := x3) 3 (by decide +kernel) rfl rfl ?_
  refine wp_iconst (z := 1) (v := 1) (by decide +kernel) (by decide) ?_
  refine wp_iadd (by decide +kernel) ?_
  obtain ⟨o40, H⟩ := H
  refine wp_scrald (by decide +kernel) o40 ?_
  show wp X B10_law 1627 [(0, .ref (X.2.2.2 50)), (1, .ref a1), (2, .ref a2), (3, .int x3)] [.int (scr X (x3 + 1)), .ref a1] (G, I, L) k n _
  refine wp_aload_n (z := 0) (i := 0) (r := (some (X.2.2.2 50))) 0 (by decide +kernel) rfl rfl ?_
  refine wp_iload_n (z := 3) (i := 3) (x := x3) 3 (by decide +kernel) rfl rfl ?_
  refine wp_iconst (z := 2) (v := 2) (by decide +kernel) (by decide) ?_
  refine wp_iadd (by decide +kernel) ?_
  obtain ⟨o39, H⟩ := H
  refine wp_scrald (by decide +kernel) o39 ?_
  show wp X B10_law 1632 [(0, .ref (X.2.2.2 50)), (1, .ref a1), (2, .ref a2), (3, .int x3)] [.int (scr X (x3 + 2)), .int (scr X (x3 + 1)), .ref a1] (G, I, L) k n _
  refine wp_aload_n (z := 0) (i := 0) (r := (some (X.2.2.2 50))) 0 (by decide +kernel) rfl rfl ?_
  refine wp_iload_n (z := 3) (i := 3) (x := x3) 3 (by decide +kernel) rfl rfl ?_
  refine wp_iconst (z := 3) (v := 3) (by decide +kernel) (by decide) ?_
  refine wp_iadd (by decide +kernel) ?_
  obtain ⟨o38, H⟩ := H
  refine wp_scrald (by decide +kernel) o38 ?_
  show wp X B10_law 1637 [(0, .ref (X.2.2.2 50)), (1, .ref a1), (2, .ref a2), (3, .int x3)] [.int (scr X (x3 + 3)), .int (scr X (x3 + 2)), .int (scr X (x3 + 1)), .ref a1] (G, I, L) k n _
  refine wp_aload_n (z := 0) (i := 0) (r := (some (X.2.2.2 50))) 0 (by decide +kernel) rfl rfl ?_
  refine wp_iload_n (z := 3) (i := 3) (x := x3) 3 (by decide +kernel) rfl rfl ?_
  refine wp_iconst (z := 4) (v := 4) (by decide +kernel) (by decide) ?_
  refine wp_iadd (by decide +kernel) ?_
  obtain ⟨o37, H⟩ := H
  refine wp_scrald (by decide +kernel) o37 ?_
  show wp X B10_law 1642 [(0, .ref (X.2.2.2 50)), (1, .ref a1), (2, .ref a2), (3, .int x3)] [.int (scr X (x3 + 4)), .int (scr X (x3 + 3)), .int (scr X (x3 + 2)), .int (scr X (x3 + 1)), .ref a1] (G, I, L) k n _
  refine wp_aload_n (z := 0) (i := 0) (r := (some (X.2.2.2 50))) 0 (by decide +kernel) rfl rfl ?_
  refine wp_iload_n (z := 3) (i := 3) (x := x3) 3 (by decide +kernel) rfl rfl ?_
  refine wp_iconst (z := 5) (v := 5) (by decide +kernel) (by decide) ?_
  refine wp_iadd (by decide +kernel) ?_
  obtain ⟨o36, H⟩ := H
  refine wp_scrald (by decide +kernel) o36 ?_
  show wp X B10_law 1647 [(0, .ref (X.2.2.2 50)), (1, .ref a1), (2, .ref a2), (3, .int x3)] [.int (scr X (x3 + 5)), .int (scr X (x3 + 4)), .int (scr X (x3 + 3)), .int (scr X (x3 + 2)), .int (scr X (x3 + 1)), .ref a1] (G, I, L) k n _
  refine wp_if_eq (off := 7) (tgt := 1654) (by decide +kernel) (by decide) (fun c1 => ?_) (fun c1 => ?_)
  · rw [if_pos c1] at H
    refine wp_iconst (z := 0) (v := 0) (by decide +kernel) (by decide) ?_
    refine wp_callV (idx := 139) (B2 := B8_odds) (As := [.int (scr X (x3 + 1)), .int (scr X (x3 + 2)), .int (scr X (x3 + 3)), .int (scr X (x3 + 4)), .int 0]) (a := a1) (st := []) (by decide +kernel) m8_odds ml10_139 k8_odds e8_odds ck8 ok1.1 (⟨Nat.le_of_ble_eq_true rfl, Nat.le_of_ble_eq_true rfl⟩ : rOK B10_law B8_odds) rfl (Nat.le_of_ble_eq_true rfl) (Nat.le_of_ble_eq_true rfl) ⟨by show k + 0 ≤ room_1.cells; omega, by show n + 0 ≤ room_1.slots; omega⟩ rfl (wp_mono H (fun v9 M9 hq9 => ?_))
    clear H
    obtain ⟨r4, I2, L3, rfl, rfl, H⟩ := hq9
    show wp X B10_law 1658 [(0, .ref (X.2.2.2 50)), (1, .ref a1), (2, .ref a2), (3, .int x3)] [.long r4] (G, I2, L3) k n _
    refine wp_aload_n (z := 2) (i := 2) (r := (some a2)) 2 (by decide +kernel) rfl rfl ?_
    refine wp_aload_n (z := 0) (i := 0) (r := (some (X.2.2.2 50))) 0 (by decide +kernel) rfl rfl ?_
    refine wp_iload_n (z := 3) (i := 3) (x := x3) 3 (by decide +kernel) rfl rfl ?_
    refine wp_iconst (z := 1) (v := 1) (by decide +kernel) (by decide) ?_
    refine wp_iadd (by decide +kernel) ?_
    obtain ⟨o18, H⟩ := H
    refine wp_scrald (by decide +kernel) o18 ?_
    show wp X B10_law 1664 [(0, .ref (X.2.2.2 50)), (1, .ref a1), (2, .ref a2), (3, .int x3)] [.int (scr X (x3 + 1)), .ref a2, .long r4] (G, I2, L3) k n _
    refine wp_aload_n (z := 0) (i := 0) (r := (some (X.2.2.2 50))) 0 (by decide +kernel) rfl rfl ?_
    refine wp_iload_n (z := 3) (i := 3) (x := x3) 3 (by decide +kernel) rfl rfl ?_
    refine wp_iconst (z := 2) (v := 2) (by decide +kernel) (by decide) ?_
    refine wp_iadd (by decide +kernel) ?_
    obtain ⟨o17, H⟩ := H
    refine wp_scrald (by decide +kernel) o17 ?_
    show wp X B10_law 1669 [(0, .ref (X.2.2.2 50)), (1, .ref a1), (2, .ref a2), (3, .int x3)] [.int (scr X (x3 + 2)), .int (scr X (x3 + 1)), .ref a2, .long r4] (G, I2, L3) k n _
    refine wp_aload_n (z := 0) (i := 0) (r := (some (X.2.2.2 50))) 0 (by decide +kernel) rfl rfl ?_
    refine wp_iload_n (z := 3) (i := 3) (x := x3) 3 (by decide +kernel) rfl rfl ?_
    refine wp_iconst (z := 3) (v := 3) (by decide +kernel) (by decide) ?_
    refine wp_iadd (by decide +kernel) ?_
    obtain ⟨o16, H⟩ := H
    refine wp_scrald (by decide +kernel) o16 ?_
    show wp X B10_law 1674 [(0, .ref (X.2.2.2 50)), (1, .ref a1), (2, .ref a2), (3, .int x3)] [.int (scr X (x3 + 3)), .int (scr X (x3 + 2)), .int (scr X (x3 + 1)), .ref a2, .long r4] (G, I2, L3) k n _
    refine wp_aload_n (z := 0) (i := 0) (r := (some (X.2.2.2 50))) 0 (by decide +kernel) rfl rfl ?_
    refine wp_iload_n (z := 3) (i := 3) (x := x3) 3 (by decide +kernel) rfl rfl ?_
    refine wp_iconst (z := 4) (v := 4) (by decide +kernel) (by decide) ?_
    refine wp_iadd (by decide +kernel) ?_
    obtain ⟨o15, H⟩ := H
    refine wp_scrald (by decide +kernel) o15 ?_
    show wp X B10_law 1679 [(0, .ref (X.2.2.2 50)), (1, .ref a1), (2, .ref a2), (3, .int x3)] [.int (scr X (x3 + 4)), .int (scr X (x3 + 3)), .int (scr X (x3 + 2)), .int (scr X (x3 + 1)), .ref a2, .long r4] (G, I2, L3) k n _
    refine wp_aload_n (z := 0) (i := 0) (r := (some (X.2.2.2 50))) 0 (by decide +kernel) rfl rfl ?_
    refine wp_iload_n (z := 3) (i := 3) (x := x3) 3 (by decide +kernel) rfl rfl ?_
    refine wp_iconst (z := 5) (v := 5) (by decide +kernel) (by decide) ?_
    refine wp_iadd (by decide +kernel) ?_
    obtain ⟨o14, H⟩ := H
    refine wp_scrald (by decide +kernel) o14 ?_
    show wp X B10_law 1684 [(0, .ref (X.2.2.2 50)), (1, .ref a1), (2, .ref a2), (3, .int x3)] [.int (scr X (x3 + 5)), .int (scr X (x3 + 4)), .int (scr X (x3 + 3)), .int (scr X (x3 + 2)), .int (scr X (x3 + 1)), .ref a2, .long r4] (G, I2, L3) k n _
    refine wp_if_eq (off := 7) (tgt := 1691) (by decide +kernel) (by decide) (fun c5 => ?_) (fun c5 => ?_)
    · rw [if_pos c5] at H
      refine wp_iconst (z := 0) (v := 0) (by decide +kernel) (by decide) ?_
      refine wp_callV (idx := 142) (B2 := B9_odds) (As := [.int (scr X (x3 + 1)), .int (scr X (x3 + 2)), .int (scr X (x3 + 3)), .int (scr X (x3 + 4)), .int 0]) (a := a2) (st := [.long r4]) (by decide +kernel) m9_odds ml10_142 k9_odds e9_odds ck9 ok2.1 (⟨Nat.le_of_ble_eq_true rfl, Nat.le_of_ble_eq_true rfl⟩ : rOK B10_law B9_odds) rfl (Nat.le_of_ble_eq_true rfl) (Nat.le_of_ble_eq_true rfl) ⟨by show k + 0 ≤ room_1.cells; omega, by show n + 0 ≤ room_1.slots; omega⟩ rfl (wp_mono H (fun v9 M9 hq9 => ?_))
      clear H
      obtain ⟨r8, I6, L7, rfl, rfl, H⟩ := hq9
      show wp X B10_law 1695 [(0, .ref (X.2.2.2 50)), (1, .ref a1), (2, .ref a2), (3, .int x3)] [.long r8, .long r4] (G, I6, L7) k n _
      refine wp_lcmp (by decide +kernel) ?_
      refine wp_if_eq (off := 143) (tgt := 1839) (by decide +kernel) (by decide) (fun c9 => ?_) (fun c9 => ?_)
      · rw [if_pos c9] at H
        refine wp_iinc (i := 3) (z := 6) (v := 6) (lv' := [(3, .int (x3 + 6)), (0, .ref (X.2.2.2 50)), (1, .ref a1), (2, .ref a2)]) 3 (by decide +kernel) rfl (by decide) (by decide) rfl ?_
        refine wp_goto (off := -1824) (tgt := 18) (by decide +kernel) (by decide) ?_
        exact wp_sub [1, 2, 3, 0] rfl H
      · rw [if_neg c9] at H
        refine wp_iconst (z := 0) (v := 0) (by decide +kernel) (by decide) ?_
        exact wp_zret (by decide +kernel) rfl (by decide) (by show k ≤ room_1.cells; omega) (by show n ≤ room_1.slots; omega) ⟨_, rfl, H⟩
    · rw [if_neg c5] at H
      refine wp_iconst (z := 1) (v := 1) (by decide +kernel) (by decide) ?_
      refine wp_goto (off := 4) (tgt := 1692) (by decide +kernel) (by decide) ?_
      refine wp_callV (idx := 142) (B2 := B9_odds) (As := [.int (scr X (x3 + 1)), .int (scr X (x3 + 2)), .int (scr X (x3 + 3)), .int (scr X (x3 + 4)), .int 1]) (a := a2) (st := [.long r4]) (by decide +kernel) m9_odds ml10_142 k9_odds e9_odds ck9 ok2.1 (⟨Nat.le_of_ble_eq_true rfl, Nat.le_of_ble_eq_true rfl⟩ : rOK B10_law B9_odds) rfl (Nat.le_of_ble_eq_true rfl) (Nat.le_of_ble_eq_true rfl) ⟨by show k + 0 ≤ room_1.cells; omega, by show n + 0 ≤ room_1.slots; omega⟩ rfl (wp_mono H (fun v9 M9 hq9 => ?_))
      clear H
      obtain ⟨r12, I10, L11, rfl, rfl, H⟩ := hq9
      show wp X B10_law 1695 [(0, .ref (X.2.2.2 50)), (1, .ref a1), (2, .ref a2), (3, .int x3)] [.long r12, .long r4] (G, I10, L11) k n _
      refine wp_lcmp (by decide +kernel) ?_
      refine wp_if_eq (off := 143) (tgt := 1839) (by decide +kernel) (by decide) (fun c13 => ?_) (fun c13 => ?_)
      · rw [if_pos c13] at H
        refine wp_iinc (i := 3) (z := 6) (v := 6) (lv' := [(3, .int (x3 + 6)), (0, .ref (X.2.2.2 50)), (1, .ref a1), (2, .ref a2)]) 3 (by decide +kernel) rfl (by decide) (by decide) rfl ?_
        refine wp_goto (off := -1824) (tgt := 18) (by decide +kernel) (by decide) ?_
        exact wp_sub [1, 2, 3, 0] rfl H
      · rw [if_neg c13] at H
        refine wp_iconst (z := 0) (v := 0) (by decide +kernel) (by decide) ?_
        exact wp_zret (by decide +kernel) rfl (by decide) (by show k ≤ room_1.cells; omega) (by show n ≤ room_1.slots; omega) ⟨_, rfl, H⟩
  · rw [if_neg c1] at H
    refine wp_iconst (z := 1) (v := 1) (by decide +kernel) (by decide) ?_
    refine wp_goto (off := 4) (tgt := 1655) (by decide +kernel) (by decide) ?_
    refine wp_callV (idx := 139) (B2 := B8_odds) (As := [.int (scr X (x3 + 1)), .int (scr X (x3 + 2)), .int (scr X (x3 + 3)), .int (scr X (x3 + 4)), .int 1]) (a := a1) (st := []) (by decide +kernel) m8_odds ml10_139 k8_odds e8_odds ck8 ok1.1 (⟨Nat.le_of_ble_eq_true rfl, Nat.le_of_ble_eq_true rfl⟩ : rOK B10_law B8_odds) rfl (Nat.le_of_ble_eq_true rfl) (Nat.le_of_ble_eq_true rfl) ⟨by show k + 0 ≤ room_1.cells; omega, by show n + 0 ≤ room_1.slots; omega⟩ rfl (wp_mono H (fun v9 M9 hq9 => ?_))
    clear H
    obtain ⟨r21, I19, L20, rfl, rfl, H⟩ := hq9
    show wp X B10_law 1658 [(0, .ref (X.2.2.2 50)), (1, .ref a1), (2, .ref a2), (3, .int x3)] [.long r21] (G, I19, L20) k n _
    refine wp_aload_n (z := 2) (i := 2) (r := (some a2)) 2 (by decide +kernel) rfl rfl ?_
    refine wp_aload_n (z := 0) (i := 0) (r := (some (X.2.2.2 50))) 0 (by decide +kernel) rfl rfl ?_
    refine wp_iload_n (z := 3) (i := 3) (x := x3) 3 (by decide +kernel) rfl rfl ?_
    refine wp_iconst (z := 1) (v := 1) (by decide +kernel) (by decide) ?_
    refine wp_iadd (by decide +kernel) ?_
    obtain ⟨o35, H⟩ := H
    refine wp_scrald (by decide +kernel) o35 ?_
    show wp X B10_law 1664 [(0, .ref (X.2.2.2 50)), (1, .ref a1), (2, .ref a2), (3, .int x3)] [.int (scr X (x3 + 1)), .ref a2, .long r21] (G, I19, L20) k n _
    refine wp_aload_n (z := 0) (i := 0) (r := (some (X.2.2.2 50))) 0 (by decide +kernel) rfl rfl ?_
    refine wp_iload_n (z := 3) (i := 3) (x := x3) 3 (by decide +kernel) rfl rfl ?_
    refine wp_iconst (z := 2) (v := 2) (by decide +kernel) (by decide) ?_
    refine wp_iadd (by decide +kernel) ?_
    obtain ⟨o34, H⟩ := H
    refine wp_scrald (by decide +kernel) o34 ?_
    show wp X B10_law 1669 [(0, .ref (X.2.2.2 50)), (1, .ref a1), (2, .ref a2), (3, .int x3)] [.int (scr X (x3 + 2)), .int (scr X (x3 + 1)), .ref a2, .long r21] (G, I19, L20) k n _
    refine wp_aload_n (z := 0) (i := 0) (r := (some (X.2.2.2 50))) 0 (by decide +kernel) rfl rfl ?_
    refine wp_iload_n (z := 3) (i := 3) (x := x3) 3 (by decide +kernel) rfl rfl ?_
    refine wp_iconst (z := 3) (v := 3) (by decide +kernel) (by decide) ?_
    refine wp_iadd (by decide +kernel) ?_
    obtain ⟨o33, H⟩ := H
    refine wp_scrald (by decide +kernel) o33 ?_
    show wp X B10_law 1674 [(0, .ref (X.2.2.2 50)), (1, .ref a1), (2, .ref a2), (3, .int x3)] [.int (scr X (x3 + 3)), .int (scr X (x3 + 2)), .int (scr X (x3 + 1)), .ref a2, .long r21] (G, I19, L20) k n _
    refine wp_aload_n (z := 0) (i := 0) (r := (some (X.2.2.2 50))) 0 (by decide +kernel) rfl rfl ?_
    refine wp_iload_n (z := 3) (i := 3) (x := x3) 3 (by decide +kernel) rfl rfl ?_
    refine wp_iconst (z := 4) (v := 4) (by decide +kernel) (by decide) ?_
    refine wp_iadd (by decide +kernel) ?_
    obtain ⟨o32, H⟩ := H
    refine wp_scrald (by decide +kernel) o32 ?_
    show wp X B10_law 1679 [(0, .ref (X.2.2.2 50)), (1, .ref a1), (2, .ref a2), (3, .int x3)] [.int (scr X (x3 + 4)), .int (scr X (x3 + 3)), .int (scr X (x3 + 2)), .int (scr X (x3 + 1)), .ref a2, .long r21] (G, I19, L20) k n _
    refine wp_aload_n (z := 0) (i := 0) (r := (some (X.2.2.2 50))) 0 (by decide +kernel) rfl rfl ?_
    refine wp_iload_n (z := 3) (i := 3) (x := x3) 3 (by decide +kernel) rfl rfl ?_
    refine wp_iconst (z := 5) (v := 5) (by decide +kernel) (by decide) ?_
    refine wp_iadd (by decide +kernel) ?_
    obtain ⟨o31, H⟩ := H
    refine wp_scrald (by decide +kernel) o31 ?_
    show wp X B10_law 1684 [(0, .ref (X.2.2.2 50)), (1, .ref a1), (2, .ref a2), (3, .int x3)] [.int (scr X (x3 + 5)), .int (scr X (x3 + 4)), .int (scr X (x3 + 3)), .int (scr X (x3 + 2)), .int (scr X (x3 + 1)), .ref a2, .long r21] (G, I19, L20) k n _
    refine wp_if_eq (off := 7) (tgt := 1691) (by decide +kernel) (by decide) (fun c22 => ?_) (fun c22 => ?_)
    · rw [if_pos c22] at H
      refine wp_iconst (z := 0) (v := 0) (by decide +kernel) (by decide) ?_
      refine wp_callV (idx := 142) (B2 := B9_odds) (As := [.int (scr X (x3 + 1)), .int (scr X (x3 + 2)), .int (scr X (x3 + 3)), .int (scr X (x3 + 4)), .int 0]) (a := a2) (st := [.long r21]) (by decide +kernel) m9_odds ml10_142 k9_odds e9_odds ck9 ok2.1 (⟨Nat.le_of_ble_eq_true rfl, Nat.le_of_ble_eq_true rfl⟩ : rOK B10_law B9_odds) rfl (Nat.le_of_ble_eq_true rfl) (Nat.le_of_ble_eq_true rfl) ⟨by show k + 0 ≤ room_1.cells; omega, by show n + 0 ≤ room_1.slots; omega⟩ rfl (wp_mono H (fun v9 M9 hq9 => ?_))
      clear H
      obtain ⟨r25, I23, L24, rfl, rfl, H⟩ := hq9
      show wp X B10_law 1695 [(0, .ref (X.2.2.2 50)), (1, .ref a1), (2, .ref a2), (3, .int x3)] [.long r25, .long r21] (G, I23, L24) k n _
      refine wp_lcmp (by decide +kernel) ?_
      refine wp_if_eq (off := 143) (tgt := 1839) (by decide +kernel) (by decide) (fun c26 => ?_) (fun c26 => ?_)
      · rw [if_pos c26] at H
        refine wp_iinc (i := 3) (z := 6) (v := 6) (lv' := [(3, .int (x3 + 6)), (0, .ref (X.2.2.2 50)), (1, .ref a1), (2, .ref a2)]) 3 (by decide +kernel) rfl (by decide) (by decide) rfl ?_
        refine wp_goto (off := -1824) (tgt := 18) (by decide +kernel) (by decide) ?_
        exact wp_sub [1, 2, 3, 0] rfl H
      · rw [if_neg c26] at H
        refine wp_iconst (z := 0) (v := 0) (by decide +kernel) (by decide) ?_
        exact wp_zret (by decide +kernel) rfl (by decide) (by show k ≤ room_1.cells; omega) (by show n ≤ room_1.slots; omega) ⟨_, rfl, H⟩
    · rw [if_neg c22] at H
      refine wp_iconst (z := 1) (v := 1) (by decide +kernel) (by decide) ?_
      refine wp_goto (off := 4) (tgt := 1692) (by decide +kernel) (by decide) ?_
      refine wp_callV (idx := 142) (B2 := B9_odds) (As := [.int (scr X (x3 + 1)), .int (scr X (x3 + 2)), .int (scr X (x3 + 3)), .int (scr X (x3 + 4)), .int 1]) (a := a2) (st := [.long r21]) (by decide +kernel) m9_odds ml10_142 k9_odds e9_odds ck9 ok2.1 (⟨Nat.le_of_ble_eq_true rfl, Nat.le_of_ble_eq_true rfl⟩ : rOK B10_law B9_odds) rfl (Nat.le_of_ble_eq_true rfl) (Nat.le_of_ble_eq_true rfl) ⟨by show k + 0 ≤ room_1.cells; omega, by show n + 0 ≤ room_1.slots; omega⟩ rfl (wp_mono H (fun v9 M9 hq9 => ?_))
      clear H
      obtain ⟨r29, I27, L28, rfl, rfl, H⟩ := hq9
      show wp X B10_law 1695 [(0, .ref (X.2.2.2 50)), (1, .ref a1), (2, .ref a2), (3, .int x3)] [.long r29, .long r21] (G, I27, L28) k n _
      refine wp_lcmp (by decide +kernel) ?_
      refine wp_if_eq (off := 143) (tgt := 1839) (by decide +kernel) (by decide) (fun c30 => ?_) (fun c30 => ?_)
      · rw [if_pos c30] at H
        refine wp_iinc (i := 3) (z := 6) (v := 6) (lv' := [(3, .int (x3 + 6)), (0, .ref (X.2.2.2 50)), (1, .ref a1), (2, .ref a2)]) 3 (by decide +kernel) rfl (by decide) (by decide) rfl ?_
        refine wp_goto (off := -1824) (tgt := 18) (by decide +kernel) (by decide) ?_
        exact wp_sub [1, 2, 3, 0] rfl H
      · rw [if_neg c30] at H
        refine wp_iconst (z := 0) (v := 0) (by decide +kernel) (by decide) ?_
        exact wp_zret (by decide +kernel) rfl (by decide) (by show k ≤ room_1.cells; omega) (by show n ≤ room_1.slots; omega) ⟨_, rfl, H⟩
set_option maxRecDepth 20000 in
theorem b10_law_1701 {X : XX} {G : GG} {I : Nat → Nat → Int32} {L : Nat → Nat → Int64} {k : Nat} {n : Nat} {a1 : Nat} {a2 : Nat} {x3 : Int32} {Q : Int32 → GG → (Nat → Nat → Int32) → (Nat → Nat → Int64) → Prop} (hk : k + 100 ≤ room_1.cells) (hn : n + 3000 ≤ room_1.slots) (ok1 : OK8 G a1) (ok2 : OK9 G a2) (H : vp_in (x3 + 1) (X.2.2.2 51) ∧ (vp_in (x3 + 2) (X.2.2.2 51) ∧ (vp_in (x3 + 3) (X.2.2.2 51) ∧ (vp_in (x3 + 4) (X.2.2.2 51) ∧ (if (scr X (x3 + 4)) = (0 : Int32) then (wpI X B8_few 0 [(0, .ref a1), (1, .int (scr X (x3 + 1))), (2, .int (scr X (x3 + 2))), (3, .int (scr X (x3 + 3))), (4, .int 0)] [] G I L (fun r4 I2 L3 => vp_in (x3 + 1) (X.2.2.2 51) ∧ (vp_in (x3 + 2) (X.2.2.2 51) ∧ (vp_in (x3 + 3) (X.2.2.2 51) ∧ (vp_in (x3 + 4) (X.2.2.2 51) ∧ (if (scr X (x3 + 4)) = (0 : Int32) then (wpI X B9_few 0 [(0, .ref a2), (1, .int (scr X (x3 + 1))), (2, .int (scr X (x3 + 2))), (3, .int (scr X (x3 + 3))), (4, .int 0)] [] G I2 L3 (fun r8 I6 L7 => if r4 = r8 then (wgI X B10_law 18 [(0, .ref (X.2.2.2 50)), (1, .ref a1), (2, .ref a2), (3, .int (x3 + 6))] [] G I6 L7 k n Q) else (Q 0 G I6 L7))) else (wpI X B9_few 0 [(0, .ref a2), (1, .int (scr X (x3 + 1))), (2, .int (scr X (x3 + 2))), (3, .int (scr X (x3 + 3))), (4, .int 1)] [] G I2 L3 (fun r12 I10 L11 => if r4 = r12 then (wgI X B10_law 18 [(0, .ref (X.2.2.2 50)), (1, .ref a1), (2, .ref a2), (3, .int (x3 + 6))] [] G I10 L11 k n Q) else (Q 0 G I10 L11))))))))) else (wpI X B8_few 0 [(0, .ref a1), (1, .int (scr X (x3 + 1))), (2, .int (scr X (x3 + 2))), (3, .int (scr X (x3 + 3))), (4, .int 1)] [] G I L (fun r20 I18 L19 => vp_in (x3 + 1) (X.2.2.2 51) ∧ (vp_in (x3 + 2) (X.2.2.2 51) ∧ (vp_in (x3 + 3) (X.2.2.2 51) ∧ (vp_in (x3 + 4) (X.2.2.2 51) ∧ (if (scr X (x3 + 4)) = (0 : Int32) then (wpI X B9_few 0 [(0, .ref a2), (1, .int (scr X (x3 + 1))), (2, .int (scr X (x3 + 2))), (3, .int (scr X (x3 + 3))), (4, .int 0)] [] G I18 L19 (fun r24 I22 L23 => if r20 = r24 then (wgI X B10_law 18 [(0, .ref (X.2.2.2 50)), (1, .ref a1), (2, .ref a2), (3, .int (x3 + 6))] [] G I22 L23 k n Q) else (Q 0 G I22 L23))) else (wpI X B9_few 0 [(0, .ref a2), (1, .int (scr X (x3 + 1))), (2, .int (scr X (x3 + 2))), (3, .int (scr X (x3 + 3))), (4, .int 1)] [] G I18 L19 (fun r28 I26 L27 => if r20 = r28 then (wgI X B10_law 18 [(0, .ref (X.2.2.2 50)), (1, .ref a1), (2, .ref a2), (3, .int (x3 + 6))] [] G I26 L27 k n Q) else (Q 0 G I26 L27)))))))))))))) : wgI X B10_law 1701 [(0, .ref (X.2.2.2 50)), (1, .ref a1), (2, .ref a2), (3, .int x3)] [] G I L k n Q := by
  refine wp_aload_n (z := 1) (i := 1) (r := (some a1)) 1 (by decide +kernel) rfl rfl ?_
  refine wp_aload_n (z := 0) (i := 0) (r := (some (X.2.2.2 50))) 0 (by decide +kernel) rfl rfl ?_
  refine wp_iload_n (z := 3) (i := 3) (x := x3) 3 (by decide +kernel) rfl rfl ?_
  refine wp_iconst (z := 1) (v := 1) (by decide +kernel) (by decide) ?_
  refine wp_iadd (by decide +kernel) ?_
  obtain ⟨o37, H⟩ := H
  refine wp_scrald (by decide +kernel) o37 ?_
  show wp X B10_law 1707 [(0, .ref (X.2.2.2 50)), (1, .ref a1), (2, .ref a2), (3, .int x3)] [.int (scr X (x3 + 1)), .ref a1] (G, I, L) k n _
  refine wp_aload_n (z := 0) (i := 0) (r := (some (X.2.2.2 50))) 0 (by decide +kernel) rfl rfl ?_
  refine wp_iload_n (z := 3) (i := 3) (x := x3) 3 (by decide +kernel) rfl rfl ?_
  refine wp_iconst (z := 2) (v := 2) (by decide +kernel) (by decide) ?_
  refine wp_iadd (by decide +kernel) ?_
  obtain ⟨o36, H⟩ := H
  refine wp_scrald (by decide +kernel) o36 ?_
  show wp X B10_law 1712 [(0, .ref (X.2.2.2 50)), (1, .ref a1), (2, .ref a2), (3, .int x3)] [.int (scr X (x3 + 2)), .int (scr X (x3 + 1)), .ref a1] (G, I, L) k n _
  refine wp_aload_n (z := 0) (i := 0) (r := (some (X.2.2.2 50))) 0 (by decide +kernel) rfl rfl ?_
  refine wp_iload_n (z := 3) (i := 3) (x := x3) 3 (by decide +kernel) rfl rfl ?_
  refine wp_iconst (z := 3) (v := 3) (by decide +kernel) (by decide) ?_
  refine wp_iadd (by decide +kernel) ?_
  obtain ⟨o35, H⟩ := H
  refine wp_scrald (by decide +kernel) o35 ?_
  show wp X B10_law 1717 [(0, .ref (X.2.2.2 50)), (1, .ref a1), (2, .ref a2), (3, .int x3)] [.int (scr X (x3 + 3)), .int (scr X (x3 + 2)), .int (scr X (x3 + 1)), .ref a1] (G, I, L) k n _
  refine wp_aload_n (z := 0) (i := 0) (r := (some (X.2.2.2 50))) 0 (by decide +kernel) rfl rfl ?_
  refine wp_iload_n (z := 3) (i := 3) (x := x3) 3 (by decide +kernel) rfl rfl ?_
  refine wp_iconst (z := 4) (v := 4) (by decide +kernel) (by decide) ?_
  refine wp_iadd (by decide +kernel) ?_
  obtain ⟨o34, H⟩ := H
  refine wp_scrald (by decide +kernel) o34 ?_
  show wp X B10_law 1722 [(0, .ref (X.2.2.2 50)), (1, .ref a1), (2, .ref a2), (3, .int x3)] [.int (scr X (x3 + 4)), .int (scr X (x3 + 3)), .int (scr X (x3 + 2)), .int (scr X (x3 + 1)), .ref a1] (G, I, L) k n _
  refine wp_if_eq (off := 7) (tgt := 1729) (by decide +kernel) (by decide) (fun c1 => ?_) (fun c1 => ?_)
  · rw [if_pos c1] at H
    refine wp_iconst (z := 0) (v := 0) (by decide +kernel) (by decide) ?_
    refine wp_callV (idx := 143) (B2 := B8_few) (As := [.int (scr X (x3 + 1)), .int (scr X (x3 + 2)), .int (scr X (x3 + 3)), .int 0]) (a := a1) (st := []) (by decide +kernel) m8_few ml10_143 k8_few e8_few ck8 ok1.1 (⟨Nat.le_of_ble_eq_true rfl, Nat.le_of_ble_eq_true rfl⟩ : rOK B10_law B8_few) rfl (Nat.le_of_ble_eq_true rfl) (Nat.le_of_ble_eq_true rfl) ⟨by show k + 0 ≤ room_1.cells; omega, by show n + 0 ≤ room_1.slots; omega⟩ rfl (wp_mono H (fun v9 M9 hq9 => ?_))
    clear H
    obtain ⟨r4, I2, L3, rfl, rfl, H⟩ := hq9
    show wp X B10_law 1733 [(0, .ref (X.2.2.2 50)), (1, .ref a1), (2, .ref a2), (3, .int x3)] [.int r4] (G, I2, L3) k n _
    refine wp_aload_n (z := 2) (i := 2) (r := (some a2)) 2 (by decide +kernel) rfl rfl ?_
    refine wp_aload_n (z := 0) (i := 0) (r := (some (X.2.2.2 50))) 0 (by decide +kernel) rfl rfl ?_
    refine wp_iload_n (z := 3) (i := 3) (x := x3) 3 (by decide +kernel) rfl rfl ?_
    refine wp_iconst (z := 1) (v := 1) (by decide +kernel) (by decide) ?_
    refine wp_iadd (by decide +kernel) ?_
    obtain ⟨o17, H⟩ := H
    refine wp_scrald (by decide +kernel) o17 ?_
    show wp X B10_law 1739 [(0, .ref (X.2.2.2 50)), (1, .ref a1), (2, .ref a2), (3, .int x3)] [.int (scr X (x3 + 1)), .ref a2, .int r4] (G, I2, L3) k n _
    refine wp_aload_n (z := 0) (i := 0) (r := (some (X.2.2.2 50))) 0 (by decide +kernel) rfl rfl ?_
    refine wp_iload_n (z := 3) (i := 3) (x := x3) 3 (by decide +kernel) rfl rfl ?_
    refine wp_iconst (z := 2) (v := 2) (by decide +kernel) (by decide) ?_
    refine wp_iadd (by decide +kernel) ?_
    obtain ⟨o16, H⟩ := H
    refine wp_scrald (by decide +kernel) o16 ?_
    show wp X B10_law 1744 [(0, .ref (X.2.2.2 50)), (1, .ref a1), (2, .ref a2), (3, .int x3)] [.int (scr X (x3 + 2)), .int (scr X (x3 + 1)), .ref a2, .int r4] (G, I2, L3) k n _
    refine wp_aload_n (z := 0) (i := 0) (r := (some (X.2.2.2 50))) 0 (by decide +kernel) rfl rfl ?_
    refine wp_iload_n (z := 3) (i := 3) (x := x3) 3 (by decide +kernel) rfl rfl ?_
    refine wp_iconst (z := 3) (v := 3) (by decide +kernel) (by decide) ?_
    refine wp_iadd (by decide +kernel) ?_
    obtain ⟨o15, H⟩ := H
    refine wp_scrald (by decide +kernel) o15 ?_
    show wp X B10_law 1749 [(0, .ref (X.2.2.2 50)), (1, .ref a1), (2, .ref a2), (3, .int x3)] [.int (scr X (x3 + 3)), .int (scr X (x3 + 2)), .int (scr X (x3 + 1)), .ref a2, .int r4] (G, I2, L3) k n _
    refine wp_aload_n (z := 0) (i := 0) (r := (some (X.2.2.2 50))) 0 (by decide +kernel) rfl rfl ?_
    refine wp_iload_n (z := 3) (i := 3) (x := x3) 3 (by decide +kernel) rfl rfl ?_
    refine wp_iconst (z := 4) (v := 4) (by decide +kernel) (by decide) ?_
    refine wp_iadd (by decide +kernel) ?_
    obtain ⟨o14, H⟩ := H
    refine wp_scrald (by decide +kernel) o14 ?_
    show wp X B10_law 1754 [(0, .ref (X.2.2.2 50)), (1, .ref a1), (2, .ref a2), (3, .int x3)] [.int (scr X (x3 + 4)), .int (scr X (x3 + 3)), .int (scr X (x3 + 2)), .int (scr X (x3 + 1)), .ref a2, .int r4] (G, I2, L3) k n _
    refine wp_if_eq (off := 7) (tgt := 1761) (by decide +kernel) (by decide) (fun c5 => ?_) (fun c5 => ?_)
    · rw [if_pos c5] at H
      refine wp_iconst (z := 0) (v := 0) (by decide +kernel) (by decide) ?_
      refine wp_callV (idx := 146) (B2 := B9_few) (As := [.int (scr X (x3 + 1)), .int (scr X (x3 + 2)), .int (scr X (x3 + 3)), .int 0]) (a := a2) (st := [.int r4]) (by decide +kernel) m9_few ml10_146 k9_few e9_few ck9 ok2.1 (⟨Nat.le_of_ble_eq_true rfl, Nat.le_of_ble_eq_true rfl⟩ : rOK B10_law B9_few) rfl (Nat.le_of_ble_eq_true rfl) (Nat.le_of_ble_eq_true rfl) ⟨by show k + 0 ≤ room_1.cells; omega, by show n + 0 ≤ room_1.slots; omega⟩ rfl (wp_mono H (fun v9 M9 hq9 => ?_))
      clear H
      obtain ⟨r8, I6, L7, rfl, rfl, H⟩ := hq9
      show wp X B10_law 1765 [(0, .ref (X.2.2.2 50)), (1, .ref a1), (2, .ref a2), (3, .int x3)] [.int r8, .int r4] (G, I6, L7) k n _
      refine wp_icmp_eq (off := 74) (tgt := 1839) (by decide +kernel) (by decide) (fun c9 => ?_) (fun c9 => ?_)
      · rw [if_pos c9] at H
        refine wp_iinc (i := 3) (z := 6) (v := 6) (lv' := [(3, .int (x3 + 6)), (0, .ref (X.2.2.2 50)), (1, .ref a1), (2, .ref a2)]) 3 (by decide +kernel) rfl (by decide) (by decide) rfl ?_
        refine wp_goto (off := -1824) (tgt := 18) (by decide +kernel) (by decide) ?_
        exact wp_sub [1, 2, 3, 0] rfl H
      · rw [if_neg c9] at H
        refine wp_iconst (z := 0) (v := 0) (by decide +kernel) (by decide) ?_
        exact wp_zret (by decide +kernel) rfl (by decide) (by show k ≤ room_1.cells; omega) (by show n ≤ room_1.slots; omega) ⟨_, rfl, H⟩
    · rw [if_neg c5] at H
      refine wp_iconst (z := 1) (v := 1) (by decide +kernel) (by decide) ?_
      refine wp_goto (off := 4) (tgt := 1762) (by decide +kernel) (by decide) ?_
      refine wp_callV (idx := 146) (B2 := B9_few) (As := [.int (scr X (x3 + 1)), .int (scr X (x3 + 2)), .int (scr X (x3 + 3)), .int 1]) (a := a2) (st := [.int r4]) (by decide +kernel) m9_few ml10_146 k9_few e9_few ck9 ok2.1 (⟨Nat.le_of_ble_eq_true rfl, Nat.le_of_ble_eq_true rfl⟩ : rOK B10_law B9_few) rfl (Nat.le_of_ble_eq_true rfl) (Nat.le_of_ble_eq_true rfl) ⟨by show k + 0 ≤ room_1.cells; omega, by show n + 0 ≤ room_1.slots; omega⟩ rfl (wp_mono H (fun v9 M9 hq9 => ?_))
      clear H
      obtain ⟨r12, I10, L11, rfl, rfl, H⟩ := hq9
      show wp X B10_law 1765 [(0, .ref (X.2.2.2 50)), (1, .ref a1), (2, .ref a2), (3, .int x3)] [.int r12, .int r4] (G, I10, L11) k n _
      refine wp_icmp_eq (off := 74) (tgt := 1839) (by decide +kernel) (by decide) (fun c13 => ?_) (fun c13 => ?_)
      · rw [if_pos c13] at H
        refine wp_iinc (i := 3) (z := 6) (v := 6) (lv' := [(3, .int (x3 + 6)), (0, .ref (X.2.2.2 50)), (1, .ref a1), (2, .ref a2)]) 3 (by decide +kernel) rfl (by decide) (by decide) rfl ?_
        refine wp_goto (off := -1824) (tgt := 18) (by decide +kernel) (by decide) ?_
        exact wp_sub [1, 2, 3, 0] rfl H
      · rw [if_neg c13] at H
        refine wp_iconst (z := 0) (v := 0) (by decide +kernel) (by decide) ?_
        exact wp_zret (by decide +kernel) rfl (by decide) (by show k ≤ room_1.cells; omega) (by show n ≤ room_1.slots; omega) ⟨_, rfl, H⟩
  · rw [if_neg c1] at H
    refine wp_iconst (z := 1) (v := 1) (by decide +kernel) (by decide) ?_
    refine wp_goto (off := 4) (tgt := 1730) (by decide +kernel) (by decide) ?_
    refine wp_callV (idx := 143) (B2 := B8_few) (As := [.int (scr X (x3 + 1)), .int (scr X (x3 + 2)), .int (scr X (x3 + 3)), .int 1]) (a := a1) (st := []) (by decide +kernel) m8_few ml10_143 k8_few e8_few ck8 ok1.1 (⟨Nat.le_of_ble_eq_true rfl, Nat.le_of_ble_eq_true rfl⟩ : rOK B10_law B8_few) rfl (Nat.le_of_ble_eq_true rfl) (Nat.le_of_ble_eq_true rfl) ⟨by show k + 0 ≤ room_1.cells; omega, by show n + 0 ≤ room_1.slots; omega⟩ rfl (wp_mono H (fun v9 M9 hq9 => ?_))
    clear H
    obtain ⟨r20, I18, L19, rfl, rfl, H⟩ := hq9
    show wp X B10_law 1733 [(0, .ref (X.2.2.2 50)), (1, .ref a1), (2, .ref a2), (3, .int x3)] [.int r20] (G, I18, L19) k n _
    refine wp_aload_n (z := 2) (i := 2) (r := (some a2)) 2 (by decide +kernel) rfl rfl ?_
    refine wp_aload_n (z := 0) (i := 0) (r := (some (X.2.2.2 50))) 0 (by decide +kernel) rfl rfl ?_
    refine wp_iload_n (z := 3) (i := 3) (x := x3) 3 (by decide +kernel) rfl rfl ?_
    refine wp_iconst (z := 1) (v := 1) (by decide +kernel) (by decide) ?_
    refine wp_iadd (by decide +kernel) ?_
    obtain ⟨o33, H⟩ := H
    refine wp_scrald (by decide +kernel) o33 ?_
    show wp X B10_law 1739 [(0, .ref (X.2.2.2 50)), (1, .ref a1), (2, .ref a2), (3, .int x3)] [.int (scr X (x3 + 1)), .ref a2, .int r20] (G, I18, L19) k n _
    refine wp_aload_n (z := 0) (i := 0) (r := (some (X.2.2.2 50))) 0 (by decide +kernel) rfl rfl ?_
    refine wp_iload_n (z := 3) (i := 3) (x := x3) 3 (by decide +kernel) rfl rfl ?_
    refine wp_iconst (z := 2) (v := 2) (by decide +kernel) (by decide) ?_
    refine wp_iadd (by decide +kernel) ?_
    obtain ⟨o32, H⟩ := H
    refine wp_scrald (by decide +kernel) o32 ?_
    show wp X B10_law 1744 [(0, .ref (X.2.2.2 50)), (1, .ref a1), (2, .ref a2), (3, .int x3)] [.int (scr X (x3 + 2)), .int (scr X (x3 + 1)), .ref a2, .int r20] (G, I18, L19) k n _
    refine wp_aload_n (z := 0) (i := 0) (r := (some (X.2.2.2 50))) 0 (by decide +kernel) rfl rfl ?_
    refine wp_iload_n (z := 3) (i := 3) (x := x3) 3 (by decide +kernel) rfl rfl ?_
    refine wp_iconst (z := 3) (v := 3) (by decide +kernel) (by decide) ?_
    refine wp_iadd (by decide +kernel) ?_
    obtain ⟨o31, H⟩ := H
    refine wp_scrald (by decide +kernel) o31 ?_
    show wp X B10_law 1749 [(0, .ref (X.2.2.2 50)), (1, .ref a1), (2, .ref a2), (3, .int x3)] [.int (scr X (x3 + 3)), .int (scr X (x3 + 2)), .int (scr X (x3 + 1)), .ref a2, .int r20] (G, I18, L19) k n _
    refine wp_aload_n (z := 0) (i := 0) (r := (some (X.2.2.2 50))) 0 (by decide +kernel) rfl rfl ?_
    refine wp_iload_n (z := 3) (i := 3) (x := x3) 3 (by decide +kernel) rfl rfl ?_
    refine wp_iconst (z := 4) (v := 4) (by decide +kernel) (by decide) ?_
    refine wp_iadd (by decide +kernel) ?_
    obtain ⟨o30, H⟩ := H
    refine wp_scrald (by decide +kernel) o30 ?_
    show wp X B10_law 1754 [(0, .ref (X.2.2.2 50)), (1, .ref a1), (2, .ref a2), (3, .int x3)] [.int (scr X (x3 + 4)), .int (scr X (x3 + 3)), .int (scr X (x3 + 2)), .int (scr X (x3 + 1)), .ref a2, .int r20] (G, I18, L19) k n _
    refine wp_if_eq (off := 7) (tgt := 1761) (by decide +kernel) (by decide) (fun c21 => ?_) (fun c21 => ?_)
    · rw [if_pos c21] at H
      refine wp_iconst (z := 0) (v := 0) (by decide +kernel) (by decide) ?_
      refine wp_callV (idx := 146) (B2 := B9_few) (As := [.int (scr X (x3 + 1)), .int (scr X (x3 + 2)), .int (scr X (x3 + 3)), .int 0]) (a := a2) (st := [.int r20]) (by decide +kernel) m9_few ml10_146 k9_few e9_few ck9 ok2.1 (⟨Nat.le_of_ble_eq_true rfl, Nat.le_of_ble_eq_true rfl⟩ : rOK B10_law B9_few) rfl (Nat.le_of_ble_eq_true rfl) (Nat.le_of_ble_eq_true rfl) ⟨by show k + 0 ≤ room_1.cells; omega, by show n + 0 ≤ room_1.slots; omega⟩ rfl (wp_mono H (fun v9 M9 hq9 => ?_))
      clear H
      obtain ⟨r24, I22, L23, rfl, rfl, H⟩ := hq9
      show wp X B10_law 1765 [(0, .ref (X.2.2.2 50)), (1, .ref a1), (2, .ref a2), (3, .int x3)] [.int r24, .int r20] (G, I22, L23) k n _
      refine wp_icmp_eq (off := 74) (tgt := 1839) (by decide +kernel) (by decide) (fun c25 => ?_) (fun c25 => ?_)
      · rw [if_pos c25] at H
        refine wp_iinc (i := 3) (z := 6) (v := 6) (lv' := [(3, .int (x3 + 6)), (0, .ref (X.2.2.2 50)), (1, .ref a1), (2, .ref a2)]) 3 (by decide +kernel) rfl (by decide) (by decide) rfl ?_
        refine wp_goto (off := -1824) (tgt := 18) (by decide +kernel) (by decide) ?_
        exact wp_sub [1, 2, 3, 0] rfl H
      · rw [if_neg c25] at H
        refine wp_iconst (z := 0) (v := 0) (by decide +kernel) (by decide) ?_
        exact wp_zret (by decide +kernel) rfl (by decide) (by show k ≤ room_1.cells; omega) (by show n ≤ room_1.slots; omega) ⟨_, rfl, H⟩
    · rw [if_neg c21] at H
      refine wp_iconst (z := 1) (v := 1) (by decide +kernel) (by decide) ?_
      refine wp_goto (off := 4) (tgt := 1762) (by decide +kernel) (by decide) ?_
      refine wp_callV (idx := 146) (B2 := B9_few) (As := [.int (scr X (x3 + 1)), .int (scr X (x3 + 2)), .int (scr X (x3 + 3)), .int 1]) (a := a2) (st := [.int r20]) (by decide +kernel) m9_few ml10_146 k9_few e9_few ck9 ok2.1 (⟨Nat.le_of_ble_eq_true rfl, Nat.le_of_ble_eq_true rfl⟩ : rOK B10_law B9_few) rfl (Nat.le_of_ble_eq_true rfl) (Nat.le_of_ble_eq_true rfl) ⟨by show k + 0 ≤ room_1.cells; omega, by show n + 0 ≤ room_1.slots; omega⟩ rfl (wp_mono H (fun v9 M9 hq9 => ?_))
      clear H
      obtain ⟨r28, I26, L27, rfl, rfl, H⟩ := hq9
      show wp X B10_law 1765 [(0, .ref (X.2.2.2 50)), (1, .ref a1), (2, .ref a2), (3, .int x3)] [.int r28, .int r20] (G, I26, L27) k n _
      refine wp_icmp_eq (off := 74) (tgt := 1839) (by decide +kernel) (by decide) (fun c29 => ?_) (fun c29 => ?_)
      · rw [if_pos c29] at H
        refine wp_iinc (i := 3) (z := 6) (v := 6) (lv' := [(3, .int (x3 + 6)), (0, .ref (X.2.2.2 50)), (1, .ref a1), (2, .ref a2)]) 3 (by decide +kernel) rfl (by decide) (by decide) rfl ?_
        refine wp_goto (off := -1824) (tgt := 18) (by decide +kernel) (by decide) ?_
        exact wp_sub [1, 2, 3, 0] rfl H
      · rw [if_neg c29] at H
        refine wp_iconst (z := 0) (v := 0) (by decide +kernel) (by decide) ?_
        exact wp_zret (by decide +kernel) rfl (by decide) (by show k ≤ room_1.cells; omega) (by show n ≤ room_1.slots; omega) ⟨_, rfl, H⟩
set_option maxRecDepth 20000 in
theorem b10_law_1770 {X : XX} {G : GG} {I : Nat → Nat → Int32} {L : Nat → Nat → Int64} {k : Nat} {n : Nat} {a1 : Nat} {a2 : Nat} {x3 : Int32} {Q : Int32 → GG → (Nat → Nat → Int32) → (Nat → Nat → Int64) → Prop} (hk : k + 100 ≤ room_1.cells) (hn : n + 3000 ≤ room_1.slots) (ok1 : OK8 G a1) (ok2 : OK9 G a2) (H : vp_in (x3 + 1) (X.2.2.2 51) ∧ (p8_count I a1 (scr X (x3 + 1)) ∧ (vp_in (x3 + 1) (X.2.2.2 51) ∧ (p9_count I a2 (scr X (x3 + 1)) ∧ (if (v8_count I a1 (scr X (x3 + 1))) = (v9_count I a2 (scr X (x3 + 1))) then (wgI X B10_law 18 [(0, .ref (X.2.2.2 50)), (1, .ref a1), (2, .ref a2), (3, .int (x3 + 6))] [] G I L k n Q) else (Q 0 G I L)))))) : wgI X B10_law 1770 [(0, .ref (X.2.2.2 50)), (1, .ref a1), (2, .ref a2), (3, .int x3)] [] G I L k n Q := by
  refine wp_aload_n (z := 1) (i := 1) (r := (some a1)) 1 (by decide +kernel) rfl rfl ?_
  refine wp_aload_n (z := 0) (i := 0) (r := (some (X.2.2.2 50))) 0 (by decide +kernel) rfl rfl ?_
  refine wp_iload_n (z := 3) (i := 3) (x := x3) 3 (by decide +kernel) rfl rfl ?_
  refine wp_iconst (z := 1) (v := 1) (by decide +kernel) (by decide) ?_
  refine wp_iadd (by decide +kernel) ?_
  obtain ⟨o5, H⟩ := H
  refine wp_scrald (by decide +kernel) o5 ?_
  show wp X B10_law 1776 [(0, .ref (X.2.2.2 50)), (1, .ref a1), (2, .ref a2), (3, .int x3)] [.int (scr X (x3 + 1)), .ref a1] (G, I, L) k n _
  obtain ⟨o4, H⟩ := H
  refine wp_callV (idx := 147) (B2 := B8_count) (As := [.int (scr X (x3 + 1))]) (a := a1) (st := []) (by decide +kernel) m8_count ml10_147 k8_count e8_count ck8 ok1.1 (⟨Nat.le_of_ble_eq_true rfl, Nat.le_of_ble_eq_true rfl⟩ : rOK B10_law B8_count) rfl (Nat.le_of_ble_eq_true rfl) (Nat.le_of_ble_eq_true rfl) ⟨by show k + 0 ≤ room_1.cells; omega, by show n + 0 ≤ room_1.slots; omega⟩ rfl (wp_mono (b8_count (Q := (fun r I' L' => r = (v8_count I a1 (scr X (x3 + 1))) ∧ I = I' ∧ L = L')) ok1 o4 ⟨rfl, rfl, rfl⟩) (fun v9 M9 hq9 => ?_))
  obtain ⟨_, _, _, rfl, rfl, rfl, rfl, rfl⟩ := hq9
  show wp X B10_law 1779 [(0, .ref (X.2.2.2 50)), (1, .ref a1), (2, .ref a2), (3, .int x3)] [.int (v8_count I a1 (scr X (x3 + 1)))] (G, I, L) k n _
  refine wp_aload_n (z := 2) (i := 2) (r := (some a2)) 2 (by decide +kernel) rfl rfl ?_
  refine wp_aload_n (z := 0) (i := 0) (r := (some (X.2.2.2 50))) 0 (by decide +kernel) rfl rfl ?_
  refine wp_iload_n (z := 3) (i := 3) (x := x3) 3 (by decide +kernel) rfl rfl ?_
  refine wp_iconst (z := 1) (v := 1) (by decide +kernel) (by decide) ?_
  refine wp_iadd (by decide +kernel) ?_
  obtain ⟨o3, H⟩ := H
  refine wp_scrald (by decide +kernel) o3 ?_
  show wp X B10_law 1785 [(0, .ref (X.2.2.2 50)), (1, .ref a1), (2, .ref a2), (3, .int x3)] [.int (scr X (x3 + 1)), .ref a2, .int (v8_count I a1 (scr X (x3 + 1)))] (G, I, L) k n _
  obtain ⟨o2, H⟩ := H
  refine wp_callV (idx := 150) (B2 := B9_count) (As := [.int (scr X (x3 + 1))]) (a := a2) (st := [.int (v8_count I a1 (scr X (x3 + 1)))]) (by decide +kernel) m9_count ml10_150 k9_count e9_count ck9 ok2.1 (⟨Nat.le_of_ble_eq_true rfl, Nat.le_of_ble_eq_true rfl⟩ : rOK B10_law B9_count) rfl (Nat.le_of_ble_eq_true rfl) (Nat.le_of_ble_eq_true rfl) ⟨by show k + 0 ≤ room_1.cells; omega, by show n + 0 ≤ room_1.slots; omega⟩ rfl (wp_mono (b9_count (Q := (fun r I' L' => r = (v9_count I a2 (scr X (x3 + 1))) ∧ I = I' ∧ L = L')) ok2 o2 ⟨rfl, rfl, rfl⟩) (fun v9 M9 hq9 => ?_))
  obtain ⟨_, _, _, rfl, rfl, rfl, rfl, rfl⟩ := hq9
  show wp X B10_law 1788 [(0, .ref (X.2.2.2 50)), (1, .ref a1), (2, .ref a2), (3, .int x3)] [.int (v9_count I a2 (scr X (x3 + 1))), .int (v8_count I a1 (scr X (x3 + 1)))] (G, I, L) k n _
  refine wp_icmp_eq (off := 51) (tgt := 1839) (by decide +kernel) (by decide) (fun c1 => ?_) (fun c1 => ?_)
  · rw [if_pos c1] at H
    refine wp_iinc (i := 3) (z := 6) (v := 6) (lv' := [(3, .int (x3 + 6)), (0, .ref (X.2.2.2 50)), (1, .ref a1), (2, .ref a2)]) 3 (by decide +kernel) rfl (by decide) (by decide) rfl ?_
    refine wp_goto (off := -1824) (tgt := 18) (by decide +kernel) (by decide) ?_
    exact wp_sub [1, 2, 3, 0] rfl H
  · rw [if_neg c1] at H
    refine wp_iconst (z := 0) (v := 0) (by decide +kernel) (by decide) ?_
    exact wp_zret (by decide +kernel) rfl (by decide) (by show k ≤ room_1.cells; omega) (by show n ≤ room_1.slots; omega) ⟨_, rfl, H⟩
set_option maxRecDepth 20000 in
theorem b10_law_1793 {X : XX} {G : GG} {I : Nat → Nat → Int32} {L : Nat → Nat → Int64} {k : Nat} {n : Nat} {a1 : Nat} {a2 : Nat} {x3 : Int32} {Q : Int32 → GG → (Nat → Nat → Int32) → (Nat → Nat → Int64) → Prop} (hk : k + 100 ≤ room_1.cells) (hn : n + 3000 ≤ room_1.slots) (ok1 : OK8 G a1) (ok2 : OK9 G a2) (H : vp_in (x3 + 1) (X.2.2.2 51) ∧ (wgI X B8_image 0 [(0, .ref a1), (1, .int (scr X (x3 + 1)))] [] G I L 0 0 (fun r3 G4 I1 L2 => vp_in (x3 + 1) (X.2.2.2 51) ∧ (OK9 G4 a2 ∧ (wpI X B9_image 0 [(0, .ref a2), (1, .int (scr X (x3 + 1)))] [] G4 I1 L2 (fun r8 I6 L7 => if r3 = r8 then (wgI X B10_law 18 [(0, .ref (X.2.2.2 50)), (1, .ref a1), (2, .ref a2), (3, .int (x3 + 6))] [] G4 I6 L7 (k + 6) (n + 617) Q) else (Q 0 G4 I6 L7))))))) : wgI X B10_law 1793 [(0, .ref (X.2.2.2 50)), (1, .ref a1), (2, .ref a2), (3, .int x3)] [] G I L k n Q := by
  refine wp_aload_n (z := 1) (i := 1) (r := (some a1)) 1 (by decide +kernel) rfl rfl ?_
  refine wp_aload_n (z := 0) (i := 0) (r := (some (X.2.2.2 50))) 0 (by decide +kernel) rfl rfl ?_
  refine wp_iload_n (z := 3) (i := 3) (x := x3) 3 (by decide +kernel) rfl rfl ?_
  refine wp_iconst (z := 1) (v := 1) (by decide +kernel) (by decide) ?_
  refine wp_iadd (by decide +kernel) ?_
  obtain ⟨o11, H⟩ := H
  refine wp_scrald (by decide +kernel) o11 ?_
  show wp X B10_law 1799 [(0, .ref (X.2.2.2 50)), (1, .ref a1), (2, .ref a2), (3, .int x3)] [.int (scr X (x3 + 1)), .ref a1] (G, I, L) k n _
  refine wp_callV (idx := 151) (B2 := B8_image) (As := [.int (scr X (x3 + 1))]) (a := a1) (st := []) (by decide +kernel) m8_image ml10_151 k8_image e8_image ck8 ok1.1 (⟨Nat.le_of_ble_eq_true rfl, Nat.le_of_ble_eq_true rfl⟩ : rOK B10_law B8_image) rfl (Nat.le_of_ble_eq_true rfl) (Nat.le_of_ble_eq_true rfl) ⟨by show k + 6 ≤ room_1.cells; omega, by show n + 617 ≤ room_1.slots; omega⟩ rfl (wp_mono H (fun v9 M9 hq9 => ?_))
  clear H
  obtain ⟨G4, I1, L2⟩ := M9
  obtain ⟨r3, rfl, H⟩ := hq9
  try dsimp only at H
  show wp X B10_law 1802 [(0, .ref (X.2.2.2 50)), (1, .ref a1), (2, .ref a2), (3, .int x3)] [.int r3] (G4, I1, L2) (k + 6) (n + 617) _
  refine wp_aload_n (z := 2) (i := 2) (r := (some a2)) 2 (by decide +kernel) rfl rfl ?_
  refine wp_aload_n (z := 0) (i := 0) (r := (some (X.2.2.2 50))) 0 (by decide +kernel) rfl rfl ?_
  refine wp_iload_n (z := 3) (i := 3) (x := x3) 3 (by decide +kernel) rfl rfl ?_
  refine wp_iconst (z := 1) (v := 1) (by decide +kernel) (by decide) ?_
  refine wp_iadd (by decide +kernel) ?_
  obtain ⟨o10, H⟩ := H
  refine wp_scrald (by decide +kernel) o10 ?_
  show wp X B10_law 1808 [(0, .ref (X.2.2.2 50)), (1, .ref a1), (2, .ref a2), (3, .int x3)] [.int (scr X (x3 + 1)), .ref a2, .int r3] (G4, I1, L2) (k + 6) (n + 617) _
  obtain ⟨f5, H⟩ := H
  refine wp_callV (idx := 155) (B2 := B9_image) (As := [.int (scr X (x3 + 1))]) (a := a2) (st := [.int r3]) (by decide +kernel) m9_image ml10_155 k9_image e9_image ck9 f5.1 (⟨Nat.le_of_ble_eq_true rfl, Nat.le_of_ble_eq_true rfl⟩ : rOK B10_law B9_image) rfl (Nat.le_of_ble_eq_true rfl) (Nat.le_of_ble_eq_true rfl) ⟨by show k + 6 + 0 ≤ room_1.cells; omega, by show n + 617 + 0 ≤ room_1.slots; omega⟩ rfl (wp_mono H (fun v9 M9 hq9 => ?_))
  clear H
  obtain ⟨r8, I6, L7, rfl, rfl, H⟩ := hq9
  show wp X B10_law 1811 [(0, .ref (X.2.2.2 50)), (1, .ref a1), (2, .ref a2), (3, .int x3)] [.int r8, .int r3] (G4, I6, L7) (k + 6) (n + 617) _
  refine wp_icmp_eq (off := 28) (tgt := 1839) (by decide +kernel) (by decide) (fun c9 => ?_) (fun c9 => ?_)
  · rw [if_pos c9] at H
    refine wp_iinc (i := 3) (z := 6) (v := 6) (lv' := [(3, .int (x3 + 6)), (0, .ref (X.2.2.2 50)), (1, .ref a1), (2, .ref a2)]) 3 (by decide +kernel) rfl (by decide) (by decide) rfl ?_
    refine wp_goto (off := -1824) (tgt := 18) (by decide +kernel) (by decide) ?_
    exact wp_sub [1, 2, 3, 0] rfl H
  · rw [if_neg c9] at H
    refine wp_iconst (z := 0) (v := 0) (by decide +kernel) (by decide) ?_
    exact wp_zret (by decide +kernel) rfl (by decide) (by show k + 6 ≤ room_1.cells; omega) (by show n + 617 ≤ room_1.slots; omega) ⟨_, rfl, H⟩
set_option maxRecDepth 20000 in
theorem b10_law_1816 {X : XX} {G : GG} {I : Nat → Nat → Int32} {L : Nat → Nat → Int64} {k : Nat} {n : Nat} {a1 : Nat} {a2 : Nat} {x3 : Int32} {Q : Int32 → GG → (Nat → Nat → Int32) → (Nat → Nat → Int64) → Prop} (hk : k + 100 ≤ room_1.cells) (hn : n + 3000 ≤ room_1.slots) (ok1 : OK8 G a1) (ok2 : OK9 G a2) (H : vp_in (x3 + 1) (X.2.2.2 51) ∧ (wgI X B8_again 0 [(0, .ref a1), (1, .int (scr X (x3 + 1)))] [] G I L 0 0 (fun r3 G4 I1 L2 => vp_in (x3 + 1) (X.2.2.2 51) ∧ (OK9 G4 a2 ∧ (wpI X B9_again 0 [(0, .ref a2), (1, .int (scr X (x3 + 1)))] [] G4 I1 L2 (fun r8 I6 L7 => if r3 = r8 then (wgI X B10_law 18 [(0, .ref (X.2.2.2 50)), (1, .ref a1), (2, .ref a2), (3, .int (x3 + 6))] [] G4 I6 L7 k n Q) else (Q 0 G4 I6 L7))))))) : wgI X B10_law 1816 [(0, .ref (X.2.2.2 50)), (1, .ref a1), (2, .ref a2), (3, .int x3)] [] G I L k n Q := by
  refine wp_aload_n (z := 1) (i := 1) (r := (some a1)) 1 (by decide +kernel) rfl rfl ?_
  refine wp_aload_n (z := 0) (i := 0) (r := (some (X.2.2.2 50))) 0 (by decide +kernel) rfl rfl ?_
  refine wp_iload_n (z := 3) (i := 3) (x := x3) 3 (by decide +kernel) rfl rfl ?_
  refine wp_iconst (z := 1) (v := 1) (by decide +kernel) (by decide) ?_
  refine wp_iadd (by decide +kernel) ?_
  obtain ⟨o11, H⟩ := H
  refine wp_scrald (by decide +kernel) o11 ?_
  show wp X B10_law 1822 [(0, .ref (X.2.2.2 50)), (1, .ref a1), (2, .ref a2), (3, .int x3)] [.int (scr X (x3 + 1)), .ref a1] (G, I, L) k n _
  refine wp_callV (idx := 156) (B2 := B8_again) (As := [.int (scr X (x3 + 1))]) (a := a1) (st := []) (by decide +kernel) m8_again ml10_156 k8_again e8_again ck8 ok1.1 (⟨Nat.le_of_ble_eq_true rfl, Nat.le_of_ble_eq_true rfl⟩ : rOK B10_law B8_again) rfl (Nat.le_of_ble_eq_true rfl) (Nat.le_of_ble_eq_true rfl) ⟨by show k + 0 ≤ room_1.cells; omega, by show n + 0 ≤ room_1.slots; omega⟩ rfl (wp_mono H (fun v9 M9 hq9 => ?_))
  clear H
  obtain ⟨G4, I1, L2⟩ := M9
  obtain ⟨r3, rfl, H⟩ := hq9
  try dsimp only at H
  show wp X B10_law 1825 [(0, .ref (X.2.2.2 50)), (1, .ref a1), (2, .ref a2), (3, .int x3)] [.int r3] (G4, I1, L2) k n _
  refine wp_aload_n (z := 2) (i := 2) (r := (some a2)) 2 (by decide +kernel) rfl rfl ?_
  refine wp_aload_n (z := 0) (i := 0) (r := (some (X.2.2.2 50))) 0 (by decide +kernel) rfl rfl ?_
  refine wp_iload_n (z := 3) (i := 3) (x := x3) 3 (by decide +kernel) rfl rfl ?_
  refine wp_iconst (z := 1) (v := 1) (by decide +kernel) (by decide) ?_
  refine wp_iadd (by decide +kernel) ?_
  obtain ⟨o10, H⟩ := H
  refine wp_scrald (by decide +kernel) o10 ?_
  show wp X B10_law 1831 [(0, .ref (X.2.2.2 50)), (1, .ref a1), (2, .ref a2), (3, .int x3)] [.int (scr X (x3 + 1)), .ref a2, .int r3] (G4, I1, L2) k n _
  obtain ⟨f5, H⟩ := H
  refine wp_callV (idx := 159) (B2 := B9_again) (As := [.int (scr X (x3 + 1))]) (a := a2) (st := [.int r3]) (by decide +kernel) m9_again ml10_159 k9_again e9_again ck9 f5.1 (⟨Nat.le_of_ble_eq_true rfl, Nat.le_of_ble_eq_true rfl⟩ : rOK B10_law B9_again) rfl (Nat.le_of_ble_eq_true rfl) (Nat.le_of_ble_eq_true rfl) ⟨by show k + 0 ≤ room_1.cells; omega, by show n + 0 ≤ room_1.slots; omega⟩ rfl (wp_mono H (fun v9 M9 hq9 => ?_))
  clear H
  obtain ⟨r8, I6, L7, rfl, rfl, H⟩ := hq9
  show wp X B10_law 1834 [(0, .ref (X.2.2.2 50)), (1, .ref a1), (2, .ref a2), (3, .int x3)] [.int r8, .int r3] (G4, I6, L7) k n _
  refine wp_icmp_eq (off := 5) (tgt := 1839) (by decide +kernel) (by decide) (fun c9 => ?_) (fun c9 => ?_)
  · rw [if_pos c9] at H
    refine wp_iinc (i := 3) (z := 6) (v := 6) (lv' := [(3, .int (x3 + 6)), (0, .ref (X.2.2.2 50)), (1, .ref a1), (2, .ref a2)]) 3 (by decide +kernel) rfl (by decide) (by decide) rfl ?_
    refine wp_goto (off := -1824) (tgt := 18) (by decide +kernel) (by decide) ?_
    exact wp_sub [1, 2, 3, 0] rfl H
  · rw [if_neg c9] at H
    refine wp_iconst (z := 0) (v := 0) (by decide +kernel) (by decide) ?_
    exact wp_zret (by decide +kernel) rfl (by decide) (by show k ≤ room_1.cells; omega) (by show n ≤ room_1.slots; omega) ⟨_, rfl, H⟩
