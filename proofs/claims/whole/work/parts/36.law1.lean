set_option maxRecDepth 20000 in
theorem b10_law_728 {X : XX} {G : GG} {I : Nat → Nat → Int32} {L : Nat → Nat → Int64} {k : Nat} {n : Nat} {a1 : Nat} {a2 : Nat} {x3 : Int32} {Q : Int32 → GG → (Nat → Nat → Int32) → (Nat → Nat → Int64) → Prop} (hk : k + 100 ≤ room_1.cells) (hn : n + 3000 ≤ room_1.slots) (ok1 : OK8 G a1) (ok2 : OK9 G a2) (H : vp_in (x3 + 1) (X.2.2.2 51) ∧ (vp_in (x3 + 2) (X.2.2.2 51) ∧ (vp_in (x3 + 3) (X.2.2.2 51) ∧ (vp_in (x3 + 4) (X.2.2.2 51) ∧ (vp_in (x3 + 5) (X.2.2.2 51) ∧ (if (scr X (x3 + 5)) = (0 : Int32) then (wpI X B8_duet 0 [(0, .ref a1), (1, .int (scr X (x3 + 1))), (2, .int (scr X (x3 + 2))), (3, .int (scr X (x3 + 3))), (4, .int (scr X (x3 + 4))), (5, .int 0)] [] G I L (fun r4 I2 L3 => vp_in (x3 + 1) (X.2.2.2 51) ∧ (vp_in (x3 + 2) (X.2.2.2 51) ∧ (vp_in (x3 + 3) (X.2.2.2 51) ∧ (vp_in (x3 + 4) (X.2.2.2 51) ∧ (vp_in (x3 + 5) (X.2.2.2 51) ∧ (if (scr X (x3 + 5)) = (0 : Int32) then (wpI X B9_duet 0 [(0, .ref a2), (1, .int (scr X (x3 + 1))), (2, .int (scr X (x3 + 2))), (3, .int (scr X (x3 + 3))), (4, .int (scr X (x3 + 4))), (5, .int 0)] [] G I2 L3 (fun r8 I6 L7 => if r4 = r8 then (wgI X B10_law 18 [(0, .ref (X.2.2.2 50)), (1, .ref a1), (2, .ref a2), (3, .int (x3 + 6))] [] G I6 L7 k n Q) else (Q 0 G I6 L7))) else (wpI X B9_duet 0 [(0, .ref a2), (1, .int (scr X (x3 + 1))), (2, .int (scr X (x3 + 2))), (3, .int (scr X (x3 + 3))), (4, .int (scr X (x3 + 4))), (5, .int 1)] [] G I2 L3 (fun r12 I10 L11 => if r4 = r12 then (wgI X B10_law 18 [(0, .ref (X.2.2.2 50)), (1, .ref a1), (2, .ref a2), (3, .int (x3 + 6))] [] G I10 L11 k n Q) else (Q 0 G I10 L11)))))))))) else (wpI X B8_duet 0 [(0, .ref a1), (1, .int (scr X (x3 + 1))), (2, .int (scr X (x3 + 2))), (3, .int (scr X (x3 + 3))), (4, .int (scr X (x3 + 4))), (5, .int 1)] [] G I L (fun r21 I19 L20 => vp_in (x3 + 1) (X.2.2.2 51) ∧ (vp_in (x3 + 2) (X.2.2.2 51) ∧ (vp_in (x3 + 3) (X.2.2.2 51) ∧ (vp_in (x3 + 4) (X.2.2.2 51) ∧ (vp_in (x3 + 5) (X.2.2.2 51) ∧ (if (scr X (x3 + 5)) = (0 : Int32) then (wpI X B9_duet 0 [(0, .ref a2), (1, .int (scr X (x3 + 1))), (2, .int (scr X (x3 + 2))), (3, .int (scr X (x3 + 3))), (4, .int (scr X (x3 + 4))), (5, .int 0)] [] G I19 L20 (fun r25 I23 L24 => if r21 = r25 then (wgI X B10_law 18 [(0, .ref (X.2.2.2 50)), (1, .ref a1), (2, .ref a2), (3, .int (x3 + 6))] [] G I23 L24 k n Q) else (Q 0 G I23 L24))) else (wpI X B9_duet 0 [(0, .ref a2), (1, .int (scr X (x3 + 1))), (2, .int (scr X (x3 + 2))), (3, .int (scr X (x3 + 3))), (4, .int (scr X (x3 + 4))), (5, .int 1)] [] G I19 L20 (fun r29 I27 L28 => if r21 = r29 then (wgI X B10_law 18 [(0, .ref (X.2.2.2 50)), (1, .ref a1), (2, .ref a2), (3, .int (x3 + 6))] [] G I27 L28 k n Q) else (Q 0 G I27 L28)))))))))))))))) : wgI X B10_law 728 [(0, .ref (X.2.2.2 50)), (1, .ref a1), (2, .ref a2), (3, .int x3)] [] G I L k n Q := by
  refine wp_aload_n (z := 1) (i := 1) (r := (some a1)) 1 (by decide +kernel) rfl rfl ?_
  refine wp_aload_n (z := 0) (i := 0) (r := (some (X.2.2.2 50))) 0 (by decide +kernel) rfl rfl ?_
  refine wp_iload_n (z := 3) (i := 3) (x := x3) 3 (by decide +kernel) rfl rfl ?_
  refine wp_iconst (z := 1) (v := 1) (by decide +kernel) (by decide) ?_
  refine wp_iadd (by decide +kernel) ?_
  obtain ⟨o40, H⟩ := H
  refine wp_scrald (by decide +kernel) o40 ?_
  show wp X B10_law 734 [(0, .ref (X.2.2.2 50)), (1, .ref a1), (2, .ref a2), (3, .int x3)] [.int (scr X (x3 + 1)), .ref a1] (G, I, L) k n _
  refine wp_aload_n (z := 0) (i := 0) (r := (some (X.2.2.2 50))) 0 (by decide +kernel) rfl rfl ?_
  refine wp_iload_n (z := 3) (i := 3) (x := x3) 3 (by decide +kernel) rfl rfl ?_
  refine wp_iconst (z := 2) (v := 2) (by decide +kernel) (by decide) ?_
  refine wp_iadd (by decide +kernel) ?_
  obtain ⟨o39, H⟩ := H
  refine wp_scrald (by decide +kernel) o39 ?_
  show wp X B10_law 739 [(0, .ref (X.2.2.2 50)), (1, .ref a1), (2, .ref a2), (3, .int x3)] [.int (scr X (x3 + 2)), .int (scr X (x3 + 1)), .ref a1] (G, I, L) k n _
  refine wp_aload_n (z := 0) (i := 0) (r := (some (X.2.2.2 50))) 0 (by decide +kernel) rfl rfl ?_
  refine wp_iload_n (z := 3) (i := 3) (x := x3) 3 (by decide +kernel) rfl rfl ?_
  refine wp_iconst (z := 3) (v := 3) (by decide +kernel) (by decide) ?_
  refine wp_iadd (by decide +kernel) ?_
  obtain ⟨o38, H⟩ := H
  refine wp_scrald (by decide +kernel) o38 ?_
  show wp X B10_law 744 [(0, .ref (X.2.2.2 50)), (1, .ref a1), (2, .ref a2), (3, .int x3)] [.int (scr X (x3 + 3)), .int (scr X (x3 + 2)), .int (scr X (x3 + 1)), .ref a1] (G, I, L) k n _
  refine wp_aload_n (z := 0) (i := 0) (r := (some (X.2.2.2 50))) 0 (by decide +kernel) rfl rfl ?_
  refine wp_iload_n (z := 3) (i := 3) (x := x3) 3 (by decide +kernel) rfl rfl ?_
  refine wp_iconst (z := 4) (v := 4) (by decide +kernel) (by decide) ?_
  refine wp_iadd (by decide +kernel) ?_
  obtain ⟨o37, H⟩ := H
  refine wp_scrald (by decide +kernel) o37 ?_
  show wp X B10_law 749 [(0, .ref (X.2.2.2 50)), (1, .ref a1), (2, .ref a2), (3, .int x3)] [.int (scr X (x3 + 4)), .int (scr X (x3 + 3)), .int (scr X (x3 + 2)), .int (scr X (x3 + 1)), .ref a1] (G, I, L) k n _
  refine wp_aload_n (z := 0) (i := 0) (r := (some (X.2.2.2 50))) 0 (by decide +kernel) rfl rfl ?_
  refine wp_iload_n (z := 3) (i := 3) (x := x3) 3 (by decide +kernel) rfl rfl ?_
  refine wp_iconst (z := 5) (v := 5) (by decide +kernel) (by decide) ?_
  refine wp_iadd (by decide +kernel) ?_
  obtain ⟨o36, H⟩ := H
  refine wp_scrald (by decide +kernel) o36 ?_
  show wp X B10_law 754 [(0, .ref (X.2.2.2 50)), (1, .ref a1), (2, .ref a2), (3, .int x3)] [.int (scr X (x3 + 5)), .int (scr X (x3 + 4)), .int (scr X (x3 + 3)), .int (scr X (x3 + 2)), .int (scr X (x3 + 1)), .ref a1] (G, I, L) k n _
  refine wp_if_eq (off := 7) (tgt := 761) (by decide +kernel) (by decide) (fun c1 => ?_) (fun c1 => ?_)
  · rw [if_pos c1] at H
    refine wp_iconst (z := 0) (v := 0) (by decide +kernel) (by decide) ?_
    refine wp_callV (idx := 68) (B2 := B8_duet) (As := [.int (scr X (x3 + 1)), .int (scr X (x3 + 2)), .int (scr X (x3 + 3)), .int (scr X (x3 + 4)), .int 0]) (a := a1) (st := []) (by decide +kernel) m8_duet ml10_68 k8_duet e8_duet ck8 ok1.1 (⟨Nat.le_of_ble_eq_true rfl, Nat.le_of_ble_eq_true rfl⟩ : rOK B10_law B8_duet) rfl (Nat.le_of_ble_eq_true rfl) (Nat.le_of_ble_eq_true rfl) ⟨by show k + 0 ≤ room_1.cells; omega, by show n + 0 ≤ room_1.slots; omega⟩ rfl (wp_mono H (fun v9 M9 hq9 => ?_))
    clear H
    obtain ⟨r4, I2, L3, rfl, rfl, H⟩ := hq9
    show wp X B10_law 765 [(0, .ref (X.2.2.2 50)), (1, .ref a1), (2, .ref a2), (3, .int x3)] [.int r4] (G, I2, L3) k n _
    refine wp_aload_n (z := 2) (i := 2) (r := (some a2)) 2 (by decide +kernel) rfl rfl ?_
    refine wp_aload_n (z := 0) (i := 0) (r := (some (X.2.2.2 50))) 0 (by decide +kernel) rfl rfl ?_
    refine wp_iload_n (z := 3) (i := 3) (x := x3) 3 (by decide +kernel) rfl rfl ?_
    refine wp_iconst (z := 1) (v := 1) (by decide +kernel) (by decide) ?_
    refine wp_iadd (by decide +kernel) ?_
    obtain ⟨o18, H⟩ := H
    refine wp_scrald (by decide +kernel) o18 ?_
    show wp X B10_law 771 [(0, .ref (X.2.2.2 50)), (1, .ref a1), (2, .ref a2), (3, .int x3)] [.int (scr X (x3 + 1)), .ref a2, .int r4] (G, I2, L3) k n _
    refine wp_aload_n (z := 0) (i := 0) (r := (some (X.2.2.2 50))) 0 (by decide +kernel) rfl rfl ?_
    refine wp_iload_n (z := 3) (i := 3) (x := x3) 3 (by decide +kernel) rfl rfl ?_
    refine wp_iconst (z := 2) (v := 2) (by decide +kernel) (by decide) ?_
    refine wp_iadd (by decide +kernel) ?_
    obtain ⟨o17, H⟩ := H
    refine wp_scrald (by decide +kernel) o17 ?_
    show wp X B10_law 776 [(0, .ref (X.2.2.2 50)), (1, .ref a1), (2, .ref a2), (3, .int x3)] [.int (scr X (x3 + 2)), .int (scr X (x3 + 1)), .ref a2, .int r4] (G, I2, L3) k n _
    refine wp_aload_n (z := 0) (i := 0) (r := (some (X.2.2.2 50))) 0 (by decide +kernel) rfl rfl ?_
    refine wp_iload_n (z := 3) (i := 3) (x := x3) 3 (by decide +kernel) rfl rfl ?_
    refine wp_iconst (z := 3) (v := 3) (by decide +kernel) (by decide) ?_
    refine wp_iadd (by decide +kernel) ?_
    obtain ⟨o16, H⟩ := H
    refine wp_scrald (by decide +kernel) o16 ?_
    show wp X B10_law 781 [(0, .ref (X.2.2.2 50)), (1, .ref a1), (2, .ref a2), (3, .int x3)] [.int (scr X (x3 + 3)), .int (scr X (x3 + 2)), .int (scr X (x3 + 1)), .ref a2, .int r4] (G, I2, L3) k n _
    refine wp_aload_n (z := 0) (i := 0) (r := (some (X.2.2.2 50))) 0 (by decide +kernel) rfl rfl ?_
    refine wp_iload_n (z := 3) (i := 3) (x := x3) 3 (by decide +kernel) rfl rfl ?_
    refine wp_iconst (z := 4) (v := 4) (by decide +kernel) (by decide) ?_
    refine wp_iadd (by decide +kernel) ?_
    obtain ⟨o15, H⟩ := H
    refine wp_scrald (by decide +kernel) o15 ?_
    show wp X B10_law 786 [(0, .ref (X.2.2.2 50)), (1, .ref a1), (2, .ref a2), (3, .int x3)] [.int (scr X (x3 + 4)), .int (scr X (x3 + 3)), .int (scr X (x3 + 2)), .int (scr X (x3 + 1)), .ref a2, .int r4] (G, I2, L3) k n _
    refine wp_aload_n (z := 0) (i := 0) (r := (some (X.2.2.2 50))) 0 (by decide +kernel) rfl rfl ?_
    refine wp_iload_n (z := 3) (i := 3) (x := x3) 3 (by decide +kernel) rfl rfl ?_
    refine wp_iconst (z := 5) (v := 5) (by decide +kernel) (by decide) ?_
    refine wp_iadd (by decide +kernel) ?_
    obtain ⟨o14, H⟩ := H
    refine wp_scrald (by decide +kernel) o14 ?_
    show wp X B10_law 791 [(0, .ref (X.2.2.2 50)), (1, .ref a1), (2, .ref a2), (3, .int x3)] [.int (scr X (x3 + 5)), .int (scr X (x3 + 4)), .int (scr X (x3 + 3)), .int (scr X (x3 + 2)), .int (scr X (x3 + 1)), .ref a2, .int r4] (G, I2, L3) k n _
    refine wp_if_eq (off := 7) (tgt := 798) (by decide +kernel) (by decide) (fun c5 => ?_) (fun c5 => ?_)
    · rw [if_pos c5] at H
      refine wp_iconst (z := 0) (v := 0) (by decide +kernel) (by decide) ?_
      refine wp_callV (idx := 72) (B2 := B9_duet) (As := [.int (scr X (x3 + 1)), .int (scr X (x3 + 2)), .int (scr X (x3 + 3)), .int (scr X (x3 + 4)), .int 0]) (a := a2) (st := [.int r4]) (by decide +kernel) m9_duet ml10_72 k9_duet e9_duet ck9 ok2.1 (⟨Nat.le_of_ble_eq_true rfl, Nat.le_of_ble_eq_true rfl⟩ : rOK B10_law B9_duet) rfl (Nat.le_of_ble_eq_true rfl) (Nat.le_of_ble_eq_true rfl) ⟨by show k + 0 ≤ room_1.cells; omega, by show n + 0 ≤ room_1.slots; omega⟩ rfl (wp_mono H (fun v9 M9 hq9 => ?_))
      clear H
      obtain ⟨r8, I6, L7, rfl, rfl, H⟩ := hq9
      show wp X B10_law 802 [(0, .ref (X.2.2.2 50)), (1, .ref a1), (2, .ref a2), (3, .int x3)] [.int r8, .int r4] (G, I6, L7) k n _
      refine wp_icmp_eq (off := 1037) (tgt := 1839) (by decide +kernel) (by decide) (fun c9 => ?_) (fun c9 => ?_)
      · rw [if_pos c9] at H
        refine wp_iinc (i := 3) (z := 6) (v := 6) (lv' := [(3, .int (x3 + 6)), (0, .ref (X.2.2.2 50)), (1, .ref a1), (2, .ref a2)]) 3 (by decide +kernel) rfl (by decide) (by decide) rfl ?_
        refine wp_goto (off := -1824) (tgt := 18) (by decide +kernel) (by decide) ?_
        exact wp_sub [1, 2, 3, 0] rfl H
      · rw [if_neg c9] at H
        refine wp_iconst (z := 0) (v := 0) (by decide +kernel) (by decide) ?_
        exact wp_zret (by decide +kernel) rfl (by decide) (by show k ≤ room_1.cells; omega) (by show n ≤ room_1.slots; omega) ⟨_, rfl, H⟩
    · rw [if_neg c5] at H
      refine wp_iconst (z := 1) (v := 1) (by decide +kernel) (by decide) ?_
      refine wp_goto (off := 4) (tgt := 799) (by decide +kernel) (by decide) ?_
      refine wp_callV (idx := 72) (B2 := B9_duet) (As := [.int (scr X (x3 + 1)), .int (scr X (x3 + 2)), .int (scr X (x3 + 3)), .int (scr X (x3 + 4)), .int 1]) (a := a2) (st := [.int r4]) (by decide +kernel) m9_duet ml10_72 k9_duet e9_duet ck9 ok2.1 (⟨Nat.le_of_ble_eq_true rfl, Nat.le_of_ble_eq_true rfl⟩ : rOK B10_law B9_duet) rfl (Nat.le_of_ble_eq_true rfl) (Nat.le_of_ble_eq_true rfl) ⟨by show k + 0 ≤ room_1.cells; omega, by show n + 0 ≤ room_1.slots; omega⟩ rfl (wp_mono H (fun v9 M9 hq9 => ?_))
      clear H
      obtain ⟨r12, I10, L11, rfl, rfl, H⟩ := hq9
      show wp X B10_law 802 [(0, .ref (X.2.2.2 50)), (1, .ref a1), (2, .ref a2), (3, .int x3)] [.int r12, .int r4] (G, I10, L11) k n _
      refine wp_icmp_eq (off := 1037) (tgt := 1839) (by decide +kernel) (by decide) (fun c13 => ?_) (fun c13 => ?_)
      · rw [if_pos c13] at H
        refine wp_iinc (i := 3) (z := 6) (v := 6) (lv' := [(3, .int (x3 + 6)), (0, .ref (X.2.2.2 50)), (1, .ref a1), (2, .ref a2)]) 3 (by decide +kernel) rfl (by decide) (by decide) rfl ?_
        refine wp_goto (off := -1824) (tgt := 18) (by decide +kernel) (by decide) ?_
        exact wp_sub [1, 2, 3, 0] rfl H
      · rw [if_neg c13] at H
        refine wp_iconst (z := 0) (v := 0) (by decide +kernel) (by decide) ?_
        exact wp_zret (by decide +kernel) rfl (by decide) (by show k ≤ room_1.cells; omega) (by show n ≤ room_1.slots; omega) ⟨_, rfl, H⟩
  · rw [if_neg c1] at H
    refine wp_iconst (z := 1) (v := 1) (by decide +kernel) (by decide) ?_
    refine wp_goto (off := 4) (tgt := 762) (by decide +kernel) (by decide) ?_
    refine wp_callV (idx := 68) (B2 := B8_duet) (As := [.int (scr X (x3 + 1)), .int (scr X (x3 + 2)), .int (scr X (x3 + 3)), .int (scr X (x3 + 4)), .int 1]) (a := a1) (st := []) (by decide +kernel) m8_duet ml10_68 k8_duet e8_duet ck8 ok1.1 (⟨Nat.le_of_ble_eq_true rfl, Nat.le_of_ble_eq_true rfl⟩ : rOK B10_law B8_duet) rfl (Nat.le_of_ble_eq_true rfl) (Nat.le_of_ble_eq_true rfl) ⟨by show k + 0 ≤ room_1.cells; omega, by show n + 0 ≤ room_1.slots; omega⟩ rfl (wp_mono H (fun v9 M9 hq9 => ?_))
    clear H
    obtain ⟨r21, I19, L20, rfl, rfl, H⟩ := hq9
    show wp X B10_law 765 [(0, .ref (X.2.2.2 50)), (1, .ref a1), (2, .ref a2), (3, .int x3)] [.int r21] (G, I19, L20) k n _
    refine wp_aload_n (z := 2) (i := 2) (r := (some a2)) 2 (by decide +kernel) rfl rfl ?_
    refine wp_aload_n (z := 0) (i := 0) (r := (some (X.2.2.2 50))) 0 (by decide +kernel) rfl rfl ?_
    refine wp_iload_n (z := 3) (i := 3) (x := x3) 3 (by decide +kernel) rfl rfl ?_
    refine wp_iconst (z := 1) (v := 1) (by decide +kernel) (by decide) ?_
    refine wp_iadd (by decide +kernel) ?_
    obtain ⟨o35, H⟩ := H
    refine wp_scrald (by decide +kernel) o35 ?_
    show wp X B10_law 771 [(0, .ref (X.2.2.2 50)), (1, .ref a1), (2, .ref a2), (3, .int x3)] [.int (scr X (x3 + 1)), .ref a2, .int r21] (G, I19, L20) k n _
    refine wp_aload_n (z := 0) (i := 0) (r := (some (X.2.2.2 50))) 0 (by decide +kernel) rfl rfl ?_
    refine wp_iload_n (z := 3) (i := 3) (x := x3) 3 (by decide +kernel) rfl rfl ?_
    refine wp_iconst (z := 2) (v := 2) (by decide +kernel) (by decide) ?_
    refine wp_iadd (by decide +kernel) ?_
    obtain ⟨o34, H⟩ := H
    refine wp_scrald (by decide +kernel) o34 ?_
    show wp X B10_law 776 [(0, .ref (X.2.2.2 50)), (1, .ref a1), (2, .ref a2), (3, .int x3)] [.int (scr X (x3 + 2)), .int (scr X (x3 + 1)), .ref a2, .int r21] (G, I19, L20) k n _
    refine wp_aload_n (z := 0) (i := 0) (r := (some (X.2.2.2 50))) 0 (by decide +kernel) rfl rfl ?_
    refine wp_iload_n (z := 3) (i := 3) (x := x3) 3 (by decide +kernel) rfl rfl ?_
    refine wp_iconst (z := 3) (v := 3) (by decide +kernel) (by decide) ?_
    refine wp_iadd (by decide +kernel) ?_
    obtain ⟨o33, H⟩ := H
    refine wp_scrald (by decide +kernel) o33 ?_
    show wp X B10_law 781 [(0, .ref (X.2.2.2 50)), (1, .ref a1), (2, .ref a2), (3, .int x3)] [.int (scr X (x3 + 3)), .int (scr X (x3 + 2)), .int (scr X (x3 + 1)), .ref a2, .int r21] (G, I19, L20) k n _
    refine wp_aload_n (z := 0) (i := 0) (r := (some (X.2.2.2 50))) 0 (by decide +kernel) rfl rfl ?_
    refine wp_iload_n (z := 3) (i := 3) (x := x3) 3 (by decide +kernel) rfl rfl ?_
    refine wp_iconst (z := 4) (v := 4) (by decide +kernel) (by decide) ?_
    refine wp_iadd (by decide +kernel) ?_
    obtain ⟨o32, H⟩ := H
    refine wp_scrald (by decide +kernel) o32 ?_
    show wp X B10_law 786 [(0, .ref (X.2.2.2 50)), (1, .ref a1), (2, .ref a2), (3, .int x3)] [.int (scr X (x3 + 4)), .int (scr X (x3 + 3)), .int (scr X (x3 + 2)), .int (scr X (x3 + 1)), .ref a2, .int r21] (G, I19, L20) k n _
    refine wp_aload_n (z := 0) (i := 0) (r := (some (X.2.2.2 50))) 0 (by decide +kernel) rfl rfl ?_
    refine wp_iload_n (z := 3) (i := 3) (x := x3) 3 (by decide +kernel) rfl rfl ?_
    refine wp_iconst (z := 5) (v := 5) (by decide +kernel) (by decide) ?_
    refine wp_iadd (by decide +kernel) ?_
    obtain ⟨o31, H⟩ := H
    refine wp_scrald (by decide +kernel) o31 ?_
    show wp X B10_law 791 [(0, .ref (X.2.2.2 50)), (1, .ref a1), (2, .ref a2), (3, .int x3)] [.int (scr X (x3 + 5)), .int (scr X (x3 + 4)), .int (scr X (x3 + 3)), .int (scr X (x3 + 2)), .int (scr X (x3 + 1)), .ref a2, .int r21] (G, I19, L20) k n _
    refine wp_if_eq (off := 7) (tgt := 798) (by decide +kernel) (by decide) (fun c22 => ?_) (fun c22 => ?_)
    · rw [if_pos c22] at H
      refine wp_iconst (z := 0) (v := 0) (by decide +kernel) (by decide) ?_
      refine wp_callV (idx := 72) (B2 := B9_duet) (As := [.int (scr X (x3 + 1)), .int (scr X (x3 + 2)), .int (scr X (x3 + 3)), .int (scr X (x3 + 4)), .int 0]) (a := a2) (st := [.int r21]) (by decide +kernel) m9_duet ml10_72 k9_duet e9_duet ck9 ok2.1 (⟨Nat.le_of_ble_eq_true rfl, Nat.le_of_ble_eq_true rfl⟩ : rOK B10_law B9_duet) rfl (Nat.le_of_ble_eq_true rfl) (Nat.le_of_ble_eq_true rfl) ⟨by show k + 0 ≤ room_1.cells; omega, by show n + 0 ≤ room_1.slots; omega⟩ rfl (wp_mono H (fun v9 M9 hq9 => ?_))
      clear H
      obtain ⟨r25, I23, L24, rfl, rfl, H⟩ := hq9
      show wp X B10_law 802 [(0, .ref (X.2.2.2 50)), (1, .ref a1), (2, .ref a2), (3, .int x3)] [.int r25, .int r21] (G, I23, L24) k n _
      refine wp_icmp_eq (off := 1037) (tgt := 1839) (by decide +kernel) (by decide) (fun c26 => ?_) (fun c26 => ?_)
      · rw [if_pos c26] at H
        refine wp_iinc (i := 3) (z := 6) (v := 6) (lv' := [(3, .int (x3 + 6)), (0, .ref (X.2.2.2 50)), (1, .ref a1), (2, .ref a2)]) 3 (by decide +kernel) rfl (by decide) (by decide) rfl ?_
        refine wp_goto (off := -1824) (tgt := 18) (by decide +kernel) (by decide) ?_
        exact wp_sub [1, 2, 3, 0] rfl H
      · rw [if_neg c26] at H
        refine wp_iconst (z := 0) (v := 0) (by decide +kernel) (by decide) ?_
        exact wp_zret (by decide +kernel) rfl (by decide) (by show k ≤ room_1.cells; omega) (by show n ≤ room_1.slots; omega) ⟨_, rfl, H⟩
    · rw [if_neg c22] at H
      refine wp_iconst (z := 1) (v := 1) (by decide +kernel) (by decide) ?_
      refine wp_goto (off := 4) (tgt := 799) (by decide +kernel) (by decide) ?_
      refine wp_callV (idx := 72) (B2 := B9_duet) (As := [.int (scr X (x3 + 1)), .int (scr X (x3 + 2)), .int (scr X (x3 + 3)), .int (scr X (x3 + 4)), .int 1]) (a := a2) (st := [.int r21]) (by decide +kernel) m9_duet ml10_72 k9_duet e9_duet ck9 ok2.1 (⟨Nat.le_of_ble_eq_true rfl, Nat.le_of_ble_eq_true rfl⟩ : rOK B10_law B9_duet) rfl (Nat.le_of_ble_eq_true rfl) (Nat.le_of_ble_eq_true rfl) ⟨by show k + 0 ≤ room_1.cells; omega, by show n + 0 ≤ room_1.slots; omega⟩ rfl (wp_mono H (fun v9 M9 hq9 => ?_))
      clear H
      obtain ⟨r29, I27, L28, rfl, rfl, H⟩ := hq9
      show wp X B10_law 802 [(0, .ref (X.2.2.2 50)), (1, .ref a1), (2, .ref a2), (3, .int x3)] [.int r29, .int r21] (G, I27, L28) k n _
      refine wp_icmp_eq (off := 1037) (tgt := 1839) (by decide +kernel) (by decide) (fun c30 => ?_) (fun c30 => ?_)
      · rw [if_pos c30] at H
        refine wp_iinc (i := 3) (z := 6) (v := 6) (lv' := [(3, .int (x3 + 6)), (0, .ref (X.2.2.2 50)), (1, .ref a1), (2, .ref a2)]) 3 (by decide +kernel) rfl (by decide) (by decide) rfl ?_
        refine wp_goto (off := -1824) (tgt := 18) (by decide +kernel) (by decide) ?_
        exact wp_sub [1, 2, 3, 0] rfl H
      · rw [if_neg c30] at H
        refine wp_iconst (z := 0) (v := 0) (by decide +kernel) (by decide) ?_
        exact wp_zret (by decide +kernel) rfl (by decide) (by show k ≤ room_1.cells; omega) (by show n ≤ room_1.slots; omega) ⟨_, rfl, H⟩
set_option maxRecDepth 20000 in
theorem b10_law_807 {X : XX} {G : GG} {I : Nat → Nat → Int32} {L : Nat → Nat → Int64} {k : Nat} {n : Nat} {a1 : Nat} {a2 : Nat} {x3 : Int32} {Q : Int32 → GG → (Nat → Nat → Int32) → (Nat → Nat → Int64) → Prop} (hk : k + 100 ≤ room_1.cells) (hn : n + 3000 ≤ room_1.slots) (ok1 : OK8 G a1) (ok2 : OK9 G a2) (H : vp_in (x3 + 1) (X.2.2.2 51) ∧ (vp_in (x3 + 2) (X.2.2.2 51) ∧ (vp_in (x3 + 3) (X.2.2.2 51) ∧ (vp_in (x3 + 4) (X.2.2.2 51) ∧ (vp_in (x3 + 5) (X.2.2.2 51) ∧ (if (scr X (x3 + 5)) = (0 : Int32) then (wpJ X B8_arm 0 [(0, .ref a1), (1, .int (scr X (x3 + 1))), (2, .int (scr X (x3 + 2))), (3, .int (scr X (x3 + 3))), (4, .int (scr X (x3 + 4))), (5, .int 0)] [] G I L (fun r4 I2 L3 => vp_in (x3 + 1) (X.2.2.2 51) ∧ (vp_in (x3 + 2) (X.2.2.2 51) ∧ (vp_in (x3 + 3) (X.2.2.2 51) ∧ (vp_in (x3 + 4) (X.2.2.2 51) ∧ (vp_in (x3 + 5) (X.2.2.2 51) ∧ (if (scr X (x3 + 5)) = (0 : Int32) then (wpJ X B9_arm 0 [(0, .ref a2), (1, .int (scr X (x3 + 1))), (2, .int (scr X (x3 + 2))), (3, .int (scr X (x3 + 3))), (4, .int (scr X (x3 + 4))), (5, .int 0)] [] G I2 L3 (fun r8 I6 L7 => if (lg_cmp r4 r8) = (0 : Int32) then (wgI X B10_law 18 [(0, .ref (X.2.2.2 50)), (1, .ref a1), (2, .ref a2), (3, .int (x3 + 6))] [] G I6 L7 k n Q) else (Q 0 G I6 L7))) else (wpJ X B9_arm 0 [(0, .ref a2), (1, .int (scr X (x3 + 1))), (2, .int (scr X (x3 + 2))), (3, .int (scr X (x3 + 3))), (4, .int (scr X (x3 + 4))), (5, .int 1)] [] G I2 L3 (fun r12 I10 L11 => if (lg_cmp r4 r12) = (0 : Int32) then (wgI X B10_law 18 [(0, .ref (X.2.2.2 50)), (1, .ref a1), (2, .ref a2), (3, .int (x3 + 6))] [] G I10 L11 k n Q) else (Q 0 G I10 L11)))))))))) else (wpJ X B8_arm 0 [(0, .ref a1), (1, .int (scr X (x3 + 1))), (2, .int (scr X (x3 + 2))), (3, .int (scr X (x3 + 3))), (4, .int (scr X (x3 + 4))), (5, .int 1)] [] G I L (fun r21 I19 L20 => vp_in (x3 + 1) (X.2.2.2 51) ∧ (vp_in (x3 + 2) (X.2.2.2 51) ∧ (vp_in (x3 + 3) (X.2.2.2 51) ∧ (vp_in (x3 + 4) (X.2.2.2 51) ∧ (vp_in (x3 + 5) (X.2.2.2 51) ∧ (if (scr X (x3 + 5)) = (0 : Int32) then (wpJ X B9_arm 0 [(0, .ref a2), (1, .int (scr X (x3 + 1))), (2, .int (scr X (x3 + 2))), (3, .int (scr X (x3 + 3))), (4, .int (scr X (x3 + 4))), (5, .int 0)] [] G I19 L20 (fun r25 I23 L24 => if (lg_cmp r21 r25) = (0 : Int32) then (wgI X B10_law 18 [(0, .ref (X.2.2.2 50)), (1, .ref a1), (2, .ref a2), (3, .int (x3 + 6))] [] G I23 L24 k n Q) else (Q 0 G I23 L24))) else (wpJ X B9_arm 0 [(0, .ref a2), (1, .int (scr X (x3 + 1))), (2, .int (scr X (x3 + 2))), (3, .int (scr X (x3 + 3))), (4, .int (scr X (x3 + 4))), (5, .int 1)] [] G I19 L20 (fun r29 I27 L28 => if (lg_cmp r21 r29) = (0 : Int32) then (wgI X B10_law 18 [(0, .ref (X.2.2.2 50)), (1, .ref a1), (2, .ref a2), (3, .int (x3 + 6))] [] G I27 L28 k n Q) else (Q 0 G I27 L28)))))))))))))))) : wgI X B10_law 807 [(0, .ref (X.2.2.2 50)), (1, .ref a1), (2, .ref a2), (3, .int x3)] [] G I L k n Q := by
  refine wp_aload_n (z := 1) (i := 1) (r := (some a1)) 1 (by decide +kernel) rfl rfl ?_
  refine wp_aload_n (z := 0) (i := 0) (r := (some (X.2.2.2 50))) 0 (by decide +kernel) rfl rfl ?_
  refine wp_iload_n (z := 3) (i := 3) (x := x3) 3 (by decide +kernel) rfl rfl ?_
  refine wp_iconst (z := 1) (v := 1) (by decide +kernel) (by decide) ?_
  refine wp_iadd (by decide +kernel) ?_
  obtain ⟨o40, H⟩ := H
  refine wp_scrald (by decide +kernel) o40 ?_
  show wp X B10_law 813 [(0, .ref (X.2.2.2 50)), (1, .ref a1), (2, .ref a2), (3, .int x3)] [.int (scr X (x3 + 1)), .ref a1] (G, I, L) k n _
  refine wp_aload_n (z := 0) (i := 0) (r := (some (X.2.2.2 50))) 0 (by decide +kernel) rfl rfl ?_
  refine wp_iload_n (z := 3) (i := 3) (x := x3) 3 (by decide +kernel) rfl rfl ?_
  refine wp_iconst (z := 2) (v := 2) (by decide +kernel) (by decide) ?_
  refine wp_iadd (by decide +kernel) ?_
  obtain ⟨o39, H⟩ := H
  refine wp_scrald (by decide +kernel) o39 ?_
  show wp X B10_law 818 [(0, .ref (X.2.2.2 50)), (1, .ref a1), (2, .ref a2), (3, .int x3)] [.int (scr X (x3 + 2)), .int (scr X (x3 + 1)), .ref a1] (G, I, L) k n _
  refine wp_aload_n (z := 0) (i := 0) (r := (some (X.2.2.2 50))) 0 (by decide +kernel) rfl rfl ?_
  refine wp_iload_n (z := 3) (i := 3) (x := x3) 3 (by decide +kernel) rfl rfl ?_
  refine wp_iconst (z := 3) (v := 3) (by decide +kernel) (by decide) ?_
  refine wp_iadd (by decide +kernel) ?_
  obtain ⟨o38, H⟩ := H
  refine wp_scrald (by decide +kernel) o38 ?_
  show wp X B10_law 823 [(0, .ref (X.2.2.2 50)), (1, .ref a1), (2, .ref a2), (3, .int x3)] [.int (scr X (x3 + 3)), .int (scr X (x3 + 2)), .int (scr X (x3 + 1)), .ref a1] (G, I, L) k n _
  refine wp_aload_n (z := 0) (i := 0) (r := (some (X.2.2.2 50))) 0 (by decide +kernel) rfl rfl ?_
  refine wp_iload_n (z := 3) (i := 3) (x := x3) 3 (by decide +kernel) rfl rfl ?_
  refine wp_iconst (z := 4) (v := 4) (by decide +kernel) (by decide) ?_
  refine wp_iadd (by decide +kernel) ?_
  obtain ⟨o37, H⟩ := H
  refine wp_scrald (by decide +kernel) o37 ?_
  show wp X B10_law 828 [(0, .ref (X.2.2.2 50)), (1, .ref a1), (2, .ref a2), (3, .int x3)] [.int (scr X (x3 + 4)), .int (scr X (x3 + 3)), .int (scr X (x3 + 2)), .int (scr X (x3 + 1)), .ref a1] (G, I, L) k n _
  refine wp_aload_n (z := 0) (i := 0) (r := (some (X.2.2.2 50))) 0 (by decide +kernel) rfl rfl ?_
  refine wp_iload_n (z := 3) (i := 3) (x := x3) 3 (by decide +kernel) rfl rfl ?_
  refine wp_iconst (z := 5) (v := 5) (by decide +kernel) (by decide) ?_
  refine wp_iadd (by decide +kernel) ?_
  obtain ⟨o36, H⟩ := H
  refine wp_scrald (by decide +kernel) o36 ?_
  show wp X B10_law 833 [(0, .ref (X.2.2.2 50)), (1, .ref a1), (2, .ref a2), (3, .int x3)] [.int (scr X (x3 + 5)), .int (scr X (x3 + 4)), .int (scr X (x3 + 3)), .int (scr X (x3 + 2)), .int (scr X (x3 + 1)), .ref a1] (G, I, L) k n _
  refine wp_if_eq (off := 7) (tgt := 840) (by decide +kernel) (by decide) (fun c1 => ?_) (fun c1 => ?_)
  · rw [if_pos c1] at H
    refine wp_iconst (z := 0) (v := 0) (by decide +kernel) (by decide) ?_
    refine wp_callV (idx := 73) (B2 := B8_arm) (As := [.int (scr X (x3 + 1)), .int (scr X (x3 + 2)), .int (scr X (x3 + 3)), .int (scr X (x3 + 4)), .int 0]) (a := a1) (st := []) (by decide +kernel) m8_arm ml10_73 k8_arm e8_arm ck8 ok1.1 (⟨Nat.le_of_ble_eq_true rfl, Nat.le_of_ble_eq_true rfl⟩ : rOK B10_law B8_arm) rfl (Nat.le_of_ble_eq_true rfl) (Nat.le_of_ble_eq_true rfl) ⟨by show k + 0 ≤ room_1.cells; omega, by show n + 0 ≤ room_1.slots; omega⟩ rfl (wp_mono H (fun v9 M9 hq9 => ?_))
    clear H
    obtain ⟨r4, I2, L3, rfl, rfl, H⟩ := hq9
    show wp X B10_law 844 [(0, .ref (X.2.2.2 50)), (1, .ref a1), (2, .ref a2), (3, .int x3)] [.long r4] (G, I2, L3) k n _
    refine wp_aload_n (z := 2) (i := 2) (r := (some a2)) 2 (by decide +kernel) rfl rfl ?_
    refine wp_aload_n (z := 0) (i := 0) (r := (some (X.2.2.2 50))) 0 (by decide +kernel) rfl rfl ?_
    refine wp_iload_n (z := 3) (i := 3) (x := x3) 3 (by decide +kernel) rfl rfl ?_
    refine wp_iconst (z := 1) (v := 1) (by decide +kernel) (by decide) ?_
    refine wp_iadd (by decide +kernel) ?_
    obtain ⟨o18, H⟩ := H
    refine wp_scrald (by decide +kernel) o18 ?_
    show wp X B10_law 850 [(0, .ref (X.2.2.2 50)), (1, .ref a1), (2, .ref a2), (3, .int x3)] [.int (scr X (x3 + 1)), .ref a2, .long r4] (G, I2, L3) k n _
    refine wp_aload_n (z := 0) (i := 0) (r := (some (X.2.2.2 50))) 0 (by decide +kernel) rfl rfl ?_
    refine wp_iload_n (z := 3) (i := 3) (x := x3) 3 (by decide +kernel) rfl rfl ?_
    refine wp_iconst (z := 2) (v := 2) (by decide +kernel) (by decide) ?_
    refine wp_iadd (by decide +kernel) ?_
    obtain ⟨o17, H⟩ := H
    refine wp_scrald (by decide +kernel) o17 ?_
    show wp X B10_law 855 [(0, .ref (X.2.2.2 50)), (1, .ref a1), (2, .ref a2), (3, .int x3)] [.int (scr X (x3 + 2)), .int (scr X (x3 + 1)), .ref a2, .long r4] (G, I2, L3) k n _
    refine wp_aload_n (z := 0) (i := 0) (r := (some (X.2.2.2 50))) 0 (by decide +kernel) rfl rfl ?_
    refine wp_iload_n (z := 3) (i := 3) (x := x3) 3 (by decide +kernel) rfl rfl ?_
    refine wp_iconst (z := 3) (v := 3) (by decide +kernel) (by decide) ?_
    refine wp_iadd (by decide +kernel) ?_
    obtain ⟨o16, H⟩ := H
    refine wp_scrald (by decide +kernel) o16 ?_
    show wp X B10_law 860 [(0, .ref (X.2.2.2 50)), (1, .ref a1), (2, .ref a2), (3, .int x3)] [.int (scr X (x3 + 3)), .int (scr X (x3 + 2)), .int (scr X (x3 + 1)), .ref a2, .long r4] (G, I2, L3) k n _
    refine wp_aload_n (z := 0) (i := 0) (r := (some (X.2.2.2 50))) 0 (by decide +kernel) rfl rfl ?_
    refine wp_iload_n (z := 3) (i := 3) (x := x3) 3 (by decide +kernel) rfl rfl ?_
    refine wp_iconst (z := 4) (v := 4) (by decide +kernel) (by decide) ?_
    refine wp_iadd (by decide +kernel) ?_
    obtain ⟨o15, H⟩ := H
    refine wp_scrald (by decide +kernel) o15 ?_
    show wp X B10_law 865 [(0, .ref (X.2.2.2 50)), (1, .ref a1), (2, .ref a2), (3, .int x3)] [.int (scr X (x3 + 4)), .int (scr X (x3 + 3)), .int (scr X (x3 + 2)), .int (scr X (x3 + 1)), .ref a2, .long r4] (G, I2, L3) k n _
    refine wp_aload_n (z := 0) (i := 0) (r := (some (X.2.2.2 50))) 0 (by decide +kernel) rfl rfl ?_
    refine wp_iload_n (z := 3) (i := 3) (x := x3) 3 (by decide +kernel) rfl rfl ?_
    refine wp_iconst (z := 5) (v := 5) (by decide +kernel) (by decide) ?_
    refine wp_iadd (by decide +kernel) ?_
    obtain ⟨o14, H⟩ := H
    refine wp_scrald (by decide +kernel) o14 ?_
    show wp X B10_law 870 [(0, .ref (X.2.2.2 50)), (1, .ref a1), (2, .ref a2), (3, .int x3)] [.int (scr X (x3 + 5)), .int (scr X (x3 + 4)), .int (scr X (x3 + 3)), .int (scr X (x3 + 2)), .int (scr X (x3 + 1)), .ref a2, .long r4] (G, I2, L3) k n _
    refine wp_if_eq (off := 7) (tgt := 877) (by decide +kernel) (by decide) (fun c5 => ?_) (fun c5 => ?_)
    · rw [if_pos c5] at H
      refine wp_iconst (z := 0) (v := 0) (by decide +kernel) (by decide) ?_
      refine wp_callV (idx := 77) (B2 := B9_arm) (As := [.int (scr X (x3 + 1)), .int (scr X (x3 + 2)), .int (scr X (x3 + 3)), .int (scr X (x3 + 4)), .int 0]) (a := a2) (st := [.long r4]) (by decide +kernel) m9_arm ml10_77 k9_arm e9_arm ck9 ok2.1 (⟨Nat.le_of_ble_eq_true rfl, Nat.le_of_ble_eq_true rfl⟩ : rOK B10_law B9_arm) rfl (Nat.le_of_ble_eq_true rfl) (Nat.le_of_ble_eq_true rfl) ⟨by show k + 0 ≤ room_1.cells; omega, by show n + 0 ≤ room_1.slots; omega⟩ rfl (wp_mono H (fun v9 M9 hq9 => ?_))
      clear H
      obtain ⟨r8, I6, L7, rfl, rfl, H⟩ := hq9
      show wp X B10_law 881 [(0, .ref (X.2.2.2 50)), (1, .ref a1), (2, .ref a2), (3, .int x3)] [.long r8, .long r4] (G, I6, L7) k n _
      refine wp_lcmp (by decide +kernel) ?_
      refine wp_if_eq (off := 957) (tgt := 1839) (by decide +kernel) (by decide) (fun c9 => ?_) (fun c9 => ?_)
      · rw [if_pos c9] at H
        refine wp_iinc (i := 3) (z := 6) (v := 6) (lv' := [(3, .int (x3 + 6)), (0, .ref (X.2.2.2 50)), (1, .ref a1), (2, .ref a2)]) 3 (by decide +kernel) rfl (by decide) (by decide) rfl ?_
        refine wp_goto (off := -1824) (tgt := 18) (by decide +kernel) (by decide) ?_
        exact wp_sub [1, 2, 3, 0] rfl H
      · rw [if_neg c9] at H
        refine wp_iconst (z := 0) (v := 0) (by decide +kernel) (by decide) ?_
        exact wp_zret (by decide +kernel) rfl (by decide) (by show k ≤ room_1.cells; omega) (by show n ≤ room_1.slots; omega) ⟨_, rfl, H⟩
    · rw [if_neg c5] at H
      refine wp_iconst (z := 1) (v := 1) (by decide +kernel) (by decide) ?_
      refine wp_goto (off := 4) (tgt := 878) (by decide +kernel) (by decide) ?_
      refine wp_callV (idx := 77) (B2 := B9_arm) (As := [.int (scr X (x3 + 1)), .int (scr X (x3 + 2)), .int (scr X (x3 + 3)), .int (scr X (x3 + 4)), .int 1]) (a := a2) (st := [.long r4]) (by decide +kernel) m9_arm ml10_77 k9_arm e9_arm ck9 ok2.1 (⟨Nat.le_of_ble_eq_true rfl, Nat.le_of_ble_eq_true rfl⟩ : rOK B10_law B9_arm) rfl (Nat.le_of_ble_eq_true rfl) (Nat.le_of_ble_eq_true rfl) ⟨by show k + 0 ≤ room_1.cells; omega, by show n + 0 ≤ room_1.slots; omega⟩ rfl (wp_mono H (fun v9 M9 hq9 => ?_))
      clear H
      obtain ⟨r12, I10, L11, rfl, rfl, H⟩ := hq9
      show wp X B10_law 881 [(0, .ref (X.2.2.2 50)), (1, .ref a1), (2, .ref a2), (3, .int x3)] [.long r12, .long r4] (G, I10, L11) k n _
      refine wp_lcmp (by decide +kernel) ?_
      refine wp_if_eq (off := 957) (tgt := 1839) (by decide +kernel) (by decide) (fun c13 => ?_) (fun c13 => ?_)
      · rw [if_pos c13] at H
        refine wp_iinc (i := 3) (z := 6) (v := 6) (lv' := [(3, .int (x3 + 6)), (0, .ref (X.2.2.2 50)), (1, .ref a1), (2, .ref a2)]) 3 (by decide +kernel) rfl (by decide) (by decide) rfl ?_
        refine wp_goto (off := -1824) (tgt := 18) (by decide +kernel) (by decide) ?_
        exact wp_sub [1, 2, 3, 0] rfl H
      · rw [if_neg c13] at H
        refine wp_iconst (z := 0) (v := 0) (by decide +kernel) (by decide) ?_
        exact wp_zret (by decide +kernel) rfl (by decide) (by show k ≤ room_1.cells; omega) (by show n ≤ room_1.slots; omega) ⟨_, rfl, H⟩
  · rw [if_neg c1] at H
    refine wp_iconst (z := 1) (v := 1) (by decide +kernel) (by decide) ?_
    refine wp_goto (off := 4) (tgt := 841) (by decide +kernel) (by decide) ?_
    refine wp_callV (idx := 73) (B2 := B8_arm) (As := [.int (scr X (x3 + 1)), .int (scr X (x3 + 2)), .int (scr X (x3 + 3)), .int (scr X (x3 + 4)), .int 1]) (a := a1) (st := []) (by decide +kernel) m8_arm ml10_73 k8_arm e8_arm ck8 ok1.1 (⟨Nat.le_of_ble_eq_true rfl, Nat.le_of_ble_eq_true rfl⟩ : rOK B10_law B8_arm) rfl (Nat.le_of_ble_eq_true rfl) (Nat.le_of_ble_eq_true rfl) ⟨by show k + 0 ≤ room_1.cells; omega, by show n + 0 ≤ room_1.slots; omega⟩ rfl (wp_mono H (fun v9 M9 hq9 => ?_))
    clear H
    obtain ⟨r21, I19, L20, rfl, rfl, H⟩ := hq9
    show wp X B10_law 844 [(0, .ref (X.2.2.2 50)), (1, .ref a1), (2, .ref a2), (3, .int x3)] [.long r21] (G, I19, L20) k n _
    refine wp_aload_n (z := 2) (i := 2) (r := (some a2)) 2 (by decide +kernel) rfl rfl ?_
    refine wp_aload_n (z := 0) (i := 0) (r := (some (X.2.2.2 50))) 0 (by decide +kernel) rfl rfl ?_
    refine wp_iload_n (z := 3) (i := 3) (x := x3) 3 (by decide +kernel) rfl rfl ?_
    refine wp_iconst (z := 1) (v := 1) (by decide +kernel) (by decide) ?_
    refine wp_iadd (by decide +kernel) ?_
    obtain ⟨o35, H⟩ := H
    refine wp_scrald (by decide +kernel) o35 ?_
    show wp X B10_law 850 [(0, .ref (X.2.2.2 50)), (1, .ref a1), (2, .ref a2), (3, .int x3)] [.int (scr X (x3 + 1)), .ref a2, .long r21] (G, I19, L20) k n _
    refine wp_aload_n (z := 0) (i := 0) (r := (some (X.2.2.2 50))) 0 (by decide +kernel) rfl rfl ?_
    refine wp_iload_n (z := 3) (i := 3) (x := x3) 3 (by decide +kernel) rfl rfl ?_
    refine wp_iconst (z := 2) (v := 2) (by decide +kernel) (by decide) ?_
    refine wp_iadd (by decide +kernel) ?_
    obtain ⟨o34, H⟩ := H
    refine wp_scrald (by decide +kernel) o34 ?_
    show wp X B10_law 855 [(0, .ref (X.2.2.2 50)), (1, .ref a1), (2, .ref a2), (3, .int x3)] [.int (scr X (x3 + 2)), .int (scr X (x3 + 1)), .ref a2, .long r21] (G, I19, L20) k n _
    refine wp_aload_n (z := 0) (i := 0) (r := (some (X.2.2.2 50))) 0 (by decide +kernel) rfl rfl ?_
    refine wp_iload_n (z := 3) (i := 3) (x := x3) 3 (by decide +kernel) rfl rfl ?_
    refine wp_iconst (z := 3) (v := 3) (by decide +kernel) (by decide) ?_
    refine wp_iadd (by decide +kernel) ?_
    obtain ⟨o33, H⟩ := H
    refine wp_scrald (by decide +kernel) o33 ?_
    show wp X B10_law 860 [(0, .ref (X.2.2.2 50)), (1, .ref a1), (2, .ref a2), (3, .int x3)] [.int (scr X (x3 + 3)), .int (scr X (x3 + 2)), .int (scr X (x3 + 1)), .ref a2, .long r21] (G, I19, L20) k n _
    refine wp_aload_n (z := 0) (i := 0) (r := (some (X.2.2.2 50))) 0 (by decide +kernel) rfl rfl ?_
    refine wp_iload_n (z := 3) (i := 3) (x := x3) 3 (by decide +kernel) rfl rfl ?_
    refine wp_iconst (z := 4) (v := 4) (by decide +kernel) (by decide) ?_
    refine wp_iadd (by decide +kernel) ?_
    obtain ⟨o32, H⟩ := H
    refine wp_scrald (by decide +kernel) o32 ?_
    show wp X B10_law 865 [(0, .ref (X.2.2.2 50)), (1, .ref a1), (2, .ref a2), (3, .int x3)] [.int (scr X (x3 + 4)), .int (scr X (x3 + 3)), .int (scr X (x3 + 2)), .int (scr X (x3 + 1)), .ref a2, .long r21] (G, I19, L20) k n _
    refine wp_aload_n (z := 0) (i := 0) (r := (some (X.2.2.2 50))) 0 (by decide +kernel) rfl rfl ?_
    refine wp_iload_n (z := 3) (i := 3) (x := x3) 3 (by decide +kernel) rfl rfl ?_
    refine wp_iconst (z := 5) (v := 5) (by decide +kernel) (by decide) ?_
    refine wp_iadd (by decide +kernel) ?_
    obtain ⟨o31, H⟩ := H
    refine wp_scrald (by decide +kernel) o31 ?_
    show wp X B10_law 870 [(0, .ref (X.2.2.2 50)), (1, .ref a1), (2, .ref a2), (3, .int x3)] [.int (scr X (x3 + 5)), .int (scr X (x3 + 4)), .int (scr X (x3 + 3)), .int (scr X (x3 + 2)), .int (scr X (x3 + 1)), .ref a2, .long r21] (G, I19, L20) k n _
    refine wp_if_eq (off := 7) (tgt := 877) (by decide +kernel) (by decide) (fun c22 => ?_) (fun c22 => ?_)
    · rw [if_pos c22] at H
      refine wp_iconst (z := 0) (v := 0) (by decide +kernel) (by decide) ?_
      refine wp_callV (idx := 77) (B2 := B9_arm) (As := [.int (scr X (x3 + 1)), .int (scr X (x3 + 2)), .int (scr X (x3 + 3)), .int (scr X (x3 + 4)), .int 0]) (a := a2) (st := [.long r21]) (by decide +kernel) m9_arm ml10_77 k9_arm e9_arm ck9 ok2.1 (⟨Nat.le_of_ble_eq_true rfl, Nat.le_of_ble_eq_true rfl⟩ : rOK B10_law B9_arm) rfl (Nat.le_of_ble_eq_true rfl) (Nat.le_of_ble_eq_true rfl) ⟨by show k + 0 ≤ room_1.cells; omega, by show n + 0 ≤ room_1.slots; omega⟩ rfl (wp_mono H (fun v9 M9 hq9 => ?_))
      clear H
      obtain ⟨r25, I23, L24, rfl, rfl, H⟩ := hq9
      show wp X B10_law 881 [(0, .ref (X.2.2.2 50)), (1, .ref a1), (2, .ref a2), (3, .int x3)] [.long r25, .long r21] (G, I23, L24) k n _
      refine wp_lcmp (by decide +kernel) ?_
      refine wp_if_eq (off := 957) (tgt := 1839) (by decide +kernel) (by decide) (fun c26 => ?_) (fun c26 => ?_)
      · rw [if_pos c26] at H
        refine wp_iinc (i := 3) (z := 6) (v := 6) (lv' := [(3, .int (x3 + 6)), (0, .ref (X.2.2.2 50)), (1, .ref a1), (2, .ref a2)]) 3 (by decide +kernel) rfl (by decide) (by decide) rfl ?_
        refine wp_goto (off := -1824) (tgt := 18) (by decide +kernel) (by decide) ?_
        exact wp_sub [1, 2, 3, 0] rfl H
      · rw [if_neg c26] at H
        refine wp_iconst (z := 0) (v := 0) (by decide +kernel) (by decide) ?_
        exact wp_zret (by decide +kernel) rfl (by decide) (by show k ≤ room_1.cells; omega) (by show n ≤ room_1.slots; omega) ⟨_, rfl, H⟩
    · rw [if_neg c22] at H
      refine wp_iconst (z := 1) (v := 1) (by decide +kernel) (by decide) ?_
      refine wp_goto (off := 4) (tgt := 878) (by decide +kernel) (by decide) ?_
      refine wp_callV (idx := 77) (B2 := B9_arm) (As := [.int (scr X (x3 + 1)), .int (scr X (x3 + 2)), .int (scr X (x3 + 3)), .int (scr X (x3 + 4)), .int 1]) (a := a2) (st := [.long r21]) (by decide +kernel) m9_arm ml10_77 k9_arm e9_arm ck9 ok2.1 (⟨Nat.le_of_ble_eq_true rfl, Nat.le_of_ble_eq_true rfl⟩ : rOK B10_law B9_arm) rfl (Nat.le_of_ble_eq_true rfl) (Nat.le_of_ble_eq_true rfl) ⟨by show k + 0 ≤ room_1.cells; omega, by show n + 0 ≤ room_1.slots; omega⟩ rfl (wp_mono H (fun v9 M9 hq9 => ?_))
      clear H
      obtain ⟨r29, I27, L28, rfl, rfl, H⟩ := hq9
      show wp X B10_law 881 [(0, .ref (X.2.2.2 50)), (1, .ref a1), (2, .ref a2), (3, .int x3)] [.long r29, .long r21] (G, I27, L28) k n _
      refine wp_lcmp (by decide +kernel) ?_
      refine wp_if_eq (off := 957) (tgt := 1839) (by decide +kernel) (by decide) (fun c30 => ?_) (fun c30 => ?_)
      · rw [if_pos c30] at H
        refine wp_iinc (i := 3) (z := 6) (v := 6) (lv' := [(3, .int (x3 + 6)), (0, .ref (X.2.2.2 50)), (1, .ref a1), (2, .ref a2)]) 3 (by decide +kernel) rfl (by decide) (by decide) rfl ?_
        refine wp_goto (off := -1824) (tgt := 18) (by decide +kernel) (by decide) ?_
        exact wp_sub [1, 2, 3, 0] rfl H
      · rw [if_neg c30] at H
        refine wp_iconst (z := 0) (v := 0) (by decide +kernel) (by decide) ?_
        exact wp_zret (by decide +kernel) rfl (by decide) (by show k ≤ room_1.cells; omega) (by show n ≤ room_1.slots; omega) ⟨_, rfl, H⟩
set_option maxRecDepth 20000 in
theorem b10_law_887 {X : XX} {G : GG} {I : Nat → Nat → Int32} {L : Nat → Nat → Int64} {k : Nat} {n : Nat} {a1 : Nat} {a2 : Nat} {x3 : Int32} {Q : Int32 → GG → (Nat → Nat → Int32) → (Nat → Nat → Int64) → Prop} (hk : k + 100 ≤ room_1.cells) (hn : n + 3000 ≤ room_1.slots) (ok1 : OK8 G a1) (ok2 : OK9 G a2) (H : vp_in (x3 + 1) (X.2.2.2 51) ∧ (wpI X B8_code 0 [(0, .ref a1), (1, .int (scr X (x3 + 1)))] [] G I L (fun r3 I1 L2 => vp_in (x3 + 1) (X.2.2.2 51) ∧ (wpI X B9_code 0 [(0, .ref a2), (1, .int (scr X (x3 + 1)))] [] G I1 L2 (fun r6 I4 L5 => if r3 = r6 then (wgI X B10_law 18 [(0, .ref (X.2.2.2 50)), (1, .ref a1), (2, .ref a2), (3, .int (x3 + 6))] [] G I4 L5 k n Q) else (Q 0 G I4 L5)))))) : wgI X B10_law 887 [(0, .ref (X.2.2.2 50)), (1, .ref a1), (2, .ref a2), (3, .int x3)] [] G I L k n Q := by
  refine wp_aload_n (z := 1) (i := 1) (r := (some a1)) 1 (by decide +kernel) rfl rfl ?_
  refine wp_aload_n (z := 0) (i := 0) (r := (some (X.2.2.2 50))) 0 (by decide +kernel) rfl rfl ?_
  refine wp_iload_n (z := 3) (i := 3) (x := x3) 3 (by decide +kernel) rfl rfl ?_
  refine wp_iconst (z := 1) (v := 1) (by decide +kernel) (by decide) ?_
  refine wp_iadd (by decide +kernel) ?_
  obtain ⟨o9, H⟩ := H
  refine wp_scrald (by decide +kernel) o9 ?_
  show wp X B10_law 893 [(0, .ref (X.2.2.2 50)), (1, .ref a1), (2, .ref a2), (3, .int x3)] [.int (scr X (x3 + 1)), .ref a1] (G, I, L) k n _
  refine wp_callV (idx := 78) (B2 := B8_code) (As := [.int (scr X (x3 + 1))]) (a := a1) (st := []) (by decide +kernel) m8_code ml10_78 k8_code e8_code ck8 ok1.1 (⟨Nat.le_of_ble_eq_true rfl, Nat.le_of_ble_eq_true rfl⟩ : rOK B10_law B8_code) rfl (Nat.le_of_ble_eq_true rfl) (Nat.le_of_ble_eq_true rfl) ⟨by show k + 0 ≤ room_1.cells; omega, by show n + 0 ≤ room_1.slots; omega⟩ rfl (wp_mono H (fun v9 M9 hq9 => ?_))
  clear H
  obtain ⟨r3, I1, L2, rfl, rfl, H⟩ := hq9
  show wp X B10_law 896 [(0, .ref (X.2.2.2 50)), (1, .ref a1), (2, .ref a2), (3, .int x3)] [.int r3] (G, I1, L2) k n _
  refine wp_aload_n (z := 2) (i := 2) (r := (some a2)) 2 (by decide +kernel) rfl rfl ?_
  refine wp_aload_n (z := 0) (i := 0) (r := (some (X.2.2.2 50))) 0 (by decide +kernel) rfl rfl ?_
  refine wp_iload_n (z := 3) (i := 3) (x := x3) 3 (by decide +kernel) rfl rfl ?_
  refine wp_iconst (z := 1) (v := 1) (by decide +kernel) (by decide) ?_
  refine wp_iadd (by decide +kernel) ?_
  obtain ⟨o8, H⟩ := H
  refine wp_scrald (by decide +kernel) o8 ?_
  show wp X B10_law 902 [(0, .ref (X.2.2.2 50)), (1, .ref a1), (2, .ref a2), (3, .int x3)] [.int (scr X (x3 + 1)), .ref a2, .int r3] (G, I1, L2) k n _
  refine wp_callV (idx := 81) (B2 := B9_code) (As := [.int (scr X (x3 + 1))]) (a := a2) (st := [.int r3]) (by decide +kernel) m9_code ml10_81 k9_code e9_code ck9 ok2.1 (⟨Nat.le_of_ble_eq_true rfl, Nat.le_of_ble_eq_true rfl⟩ : rOK B10_law B9_code) rfl (Nat.le_of_ble_eq_true rfl) (Nat.le_of_ble_eq_true rfl) ⟨by show k + 0 ≤ room_1.cells; omega, by show n + 0 ≤ room_1.slots; omega⟩ rfl (wp_mono H (fun v9 M9 hq9 => ?_))
  clear H
  obtain ⟨r6, I4, L5, rfl, rfl, H⟩ := hq9
  show wp X B10_law 905 [(0, .ref (X.2.2.2 50)), (1, .ref a1), (2, .ref a2), (3, .int x3)] [.int r6, .int r3] (G, I4, L5) k n _
  refine wp_icmp_eq (off := 934) (tgt := 1839) (by decide +kernel) (by decide) (fun c7 => ?_) (fun c7 => ?_)
  · rw [if_pos c7] at H
    refine wp_iinc (i := 3) (z := 6) (v := 6) (lv' := [(3, .int (x3 + 6)), (0, .ref (X.2.2.2 50)), (1, .ref a1), (2, .ref a2)]) 3 (by decide +kernel) rfl (by decide) (by decide) rfl ?_
    refine wp_goto (off := -1824) (tgt := 18) (by decide +kernel) (by decide) ?_
    exact wp_sub [1, 2, 3, 0] rfl H
  · rw [if_neg c7] at H
    refine wp_iconst (z := 0) (v := 0) (by decide +kernel) (by decide) ?_
    exact wp_zret (by decide +kernel) rfl (by decide) (by show k ≤ room_1.cells; omega) (by show n ≤ room_1.slots; omega) ⟨_, rfl, H⟩
set_option maxRecDepth 20000 in
theorem b10_law_910 {X : XX} {G : GG} {I : Nat → Nat → Int32} {L : Nat → Nat → Int64} {k : Nat} {n : Nat} {a1 : Nat} {a2 : Nat} {x3 : Int32} {Q : Int32 → GG → (Nat → Nat → Int32) → (Nat → Nat → Int64) → Prop} (hk : k + 100 ≤ room_1.cells) (hn : n + 3000 ≤ room_1.slots) (ok1 : OK8 G a1) (ok2 : OK9 G a2) (H : vp_in (x3 + 1) (X.2.2.2 51) ∧ (vp_in (x3 + 2) (X.2.2.2 51) ∧ (wpJ X B8_ways 0 [(0, .ref a1), (1, .int (scr X (x3 + 1))), (2, .int (scr X (x3 + 2)))] [] G I L (fun r3 I1 L2 => vp_in (x3 + 1) (X.2.2.2 51) ∧ (vp_in (x3 + 2) (X.2.2.2 51) ∧ (wpJ X B9_ways 0 [(0, .ref a2), (1, .int (scr X (x3 + 1))), (2, .int (scr X (x3 + 2)))] [] G I1 L2 (fun r6 I4 L5 => if (lg_cmp r3 r6) = (0 : Int32) then (wgI X B10_law 18 [(0, .ref (X.2.2.2 50)), (1, .ref a1), (2, .ref a2), (3, .int (x3 + 6))] [] G I4 L5 k n Q) else (Q 0 G I4 L5)))))))) : wgI X B10_law 910 [(0, .ref (X.2.2.2 50)), (1, .ref a1), (2, .ref a2), (3, .int x3)] [] G I L k n Q := by
  refine wp_aload_n (z := 1) (i := 1) (r := (some a1)) 1 (by decide +kernel) rfl rfl ?_
  refine wp_aload_n (z := 0) (i := 0) (r := (some (X.2.2.2 50))) 0 (by decide +kernel) rfl rfl ?_
  refine wp_iload_n (z := 3) (i := 3) (x := x3) 3 (by decide +kernel) rfl rfl ?_
  refine wp_iconst (z := 1) (v := 1) (by decide +kernel) (by decide) ?_
  refine wp_iadd (by decide +kernel) ?_
  obtain ⟨o11, H⟩ := H
  refine wp_scrald (by decide +kernel) o11 ?_
  show wp X B10_law 916 [(0, .ref (X.2.2.2 50)), (1, .ref a1), (2, .ref a2), (3, .int x3)] [.int (scr X (x3 + 1)), .ref a1] (G, I, L) k n _
  refine wp_aload_n (z := 0) (i := 0) (r := (some (X.2.2.2 50))) 0 (by decide +kernel) rfl rfl ?_
  refine wp_iload_n (z := 3) (i := 3) (x := x3) 3 (by decide +kernel) rfl rfl ?_
  refine wp_iconst (z := 2) (v := 2) (by decide +kernel) (by decide) ?_
  refine wp_iadd (by decide +kernel) ?_
  obtain ⟨o10, H⟩ := H
  refine wp_scrald (by decide +kernel) o10 ?_
  show wp X B10_law 921 [(0, .ref (X.2.2.2 50)), (1, .ref a1), (2, .ref a2), (3, .int x3)] [.int (scr X (x3 + 2)), .int (scr X (x3 + 1)), .ref a1] (G, I, L) k n _
  refine wp_callV (idx := 82) (B2 := B8_ways) (As := [.int (scr X (x3 + 1)), .int (scr X (x3 + 2))]) (a := a1) (st := []) (by decide +kernel) m8_ways ml10_82 k8_ways e8_ways ck8 ok1.1 (⟨Nat.le_of_ble_eq_true rfl, Nat.le_of_ble_eq_true rfl⟩ : rOK B10_law B8_ways) rfl (Nat.le_of_ble_eq_true rfl) (Nat.le_of_ble_eq_true rfl) ⟨by show k + 0 ≤ room_1.cells; omega, by show n + 0 ≤ room_1.slots; omega⟩ rfl (wp_mono H (fun v9 M9 hq9 => ?_))
  clear H
  obtain ⟨r3, I1, L2, rfl, rfl, H⟩ := hq9
  show wp X B10_law 924 [(0, .ref (X.2.2.2 50)), (1, .ref a1), (2, .ref a2), (3, .int x3)] [.long r3] (G, I1, L2) k n _
  refine wp_aload_n (z := 2) (i := 2) (r := (some a2)) 2 (by decide +kernel) rfl rfl ?_
  refine wp_aload_n (z := 0) (i := 0) (r := (some (X.2.2.2 50))) 0 (by decide +kernel) rfl rfl ?_
  refine wp_iload_n (z := 3) (i := 3) (x := x3) 3 (by decide +kernel) rfl rfl ?_
  refine wp_iconst (z := 1) (v := 1) (by decide +kernel) (by decide) ?_
  refine wp_iadd (by decide +kernel) ?_
  obtain ⟨o9, H⟩ := H
  refine wp_scrald (by decide +kernel) o9 ?_
  show wp X B10_law 930 [(0, .ref (X.2.2.2 50)), (1, .ref a1), (2, .ref a2), (3, .int x3)] [.int (scr X (x3 + 1)), .ref a2, .long r3] (G, I1, L2) k n _
  refine wp_aload_n (z := 0) (i := 0) (r := (some (X.2.2.2 50))) 0 (by decide +kernel) rfl rfl ?_
  refine wp_iload_n (z := 3) (i := 3) (x := x3) 3 (by decide +kernel) rfl rfl ?_
  refine wp_iconst (z := 2) (v := 2) (by decide +kernel) (by decide) ?_
  refine wp_iadd (by decide +kernel) ?_
  obtain ⟨o8, H⟩ := H
  refine wp_scrald (by decide +kernel) o8 ?_
  show wp X B10_law 935 [(0, .ref (X.2.2.2 50)), (1, .ref a1), (2, .ref a2), (3, .int x3)] [.int (scr X (x3 + 2)), .int (scr X (x3 + 1)), .ref a2, .long r3] (G, I1, L2) k n _
  refine wp_callV (idx := 86) (B2 := B9_ways) (As := [.int (scr X (x3 + 1)), .int (scr X (x3 + 2))]) (a := a2) (st := [.long r3]) (by decide +kernel) m9_ways ml10_86 k9_ways e9_ways ck9 ok2.1 (⟨Nat.le_of_ble_eq_true rfl, Nat.le_of_ble_eq_true rfl⟩ : rOK B10_law B9_ways) rfl (Nat.le_of_ble_eq_true rfl) (Nat.le_of_ble_eq_true rfl) ⟨by show k + 0 ≤ room_1.cells; omega, by show n + 0 ≤ room_1.slots; omega⟩ rfl (wp_mono H (fun v9 M9 hq9 => ?_))
  clear H
  obtain ⟨r6, I4, L5, rfl, rfl, H⟩ := hq9
  show wp X B10_law 938 [(0, .ref (X.2.2.2 50)), (1, .ref a1), (2, .ref a2), (3, .int x3)] [.long r6, .long r3] (G, I4, L5) k n _
  refine wp_lcmp (by decide +kernel) ?_
  refine wp_if_eq (off := 900) (tgt := 1839) (by decide +kernel) (by decide) (fun c7 => ?_) (fun c7 => ?_)
  · rw [if_pos c7] at H
    refine wp_iinc (i := 3) (z := 6) (v := 6) (lv' := [(3, .int (x3 + 6)), (0, .ref (X.2.2.2 50)), (1, .ref a1), (2, .ref a2)]) 3 (by decide +kernel) rfl (by decide) (by decide) rfl ?_
    refine wp_goto (off := -1824) (tgt := 18) (by decide +kernel) (by decide) ?_
    exact wp_sub [1, 2, 3, 0] rfl H
  · rw [if_neg c7] at H
    refine wp_iconst (z := 0) (v := 0) (by decide +kernel) (by decide) ?_
    exact wp_zret (by decide +kernel) rfl (by decide) (by show k ≤ room_1.cells; omega) (by show n ≤ room_1.slots; omega) ⟨_, rfl, H⟩
set_option maxRecDepth 20000 in
theorem b10_law_944 {X : XX} {G : GG} {I : Nat → Nat → Int32} {L : Nat → Nat → Int64} {k : Nat} {n : Nat} {a1 : Nat} {a2 : Nat} {x3 : Int32} {Q : Int32 → GG → (Nat → Nat → Int32) → (Nat → Nat → Int64) → Prop} (hk : k + 100 ≤ room_1.cells) (hn : n + 3000 ≤ room_1.slots) (ok1 : OK8 G a1) (ok2 : OK9 G a2) (H : vp_in (x3 + 1) (X.2.2.2 51) ∧ (vp_in (x3 + 2) (X.2.2.2 51) ∧ (vp_in (x3 + 3) (X.2.2.2 51) ∧ (wpI X B8_fact 0 [(0, .ref a1), (1, .int (scr X (x3 + 1))), (2, .int (scr X (x3 + 2))), (3, .int (scr X (x3 + 3)))] [] G I L (fun r3 I1 L2 => vp_in (x3 + 1) (X.2.2.2 51) ∧ (vp_in (x3 + 2) (X.2.2.2 51) ∧ (vp_in (x3 + 3) (X.2.2.2 51) ∧ (wpI X B9_fact 0 [(0, .ref a2), (1, .int (scr X (x3 + 1))), (2, .int (scr X (x3 + 2))), (3, .int (scr X (x3 + 3)))] [] G I1 L2 (fun r6 I4 L5 => if r3 = r6 then (wgI X B10_law 18 [(0, .ref (X.2.2.2 50)), (1, .ref a1), (2, .ref a2), (3, .int (x3 + 6))] [] G I4 L5 k n Q) else (Q 0 G I4 L5)))))))))) : wgI X B10_law 944 [(0, .ref (X.2.2.2 50)), (1, .ref a1), (2, .ref a2), (3, .int x3)] [] G I L k n Q := by
  refine wp_aload_n (z := 1) (i := 1) (r := (some a1)) 1 (by decide +kernel) rfl rfl ?_
  refine wp_aload_n (z := 0) (i := 0) (r := (some (X.2.2.2 50))) 0 (by decide +kernel) rfl rfl ?_
  refine wp_iload_n (z := 3) (i := 3) (x := x3) 3 (by decide +kernel) rfl rfl ?_
  refine wp_iconst (z := 1) (v := 1) (by decide +kernel) (by decide) ?_
  refine wp_iadd (by decide +kernel) ?_
  obtain ⟨o13, H⟩ := H
  refine wp_scrald (by decide +kernel) o13 ?_
  show wp X B10_law 950 [(0, .ref (X.2.2.2 50)), (1, .ref a1), (2, .ref a2), (3, .int x3)] [.int (scr X (x3 + 1)), .ref a1] (G, I, L) k n _
  refine wp_aload_n (z := 0) (i := 0) (r := (some (X.2.2.2 50))) 0 (by decide +kernel) rfl rfl ?_
  refine wp_iload_n (z := 3) (i := 3) (x := x3) 3 (by decide +kernel) rfl rfl ?_
  refine wp_iconst (z := 2) (v := 2) (by decide +kernel) (by decide) ?_
  refine wp_iadd (by decide +kernel) ?_
  obtain ⟨o12, H⟩ := H
  refine wp_scrald (by decide +kernel) o12 ?_
  show wp X B10_law 955 [(0, .ref (X.2.2.2 50)), (1, .ref a1), (2, .ref a2), (3, .int x3)] [.int (scr X (x3 + 2)), .int (scr X (x3 + 1)), .ref a1] (G, I, L) k n _
  refine wp_aload_n (z := 0) (i := 0) (r := (some (X.2.2.2 50))) 0 (by decide +kernel) rfl rfl ?_
  refine wp_iload_n (z := 3) (i := 3) (x := x3) 3 (by decide +kernel) rfl rfl ?_
  refine wp_iconst (z := 3) (v := 3) (by decide +kernel) (by decide) ?_
  refine wp_iadd (by decide +kernel) ?_
  obtain ⟨o11, H⟩ := H
  refine wp_scrald (by decide +kernel) o11 ?_
  show wp X B10_law 960 [(0, .ref (X.2.2.2 50)), (1, .ref a1), (2, .ref a2), (3, .int x3)] [.int (scr X (x3 + 3)), .int (scr X (x3 + 2)), .int (scr X (x3 + 1)), .ref a1] (G, I, L) k n _
  refine wp_callV (idx := 87) (B2 := B8_fact) (As := [.int (scr X (x3 + 1)), .int (scr X (x3 + 2)), .int (scr X (x3 + 3))]) (a := a1) (st := []) (by decide +kernel) m8_fact ml10_87 k8_fact e8_fact ck8 ok1.1 (⟨Nat.le_of_ble_eq_true rfl, Nat.le_of_ble_eq_true rfl⟩ : rOK B10_law B8_fact) rfl (Nat.le_of_ble_eq_true rfl) (Nat.le_of_ble_eq_true rfl) ⟨by show k + 0 ≤ room_1.cells; omega, by show n + 0 ≤ room_1.slots; omega⟩ rfl (wp_mono H (fun v9 M9 hq9 => ?_))
  clear H
  obtain ⟨r3, I1, L2, rfl, rfl, H⟩ := hq9
  show wp X B10_law 963 [(0, .ref (X.2.2.2 50)), (1, .ref a1), (2, .ref a2), (3, .int x3)] [.int r3] (G, I1, L2) k n _
  refine wp_aload_n (z := 2) (i := 2) (r := (some a2)) 2 (by decide +kernel) rfl rfl ?_
  refine wp_aload_n (z := 0) (i := 0) (r := (some (X.2.2.2 50))) 0 (by decide +kernel) rfl rfl ?_
  refine wp_iload_n (z := 3) (i := 3) (x := x3) 3 (by decide +kernel) rfl rfl ?_
  refine wp_iconst (z := 1) (v := 1) (by decide +kernel) (by decide) ?_
  refine wp_iadd (by decide +kernel) ?_
  obtain ⟨o10, H⟩ := H
  refine wp_scrald (by decide +kernel) o10 ?_
  show wp X B10_law 969 [(0, .ref (X.2.2.2 50)), (1, .ref a1), (2, .ref a2), (3, .int x3)] [.int (scr X (x3 + 1)), .ref a2, .int r3] (G, I1, L2) k n _
  refine wp_aload_n (z := 0) (i := 0) (r := (some (X.2.2.2 50))) 0 (by decide +kernel) rfl rfl ?_
  refine wp_iload_n (z := 3) (i := 3) (x := x3) 3 (by decide +kernel) rfl rfl ?_
  refine wp_iconst (z := 2) (v := 2) (by decide +kernel) (by decide) ?_
  refine wp_iadd (by decide +kernel) ?_
  obtain ⟨o9, H⟩ := H
  refine wp_scrald (by decide +kernel) o9 ?_
  show wp X B10_law 974 [(0, .ref (X.2.2.2 50)), (1, .ref a1), (2, .ref a2), (3, .int x3)] [.int (scr X (x3 + 2)), .int (scr X (x3 + 1)), .ref a2, .int r3] (G, I1, L2) k n _
  refine wp_aload_n (z := 0) (i := 0) (r := (some (X.2.2.2 50))) 0 (by decide +kernel) rfl rfl ?_
  refine wp_iload_n (z := 3) (i := 3) (x := x3) 3 (by decide +kernel) rfl rfl ?_
  refine wp_iconst (z := 3) (v := 3) (by decide +kernel) (by decide) ?_
  refine wp_iadd (by decide +kernel) ?_
  obtain ⟨o8, H⟩ := H
  refine wp_scrald (by decide +kernel) o8 ?_
  show wp X B10_law 979 [(0, .ref (X.2.2.2 50)), (1, .ref a1), (2, .ref a2), (3, .int x3)] [.int (scr X (x3 + 3)), .int (scr X (x3 + 2)), .int (scr X (x3 + 1)), .ref a2, .int r3] (G, I1, L2) k n _
  refine wp_callV (idx := 90) (B2 := B9_fact) (As := [.int (scr X (x3 + 1)), .int (scr X (x3 + 2)), .int (scr X (x3 + 3))]) (a := a2) (st := [.int r3]) (by decide +kernel) m9_fact ml10_90 k9_fact e9_fact ck9 ok2.1 (⟨Nat.le_of_ble_eq_true rfl, Nat.le_of_ble_eq_true rfl⟩ : rOK B10_law B9_fact) rfl (Nat.le_of_ble_eq_true rfl) (Nat.le_of_ble_eq_true rfl) ⟨by show k + 0 ≤ room_1.cells; omega, by show n + 0 ≤ room_1.slots; omega⟩ rfl (wp_mono H (fun v9 M9 hq9 => ?_))
  clear H
  obtain ⟨r6, I4, L5, rfl, rfl, H⟩ := hq9
  show wp X B10_law 982 [(0, .ref (X.2.2.2 50)), (1, .ref a1), (2, .ref a2), (3, .int x3)] [.int r6, .int r3] (G, I4, L5) k n _
  refine wp_icmp_eq (off := 857) (tgt := 1839) (by decide +kernel) (by decide) (fun c7 => ?_) (fun c7 => ?_)
  · rw [if_pos c7] at H
    refine wp_iinc (i := 3) (z := 6) (v := 6) (lv' := [(3, .int (x3 + 6)), (0, .ref (X.2.2.2 50)), (1, .ref a1), (2, .ref a2)]) 3 (by decide +kernel) rfl (by decide) (by decide) rfl ?_
    refine wp_goto (off := -1824) (tgt := 18) (by decide +kernel) (by decide) ?_
    exact wp_sub [1, 2, 3, 0] rfl H
  · rw [if_neg c7] at H
    refine wp_iconst (z := 0) (v := 0) (by decide +kernel) (by decide) ?_
    exact wp_zret (by decide +kernel) rfl (by decide) (by show k ≤ room_1.cells; omega) (by show n ≤ room_1.slots; omega) ⟨_, rfl, H⟩
set_option maxRecDepth 20000 in
theorem b10_law_987 {X : XX} {G : GG} {I : Nat → Nat → Int32} {L : Nat → Nat → Int64} {k : Nat} {n : Nat} {a1 : Nat} {a2 : Nat} {x3 : Int32} {Q : Int32 → GG → (Nat → Nat → Int32) → (Nat → Nat → Int64) → Prop} (hk : k + 100 ≤ room_1.cells) (hn : n + 3000 ≤ room_1.slots) (ok1 : OK8 G a1) (ok2 : OK9 G a2) (H : vp_in (x3 + 1) (X.2.2.2 51) ∧ (vp_in (x3 + 2) (X.2.2.2 51) ∧ (vp_in (x3 + 3) (X.2.2.2 51) ∧ (vp_in (x3 + 4) (X.2.2.2 51) ∧ (wpI X B8_fits 0 [(0, .ref a1), (1, .int (scr X (x3 + 1))), (2, .int (scr X (x3 + 2))), (3, .int (scr X (x3 + 3))), (4, .int (scr X (x3 + 4)))] [] G I L (fun r3 I1 L2 => vp_in (x3 + 1) (X.2.2.2 51) ∧ (vp_in (x3 + 2) (X.2.2.2 51) ∧ (vp_in (x3 + 3) (X.2.2.2 51) ∧ (vp_in (x3 + 4) (X.2.2.2 51) ∧ (wpI X B9_fits 0 [(0, .ref a2), (1, .int (scr X (x3 + 1))), (2, .int (scr X (x3 + 2))), (3, .int (scr X (x3 + 3))), (4, .int (scr X (x3 + 4)))] [] G I1 L2 (fun r6 I4 L5 => if r3 = r6 then (wgI X B10_law 18 [(0, .ref (X.2.2.2 50)), (1, .ref a1), (2, .ref a2), (3, .int (x3 + 6))] [] G I4 L5 k n Q) else (Q 0 G I4 L5)))))))))))) : wgI X B10_law 987 [(0, .ref (X.2.2.2 50)), (1, .ref a1), (2, .ref a2), (3, .int x3)] [] G I L k n Q := by
  refine wp_aload_n (z := 1) (i := 1) (r := (some a1)) 1 (by decide +kernel) rfl rfl ?_
  refine wp_aload_n (z := 0) (i := 0) (r := (some (X.2.2.2 50))) 0 (by decide +kernel) rfl rfl ?_
  refine wp_iload_n (z := 3) (i := 3) (x := x3) 3 (by decide +kernel) rfl rfl ?_
  refine wp_iconst (z := 1) (v := 1) (by decide +kernel) (by decide) ?_
  refine wp_iadd (by decide +kernel) ?_
  obtain ⟨o15, H⟩ := H
  refine wp_scrald (by decide +kernel) o15 ?_
  show wp X B10_law 993 [(0, .ref (X.2.2.2 50)), (1, .ref a1), (2, .ref a2), (3, .int x3)] [.int (scr X (x3 + 1)), .ref a1] (G, I, L) k n _
  refine wp_aload_n (z := 0) (i := 0) (r := (some (X.2.2.2 50))) 0 (by decide +kernel) rfl rfl ?_
  refine wp_iload_n (z := 3) (i := 3) (x := x3) 3 (by decide +kernel) rfl rfl ?_
  refine wp_iconst (z := 2) (v := 2) (by decide +kernel) (by decide) ?_
  refine wp_iadd (by decide +kernel) ?_
  obtain ⟨o14, H⟩ := H
  refine wp_scrald (by decide +kernel) o14 ?_
  show wp X B10_law 998 [(0, .ref (X.2.2.2 50)), (1, .ref a1), (2, .ref a2), (3, .int x3)] [.int (scr X (x3 + 2)), .int (scr X (x3 + 1)), .ref a1] (G, I, L) k n _
  refine wp_aload_n (z := 0) (i := 0) (r := (some (X.2.2.2 50))) 0 (by decide +kernel) rfl rfl ?_
  refine wp_iload_n (z := 3) (i := 3) (x := x3) 3 (by decide +kernel) rfl rfl ?_
  refine wp_iconst (z := 3) (v := 3) (by decide +kernel) (by decide) ?_
  refine wp_iadd (by decide +kernel) ?_
  obtain ⟨o13, H⟩ := H
  refine wp_scrald (by decide +kernel) o13 ?_
  show wp X B10_law 1003 [(0, .ref (X.2.2.2 50)), (1, .ref a1), (2, .ref a2), (3, .int x3)] [.int (scr X (x3 + 3)), .int (scr X (x3 + 2)), .int (scr X (x3 + 1)), .ref a1] (G, I, L) k n _
  refine wp_aload_n (z := 0) (i := 0) (r := (some (X.2.2.2 50))) 0 (by decide +kernel) rfl rfl ?_
  refine wp_iload_n (z := 3) (i := 3) (x := x3) 3 (by decide +kernel) rfl rfl ?_
  refine wp_iconst (z := 4) (v := 4) (by decide +kernel) (by decide) ?_
  refine wp_iadd (by decide +kernel) ?_
  obtain ⟨o12, H⟩ := H
  refine wp_scrald (by decide +kernel) o12 ?_
  show wp X B10_law 1008 [(0, .ref (X.2.2.2 50)), (1, .ref a1), (2, .ref a2), (3, .int x3)] [.int (scr X (x3 + 4)), .int (scr X (x3 + 3)), .int (scr X (x3 + 2)), .int (scr X (x3 + 1)), .ref a1] (G, I, L) k n _
  refine wp_callV (idx := 91) (B2 := B8_fits) (As := [.int (scr X (x3 + 1)), .int (scr X (x3 + 2)), .int (scr X (x3 + 3)), .int (scr X (x3 + 4))]) (a := a1) (st := []) (by decide +kernel) m8_fits ml10_91 k8_fits e8_fits ck8 ok1.1 (⟨Nat.le_of_ble_eq_true rfl, Nat.le_of_ble_eq_true rfl⟩ : rOK B10_law B8_fits) rfl (Nat.le_of_ble_eq_true rfl) (Nat.le_of_ble_eq_true rfl) ⟨by show k + 0 ≤ room_1.cells; omega, by show n + 0 ≤ room_1.slots; omega⟩ rfl (wp_mono H (fun v9 M9 hq9 => ?_))
  clear H
  obtain ⟨r3, I1, L2, rfl, rfl, H⟩ := hq9
  show wp X B10_law 1011 [(0, .ref (X.2.2.2 50)), (1, .ref a1), (2, .ref a2), (3, .int x3)] [.int r3] (G, I1, L2) k n _
  refine wp_aload_n (z := 2) (i := 2) (r := (some a2)) 2 (by decide +kernel) rfl rfl ?_
  refine wp_aload_n (z := 0) (i := 0) (r := (some (X.2.2.2 50))) 0 (by decide +kernel) rfl rfl ?_
  refine wp_iload_n (z := 3) (i := 3) (x := x3) 3 (by decide +kernel) rfl rfl ?_
  refine wp_iconst (z := 1) (v := 1) (by decide +kernel) (by decide) ?_
  refine wp_iadd (by decide +kernel) ?_
  obtain ⟨o11, H⟩ := H
  refine wp_scrald (by decide +kernel) o11 ?_
  show wp X B10_law 1017 [(0, .ref (X.2.2.2 50)), (1, .ref a1), (2, .ref a2), (3, .int x3)] [.int (scr X (x3 + 1)), .ref a2, .int r3] (G, I1, L2) k n _
  refine wp_aload_n (z := 0) (i := 0) (r := (some (X.2.2.2 50))) 0 (by decide +kernel) rfl rfl ?_
  refine wp_iload_n (z := 3) (i := 3) (x := x3) 3 (by decide +kernel) rfl rfl ?_
  refine wp_iconst (z := 2) (v := 2) (by decide +kernel) (by decide) ?_
  refine wp_iadd (by decide +kernel) ?_
  obtain ⟨o10, H⟩ := H
  refine wp_scrald (by decide +kernel) o10 ?_
  show wp X B10_law 1022 [(0, .ref (X.2.2.2 50)), (1, .ref a1), (2, .ref a2), (3, .int x3)] [.int (scr X (x3 + 2)), .int (scr X (x3 + 1)), .ref a2, .int r3] (G, I1, L2) k n _
  refine wp_aload_n (z := 0) (i := 0) (r := (some (X.2.2.2 50))) 0 (by decide +kernel) rfl rfl ?_
  refine wp_iload_n (z := 3) (i := 3) (x := x3) 3 (by decide +kernel) rfl rfl ?_
  refine wp_iconst (z := 3) (v := 3) (by decide +kernel) (by decide) ?_
  refine wp_iadd (by decide +kernel) ?_
  obtain ⟨o9, H⟩ := H
  refine wp_scrald (by decide +kernel) o9 ?_
  show wp X B10_law 1027 [(0, .ref (X.2.2.2 50)), (1, .ref a1), (2, .ref a2), (3, .int x3)] [.int (scr X (x3 + 3)), .int (scr X (x3 + 2)), .int (scr X (x3 + 1)), .ref a2, .int r3] (G, I1, L2) k n _
  refine wp_aload_n (z := 0) (i := 0) (r := (some (X.2.2.2 50))) 0 (by decide +kernel) rfl rfl ?_
  refine wp_iload_n (z := 3) (i := 3) (x := x3) 3 (by decide +kernel) rfl rfl ?_
  refine wp_iconst (z := 4) (v := 4) (by decide +kernel) (by decide) ?_
  refine wp_iadd (by decide +kernel) ?_
  obtain ⟨o8, H⟩ := H
  refine wp_scrald (by decide +kernel) o8 ?_
  show wp X B10_law 1032 [(0, .ref (X.2.2.2 50)), (1, .ref a1), (2, .ref a2), (3, .int x3)] [.int (scr X (x3 + 4)), .int (scr X (x3 + 3)), .int (scr X (x3 + 2)), .int (scr X (x3 + 1)), .ref a2, .int r3] (G, I1, L2) k n _
  refine wp_callV (idx := 94) (B2 := B9_fits) (As := [.int (scr X (x3 + 1)), .int (scr X (x3 + 2)), .int (scr X (x3 + 3)), .int (scr X (x3 + 4))]) (a := a2) (st := [.int r3]) (by decide +kernel) m9_fits ml10_94 k9_fits e9_fits ck9 ok2.1 (⟨Nat.le_of_ble_eq_true rfl, Nat.le_of_ble_eq_true rfl⟩ : rOK B10_law B9_fits) rfl (Nat.le_of_ble_eq_true rfl) (Nat.le_of_ble_eq_true rfl) ⟨by show k + 0 ≤ room_1.cells; omega, by show n + 0 ≤ room_1.slots; omega⟩ rfl (wp_mono H (fun v9 M9 hq9 => ?_))
  clear H
  obtain ⟨r6, I4, L5, rfl, rfl, H⟩ := hq9
  show wp X B10_law 1035 [(0, .ref (X.2.2.2 50)), (1, .ref a1), (2, .ref a2), (3, .int x3)] [.int r6, .int r3] (G, I4, L5) k n _
  refine wp_icmp_eq (off := 804) (tgt := 1839) (by decide +kernel) (by decide) (fun c7 => ?_) (fun c7 => ?_)
  · rw [if_pos c7] at H
    refine wp_iinc (i := 3) (z := 6) (v := 6) (lv' := [(3, .int (x3 + 6)), (0, .ref (X.2.2.2 50)), (1, .ref a1), (2, .ref a2)]) 3 (by decide +kernel) rfl (by decide) (by decide) rfl ?_
    refine wp_goto (off := -1824) (tgt := 18) (by decide +kernel) (by decide) ?_
    exact wp_sub [1, 2, 3, 0] rfl H
  · rw [if_neg c7] at H
    refine wp_iconst (z := 0) (v := 0) (by decide +kernel) (by decide) ?_
    exact wp_zret (by decide +kernel) rfl (by decide) (by show k ≤ room_1.cells; omega) (by show n ≤ room_1.slots; omega) ⟨_, rfl, H⟩
set_option maxRecDepth 20000 in
theorem b10_law_1040 {X : XX} {G : GG} {I : Nat → Nat → Int32} {L : Nat → Nat → Int64} {k : Nat} {n : Nat} {a1 : Nat} {a2 : Nat} {x3 : Int32} {Q : Int32 → GG → (Nat → Nat → Int32) → (Nat → Nat → Int64) → Prop} (hk : k + 100 ≤ room_1.cells) (hn : n + 3000 ≤ room_1.slots) (ok1 : OK8 G a1) (ok2 : OK9 G a2) (H : vp_in (x3 + 1) (X.2.2.2 51) ∧ (vp_in (x3 + 2) (X.2.2.2 51) ∧ (vp_in (x3 + 3) (X.2.2.2 51) ∧ (vp_in (x3 + 4) (X.2.2.2 51) ∧ (vp_in (x3 + 5) (X.2.2.2 51) ∧ (wpI X B8_brick 0 [(0, .ref a1), (1, .int (scr X (x3 + 1))), (2, .int (scr X (x3 + 2))), (3, .int (scr X (x3 + 3))), (4, .int (scr X (x3 + 4))), (5, .int (scr X (x3 + 5)))] [] G I L (fun r3 I1 L2 => vp_in (x3 + 1) (X.2.2.2 51) ∧ (vp_in (x3 + 2) (X.2.2.2 51) ∧ (vp_in (x3 + 3) (X.2.2.2 51) ∧ (vp_in (x3 + 4) (X.2.2.2 51) ∧ (vp_in (x3 + 5) (X.2.2.2 51) ∧ (wpI X B9_brick 0 [(0, .ref a2), (1, .int (scr X (x3 + 1))), (2, .int (scr X (x3 + 2))), (3, .int (scr X (x3 + 3))), (4, .int (scr X (x3 + 4))), (5, .int (scr X (x3 + 5)))] [] G I1 L2 (fun r6 I4 L5 => if r3 = r6 then (wgI X B10_law 18 [(0, .ref (X.2.2.2 50)), (1, .ref a1), (2, .ref a2), (3, .int (x3 + 6))] [] G I4 L5 k n Q) else (Q 0 G I4 L5)))))))))))))) : wgI X B10_law 1040 [(0, .ref (X.2.2.2 50)), (1, .ref a1), (2, .ref a2), (3, .int x3)] [] G I L k n Q := by
  refine wp_aload_n (z := 1) (i := 1) (r := (some a1)) 1 (by decide +kernel) rfl rfl ?_
  refine wp_aload_n (z := 0) (i := 0) (r := (some (X.2.2.2 50))) 0 (by decide +kernel) rfl rfl ?_
  refine wp_iload_n (z := 3) (i := 3) (x := x3) 3 (by decide +kernel) rfl rfl ?_
  refine wp_iconst (z := 1) (v := 1) (by decide +kernel) (by decide) ?_
  refine wp_iadd (by decide +kernel) ?_
  obtain ⟨o17, H⟩ := H
  refine wp_scrald (by decide +kernel) o17 ?_
  show wp X B10_law 1046 [(0, .ref (X.2.2.2 50)), (1, .ref a1), (2, .ref a2), (3, .int x3)] [.int (scr X (x3 + 1)), .ref a1] (G, I, L) k n _
  refine wp_aload_n (z := 0) (i := 0) (r := (some (X.2.2.2 50))) 0 (by decide +kernel) rfl rfl ?_
  refine wp_iload_n (z := 3) (i := 3) (x := x3) 3 (by decide +kernel) rfl rfl ?_
  refine wp_iconst (z := 2) (v := 2) (by decide +kernel) (by decide) ?_
  refine wp_iadd (by decide +kernel) ?_
  obtain ⟨o16, H⟩ := H
  refine wp_scrald (by decide +kernel) o16 ?_
  show wp X B10_law 1051 [(0, .ref (X.2.2.2 50)), (1, .ref a1), (2, .ref a2), (3, .int x3)] [.int (scr X (x3 + 2)), .int (scr X (x3 + 1)), .ref a1] (G, I, L) k n _
  refine wp_aload_n (z := 0) (i := 0) (r := (some (X.2.2.2 50))) 0 (by decide +kernel) rfl rfl ?_
  refine wp_iload_n (z := 3) (i := 3) (x := x3) 3 (by decide +kernel) rfl rfl ?_
  refine wp_iconst (z := 3) (v := 3) (by decide +kernel) (by decide) ?_
  refine wp_iadd (by decide +kernel) ?_
  obtain ⟨o15, H⟩ := H
  refine wp_scrald (by decide +kernel) o15 ?_
  show wp X B10_law 1056 [(0, .ref (X.2.2.2 50)), (1, .ref a1), (2, .ref a2), (3, .int x3)] [.int (scr X (x3 + 3)), .int (scr X (x3 + 2)), .int (scr X (x3 + 1)), .ref a1] (G, I, L) k n _
  refine wp_aload_n (z := 0) (i := 0) (r := (some (X.2.2.2 50))) 0 (by decide +kernel) rfl rfl ?_
  refine wp_iload_n (z := 3) (i := 3) (x := x3) 3 (by decide +kernel) rfl rfl ?_
  refine wp_iconst (z := 4) (v := 4) (by decide +kernel) (by decide) ?_
  refine wp_iadd (by decide +kernel) ?_
  obtain ⟨o14, H⟩ := H
  refine wp_scrald (by decide +kernel) o14 ?_
  show wp X B10_law 1061 [(0, .ref (X.2.2.2 50)), (1, .ref a1), (2, .ref a2), (3, .int x3)] [.int (scr X (x3 + 4)), .int (scr X (x3 + 3)), .int (scr X (x3 + 2)), .int (scr X (x3 + 1)), .ref a1] (G, I, L) k n _
  refine wp_aload_n (z := 0) (i := 0) (r := (some (X.2.2.2 50))) 0 (by decide +kernel) rfl rfl ?_
  refine wp_iload_n (z := 3) (i := 3) (x := x3) 3 (by decide +kernel) rfl rfl ?_
  refine wp_iconst (z := 5) (v := 5) (by decide +kernel) (by decide) ?_
  refine wp_iadd (by decide +kernel) ?_
  obtain ⟨o13, H⟩ := H
  refine wp_scrald (by decide +kernel) o13 ?_
  show wp X B10_law 1066 [(0, .ref (X.2.2.2 50)), (1, .ref a1), (2, .ref a2), (3, .int x3)] [.int (scr X (x3 + 5)), .int (scr X (x3 + 4)), .int (scr X (x3 + 3)), .int (scr X (x3 + 2)), .int (scr X (x3 + 1)), .ref a1] (G, I, L) k n _
  refine wp_callV (idx := 95) (B2 := B8_brick) (As := [.int (scr X (x3 + 1)), .int (scr X (x3 + 2)), .int (scr X (x3 + 3)), .int (scr X (x3 + 4)), .int (scr X (x3 + 5))]) (a := a1) (st := []) (by decide +kernel) m8_brick ml10_95 k8_brick e8_brick ck8 ok1.1 (⟨Nat.le_of_ble_eq_true rfl, Nat.le_of_ble_eq_true rfl⟩ : rOK B10_law B8_brick) rfl (Nat.le_of_ble_eq_true rfl) (Nat.le_of_ble_eq_true rfl) ⟨by show k + 0 ≤ room_1.cells; omega, by show n + 0 ≤ room_1.slots; omega⟩ rfl (wp_mono H (fun v9 M9 hq9 => ?_))
  clear H
  obtain ⟨r3, I1, L2, rfl, rfl, H⟩ := hq9
  show wp X B10_law 1069 [(0, .ref (X.2.2.2 50)), (1, .ref a1), (2, .ref a2), (3, .int x3)] [.int r3] (G, I1, L2) k n _
  refine wp_aload_n (z := 2) (i := 2) (r := (some a2)) 2 (by decide +kernel) rfl rfl ?_
  refine wp_aload_n (z := 0) (i := 0) (r := (some (X.2.2.2 50))) 0 (by decide +kernel) rfl rfl ?_
  refine wp_iload_n (z := 3) (i := 3) (x := x3) 3 (by decide +kernel) rfl rfl ?_
  refine wp_iconst (z := 1) (v := 1) (by decide +kernel) (by decide) ?_
  refine wp_iadd (by decide +kernel) ?_
  obtain ⟨o12, H⟩ := H
  refine wp_scrald (by decide +kernel) o12 ?_
  show wp X B10_law 1075 [(0, .ref (X.2.2.2 50)), (1, .ref a1), (2, .ref a2), (3, .int x3)] [.int (scr X (x3 + 1)), .ref a2, .int r3] (G, I1, L2) k n _
  refine wp_aload_n (z := 0) (i := 0) (r := (some (X.2.2.2 50))) 0 (by decide +kernel) rfl rfl ?_
  refine wp_iload_n (z := 3) (i := 3) (x := x3) 3 (by decide +kernel) rfl rfl ?_
  refine wp_iconst (z := 2) (v := 2) (by decide +kernel) (by decide) ?_
  refine wp_iadd (by decide +kernel) ?_
  obtain ⟨o11, H⟩ := H
  refine wp_scrald (by decide +kernel) o11 ?_
  show wp X B10_law 1080 [(0, .ref (X.2.2.2 50)), (1, .ref a1), (2, .ref a2), (3, .int x3)] [.int (scr X (x3 + 2)), .int (scr X (x3 + 1)), .ref a2, .int r3] (G, I1, L2) k n _
  refine wp_aload_n (z := 0) (i := 0) (r := (some (X.2.2.2 50))) 0 (by decide +kernel) rfl rfl ?_
  refine wp_iload_n (z := 3) (i := 3) (x := x3) 3 (by decide +kernel) rfl rfl ?_
  refine wp_iconst (z := 3) (v := 3) (by decide +kernel) (by decide) ?_
  refine wp_iadd (by decide +kernel) ?_
  obtain ⟨o10, H⟩ := H
  refine wp_scrald (by decide +kernel) o10 ?_
  show wp X B10_law 1085 [(0, .ref (X.2.2.2 50)), (1, .ref a1), (2, .ref a2), (3, .int x3)] [.int (scr X (x3 + 3)), .int (scr X (x3 + 2)), .int (scr X (x3 + 1)), .ref a2, .int r3] (G, I1, L2) k n _
  refine wp_aload_n (z := 0) (i := 0) (r := (some (X.2.2.2 50))) 0 (by decide +kernel) rfl rfl ?_
  refine wp_iload_n (z := 3) (i := 3) (x := x3) 3 (by decide +kernel) rfl rfl ?_
  refine wp_iconst (z := 4) (v := 4) (by decide +kernel) (by decide) ?_
  refine wp_iadd (by decide +kernel) ?_
  obtain ⟨o9, H⟩ := H
  refine wp_scrald (by decide +kernel) o9 ?_
  show wp X B10_law 1090 [(0, .ref (X.2.2.2 50)), (1, .ref a1), (2, .ref a2), (3, .int x3)] [.int (scr X (x3 + 4)), .int (scr X (x3 + 3)), .int (scr X (x3 + 2)), .int (scr X (x3 + 1)), .ref a2, .int r3] (G, I1, L2) k n _
  refine wp_aload_n (z := 0) (i := 0) (r := (some (X.2.2.2 50))) 0 (by decide +kernel) rfl rfl ?_
  refine wp_iload_n (z := 3) (i := 3) (x := x3) 3 (by decide +kernel) rfl rfl ?_
  refine wp_iconst (z := 5) (v := 5) (by decide +kernel) (by decide) ?_
  refine wp_iadd (by decide +kernel) ?_
  obtain ⟨o8, H⟩ := H
  refine wp_scrald (by decide +kernel) o8 ?_
  show wp X B10_law 1095 [(0, .ref (X.2.2.2 50)), (1, .ref a1), (2, .ref a2), (3, .int x3)] [.int (scr X (x3 + 5)), .int (scr X (x3 + 4)), .int (scr X (x3 + 3)), .int (scr X (x3 + 2)), .int (scr X (x3 + 1)), .ref a2, .int r3] (G, I1, L2) k n _
  refine wp_callV (idx := 98) (B2 := B9_brick) (As := [.int (scr X (x3 + 1)), .int (scr X (x3 + 2)), .int (scr X (x3 + 3)), .int (scr X (x3 + 4)), .int (scr X (x3 + 5))]) (a := a2) (st := [.int r3]) (by decide +kernel) m9_brick ml10_98 k9_brick e9_brick ck9 ok2.1 (⟨Nat.le_of_ble_eq_true rfl, Nat.le_of_ble_eq_true rfl⟩ : rOK B10_law B9_brick) rfl (Nat.le_of_ble_eq_true rfl) (Nat.le_of_ble_eq_true rfl) ⟨by show k + 0 ≤ room_1.cells; omega, by show n + 0 ≤ room_1.slots; omega⟩ rfl (wp_mono H (fun v9 M9 hq9 => ?_))
  clear H
  obtain ⟨r6, I4, L5, rfl, rfl, H⟩ := hq9
  show wp X B10_law 1098 [(0, .ref (X.2.2.2 50)), (1, .ref a1), (2, .ref a2), (3, .int x3)] [.int r6, .int r3] (G, I4, L5) k n _
  refine wp_icmp_eq (off := 741) (tgt := 1839) (by decide +kernel) (by decide) (fun c7 => ?_) (fun c7 => ?_)
  · rw [if_pos c7] at H
    refine wp_iinc (i := 3) (z := 6) (v := 6) (lv' := [(3, .int (x3 + 6)), (0, .ref (X.2.2.2 50)), (1, .ref a1), (2, .ref a2)]) 3 (by decide +kernel) rfl (by decide) (by decide) rfl ?_
    refine wp_goto (off := -1824) (tgt := 18) (by decide +kernel) (by decide) ?_
    exact wp_sub [1, 2, 3, 0] rfl H
  · rw [if_neg c7] at H
    refine wp_iconst (z := 0) (v := 0) (by decide +kernel) (by decide) ?_
    exact wp_zret (by decide +kernel) rfl (by decide) (by show k ≤ room_1.cells; omega) (by show n ≤ room_1.slots; omega) ⟨_, rfl, H⟩
set_option maxRecDepth 20000 in
theorem b10_law_1103 {X : XX} {G : GG} {I : Nat → Nat → Int32} {L : Nat → Nat → Int64} {k : Nat} {n : Nat} {a1 : Nat} {a2 : Nat} {x3 : Int32} {Q : Int32 → GG → (Nat → Nat → Int32) → (Nat → Nat → Int64) → Prop} (hk : k + 100 ≤ room_1.cells) (hn : n + 3000 ≤ room_1.slots) (ok1 : OK8 G a1) (ok2 : OK9 G a2) (H : vp_in (x3 + 1) (X.2.2.2 51) ∧ (vp_in (x3 + 2) (X.2.2.2 51) ∧ (vp_in (x3 + 3) (X.2.2.2 51) ∧ (vp_in (x3 + 4) (X.2.2.2 51) ∧ (wgI X B8_drawn 0 [(0, .ref a1), (1, .int (scr X (x3 + 1))), (2, .int (scr X (x3 + 2))), (3, .int (scr X (x3 + 3))), (4, .int (scr X (x3 + 4)))] [] G I L 0 0 (fun r3 G4 I1 L2 => vp_in (x3 + 1) (X.2.2.2 51) ∧ (vp_in (x3 + 2) (X.2.2.2 51) ∧ (vp_in (x3 + 3) (X.2.2.2 51) ∧ (vp_in (x3 + 4) (X.2.2.2 51) ∧ (OK9 G4 a2 ∧ (wpI X B9_drawn 0 [(0, .ref a2), (1, .int (scr X (x3 + 1))), (2, .int (scr X (x3 + 2))), (3, .int (scr X (x3 + 3))), (4, .int (scr X (x3 + 4)))] [] G4 I1 L2 (fun r8 I6 L7 => if r3 = r8 then (wgI X B10_law 18 [(0, .ref (X.2.2.2 50)), (1, .ref a1), (2, .ref a2), (3, .int (x3 + 6))] [] G4 I6 L7 (k + 1) (n + 1) Q) else (Q 0 G4 I6 L7))))))))))))) : wgI X B10_law 1103 [(0, .ref (X.2.2.2 50)), (1, .ref a1), (2, .ref a2), (3, .int x3)] [] G I L k n Q := by
  refine wp_aload_n (z := 1) (i := 1) (r := (some a1)) 1 (by decide +kernel) rfl rfl ?_
  refine wp_aload_n (z := 0) (i := 0) (r := (some (X.2.2.2 50))) 0 (by decide +kernel) rfl rfl ?_
  refine wp_iload_n (z := 3) (i := 3) (x := x3) 3 (by decide +kernel) rfl rfl ?_
  refine wp_iconst (z := 1) (v := 1) (by decide +kernel) (by decide) ?_
  refine wp_iadd (by decide +kernel) ?_
  obtain ⟨o17, H⟩ := H
  refine wp_scrald (by decide +kernel) o17 ?_
  show wp X B10_law 1109 [(0, .ref (X.2.2.2 50)), (1, .ref a1), (2, .ref a2), (3, .int x3)] [.int (scr X (x3 + 1)), .ref a1] (G, I, L) k n _
  refine wp_aload_n (z := 0) (i := 0) (r := (some (X.2.2.2 50))) 0 (by decide +kernel) rfl rfl ?_
  refine wp_iload_n (z := 3) (i := 3) (x := x3) 3 (by decide +kernel) rfl rfl ?_
  refine wp_iconst (z := 2) (v := 2) (by decide +kernel) (by decide) ?_
  refine wp_iadd (by decide +kernel) ?_
  obtain ⟨o16, H⟩ := H
  refine wp_scrald (by decide +kernel) o16 ?_
  show wp X B10_law 1114 [(0, .ref (X.2.2.2 50)), (1, .ref a1), (2, .ref a2), (3, .int x3)] [.int (scr X (x3 + 2)), .int (scr X (x3 + 1)), .ref a1] (G, I, L) k n _
  refine wp_aload_n (z := 0) (i := 0) (r := (some (X.2.2.2 50))) 0 (by decide +kernel) rfl rfl ?_
  refine wp_iload_n (z := 3) (i := 3) (x := x3) 3 (by decide +kernel) rfl rfl ?_
  refine wp_iconst (z := 3) (v := 3) (by decide +kernel) (by decide) ?_
  refine wp_iadd (by decide +kernel) ?_
  obtain ⟨o15, H⟩ := H
  refine wp_scrald (by decide +kernel) o15 ?_
  show wp X B10_law 1119 [(0, .ref (X.2.2.2 50)), (1, .ref a1), (2, .ref a2), (3, .int x3)] [.int (scr X (x3 + 3)), .int (scr X (x3 + 2)), .int (scr X (x3 + 1)), .ref a1] (G, I, L) k n _
  refine wp_aload_n (z := 0) (i := 0) (r := (some (X.2.2.2 50))) 0 (by decide +kernel) rfl rfl ?_
  refine wp_iload_n (z := 3) (i := 3) (x := x3) 3 (by decide +kernel) rfl rfl ?_
  refine wp_iconst (z := 4) (v := 4) (by decide +kernel) (by decide) ?_
  refine wp_iadd (by decide +kernel) ?_
  obtain ⟨o14, H⟩ := H
  refine wp_scrald (by decide +kernel) o14 ?_
  show wp X B10_law 1124 [(0, .ref (X.2.2.2 50)), (1, .ref a1), (2, .ref a2), (3, .int x3)] [.int (scr X (x3 + 4)), .int (scr X (x3 + 3)), .int (scr X (x3 + 2)), .int (scr X (x3 + 1)), .ref a1] (G, I, L) k n _
  refine wp_callV (idx := 99) (B2 := B8_drawn) (As := [.int (scr X (x3 + 1)), .int (scr X (x3 + 2)), .int (scr X (x3 + 3)), .int (scr X (x3 + 4))]) (a := a1) (st := []) (by decide +kernel) m8_drawn ml10_99 k8_drawn e8_drawn ck8 ok1.1 (⟨Nat.le_of_ble_eq_true rfl, Nat.le_of_ble_eq_true rfl⟩ : rOK B10_law B8_drawn) rfl (Nat.le_of_ble_eq_true rfl) (Nat.le_of_ble_eq_true rfl) ⟨by show k + 1 ≤ room_1.cells; omega, by show n + 1 ≤ room_1.slots; omega⟩ rfl (wp_mono H (fun v9 M9 hq9 => ?_))
  clear H
  obtain ⟨G4, I1, L2⟩ := M9
  obtain ⟨r3, rfl, H⟩ := hq9
  try dsimp only at H
  show wp X B10_law 1127 [(0, .ref (X.2.2.2 50)), (1, .ref a1), (2, .ref a2), (3, .int x3)] [.int r3] (G4, I1, L2) (k + 1) (n + 1) _
  refine wp_aload_n (z := 2) (i := 2) (r := (some a2)) 2 (by decide +kernel) rfl rfl ?_
  refine wp_aload_n (z := 0) (i := 0) (r := (some (X.2.2.2 50))) 0 (by decide +kernel) rfl rfl ?_
  refine wp_iload_n (z := 3) (i := 3) (x := x3) 3 (by decide +kernel) rfl rfl ?_
  refine wp_iconst (z := 1) (v := 1) (by decide +kernel) (by decide) ?_
  refine wp_iadd (by decide +kernel) ?_
  obtain ⟨o13, H⟩ := H
  refine wp_scrald (by decide +kernel) o13 ?_
  show wp X B10_law 1133 [(0, .ref (X.2.2.2 50)), (1, .ref a1), (2, .ref a2), (3, .int x3)] [.int (scr X (x3 + 1)), .ref a2, .int r3] (G4, I1, L2) (k + 1) (n + 1) _
  refine wp_aload_n (z := 0) (i := 0) (r := (some (X.2.2.2 50))) 0 (by decide +kernel) rfl rfl ?_
  refine wp_iload_n (z := 3) (i := 3) (x := x3) 3 (by decide +kernel) rfl rfl ?_
  refine wp_iconst (z := 2) (v := 2) (by decide +kernel) (by decide) ?_
  refine wp_iadd (by decide +kernel) ?_
  obtain ⟨o12, H⟩ := H
  refine wp_scrald (by decide +kernel) o12 ?_
  show wp X B10_law 1138 [(0, .ref (X.2.2.2 50)), (1, .ref a1), (2, .ref a2), (3, .int x3)] [.int (scr X (x3 + 2)), .int (scr X (x3 + 1)), .ref a2, .int r3] (G4, I1, L2) (k + 1) (n + 1) _
  refine wp_aload_n (z := 0) (i := 0) (r := (some (X.2.2.2 50))) 0 (by decide +kernel) rfl rfl ?_
  refine wp_iload_n (z := 3) (i := 3) (x := x3) 3 (by decide +kernel) rfl rfl ?_
  refine wp_iconst (z := 3) (v := 3) (by decide +kernel) (by decide) ?_
  refine wp_iadd (by decide +kernel) ?_
  obtain ⟨o11, H⟩ := H
  refine wp_scrald (by decide +kernel) o11 ?_
  show wp X B10_law 1143 [(0, .ref (X.2.2.2 50)), (1, .ref a1), (2, .ref a2), (3, .int x3)] [.int (scr X (x3 + 3)), .int (scr X (x3 + 2)), .int (scr X (x3 + 1)), .ref a2, .int r3] (G4, I1, L2) (k + 1) (n + 1) _
  refine wp_aload_n (z := 0) (i := 0) (r := (some (X.2.2.2 50))) 0 (by decide +kernel) rfl rfl ?_
  refine wp_iload_n (z := 3) (i := 3) (x := x3) 3 (by decide +kernel) rfl rfl ?_
  refine wp_iconst (z := 4) (v := 4) (by decide +kernel) (by decide) ?_
  refine wp_iadd (by decide +kernel) ?_
  obtain ⟨o10, H⟩ := H
  refine wp_scrald (by decide +kernel) o10 ?_
  show wp X B10_law 1148 [(0, .ref (X.2.2.2 50)), (1, .ref a1), (2, .ref a2), (3, .int x3)] [.int (scr X (x3 + 4)), .int (scr X (x3 + 3)), .int (scr X (x3 + 2)), .int (scr X (x3 + 1)), .ref a2, .int r3] (G4, I1, L2) (k + 1) (n + 1) _
  obtain ⟨f5, H⟩ := H
  refine wp_callV (idx := 102) (B2 := B9_drawn) (As := [.int (scr X (x3 + 1)), .int (scr X (x3 + 2)), .int (scr X (x3 + 3)), .int (scr X (x3 + 4))]) (a := a2) (st := [.int r3]) (by decide +kernel) m9_drawn ml10_102 k9_drawn e9_drawn ck9 f5.1 (⟨Nat.le_of_ble_eq_true rfl, Nat.le_of_ble_eq_true rfl⟩ : rOK B10_law B9_drawn) rfl (Nat.le_of_ble_eq_true rfl) (Nat.le_of_ble_eq_true rfl) ⟨by show k + 1 + 0 ≤ room_1.cells; omega, by show n + 1 + 0 ≤ room_1.slots; omega⟩ rfl (wp_mono H (fun v9 M9 hq9 => ?_))
  clear H
  obtain ⟨r8, I6, L7, rfl, rfl, H⟩ := hq9
  show wp X B10_law 1151 [(0, .ref (X.2.2.2 50)), (1, .ref a1), (2, .ref a2), (3, .int x3)] [.int r8, .int r3] (G4, I6, L7) (k + 1) (n + 1) _
  refine wp_icmp_eq (off := 688) (tgt := 1839) (by decide +kernel) (by decide) (fun c9 => ?_) (fun c9 => ?_)
  · rw [if_pos c9] at H
    refine wp_iinc (i := 3) (z := 6) (v := 6) (lv' := [(3, .int (x3 + 6)), (0, .ref (X.2.2.2 50)), (1, .ref a1), (2, .ref a2)]) 3 (by decide +kernel) rfl (by decide) (by decide) rfl ?_
    refine wp_goto (off := -1824) (tgt := 18) (by decide +kernel) (by decide) ?_
    exact wp_sub [1, 2, 3, 0] rfl H
  · rw [if_neg c9] at H
    refine wp_iconst (z := 0) (v := 0) (by decide +kernel) (by decide) ?_
    exact wp_zret (by decide +kernel) rfl (by decide) (by show k + 1 ≤ room_1.cells; omega) (by show n + 1 ≤ room_1.slots; omega) ⟨_, rfl, H⟩
set_option maxRecDepth 20000 in
theorem b10_law_1156 {X : XX} {G : GG} {I : Nat → Nat → Int32} {L : Nat → Nat → Int64} {k : Nat} {n : Nat} {a1 : Nat} {a2 : Nat} {x3 : Int32} {Q : Int32 → GG → (Nat → Nat → Int32) → (Nat → Nat → Int64) → Prop} (hk : k + 100 ≤ room_1.cells) (hn : n + 3000 ≤ room_1.slots) (ok1 : OK8 G a1) (ok2 : OK9 G a2) (H : vp_in (x3 + 1) (X.2.2.2 51) ∧ (vp_in (x3 + 2) (X.2.2.2 51) ∧ (vp_in (x3 + 3) (X.2.2.2 51) ∧ (vp_in (x3 + 4) (X.2.2.2 51) ∧ (if (scr X (x3 + 4)) = (0 : Int32) then (wpI X B8_loss 0 [(0, .ref a1), (1, .int (scr X (x3 + 1))), (2, .int (scr X (x3 + 2))), (3, .int (scr X (x3 + 3))), (4, .int 0)] [] G I L (fun r4 I2 L3 => vp_in (x3 + 1) (X.2.2.2 51) ∧ (vp_in (x3 + 2) (X.2.2.2 51) ∧ (vp_in (x3 + 3) (X.2.2.2 51) ∧ (vp_in (x3 + 4) (X.2.2.2 51) ∧ (if (scr X (x3 + 4)) = (0 : Int32) then (wpI X B9_loss 0 [(0, .ref a2), (1, .int (scr X (x3 + 1))), (2, .int (scr X (x3 + 2))), (3, .int (scr X (x3 + 3))), (4, .int 0)] [] G I2 L3 (fun r8 I6 L7 => if r4 = r8 then (wgI X B10_law 18 [(0, .ref (X.2.2.2 50)), (1, .ref a1), (2, .ref a2), (3, .int (x3 + 6))] [] G I6 L7 k n Q) else (Q 0 G I6 L7))) else (wpI X B9_loss 0 [(0, .ref a2), (1, .int (scr X (x3 + 1))), (2, .int (scr X (x3 + 2))), (3, .int (scr X (x3 + 3))), (4, .int 1)] [] G I2 L3 (fun r12 I10 L11 => if r4 = r12 then (wgI X B10_law 18 [(0, .ref (X.2.2.2 50)), (1, .ref a1), (2, .ref a2), (3, .int (x3 + 6))] [] G I10 L11 k n Q) else (Q 0 G I10 L11))))))))) else (wpI X B8_loss 0 [(0, .ref a1), (1, .int (scr X (x3 + 1))), (2, .int (scr X (x3 + 2))), (3, .int (scr X (x3 + 3))), (4, .int 1)] [] G I L (fun r20 I18 L19 => vp_in (x3 + 1) (X.2.2.2 51) ∧ (vp_in (x3 + 2) (X.2.2.2 51) ∧ (vp_in (x3 + 3) (X.2.2.2 51) ∧ (vp_in (x3 + 4) (X.2.2.2 51) ∧ (if (scr X (x3 + 4)) = (0 : Int32) then (wpI X B9_loss 0 [(0, .ref a2), (1, .int (scr X (x3 + 1))), (2, .int (scr X (x3 + 2))), (3, .int (scr X (x3 + 3))), (4, .int 0)] [] G I18 L19 (fun r24 I22 L23 => if r20 = r24 then (wgI X B10_law 18 [(0, .ref (X.2.2.2 50)), (1, .ref a1), (2, .ref a2), (3, .int (x3 + 6))] [] G I22 L23 k n Q) else (Q 0 G I22 L23))) else (wpI X B9_loss 0 [(0, .ref a2), (1, .int (scr X (x3 + 1))), (2, .int (scr X (x3 + 2))), (3, .int (scr X (x3 + 3))), (4, .int 1)] [] G I18 L19 (fun r28 I26 L27 => if r20 = r28 then (wgI X B10_law 18 [(0, .ref (X.2.2.2 50)), (1, .ref a1), (2, .ref a2), (3, .int (x3 + 6))] [] G I26 L27 k n Q) else (Q 0 G I26 L27)))))))))))))) : wgI X B10_law 1156 [(0, .ref (X.2.2.2 50)), (1, .ref a1), (2, .ref a2), (3, .int x3)] [] G I L k n Q := by
  refine wp_aload_n (z := 1) (i := 1) (r := (some a1)) 1 (by decide +kernel) rfl rfl ?_
  refine wp_aload_n (z := 0) (i := 0) (r := (some (X.2.2.2 50))) 0 (by decide +kernel) rfl rfl ?_
  refine wp_iload_n (z := 3) (i := 3) (x := x3) 3 (by decide +kernel) rfl rfl ?_
  refine wp_iconst (z := 1) (v := 1) (by decide +kernel) (by decide) ?_
  refine wp_iadd (by decide +kernel) ?_
  obtain ⟨o37, H⟩ := H
  refine wp_scrald (by decide +kernel) o37 ?_
  show wp X B10_law 1162 [(0, .ref (X.2.2.2 50)), (1, .ref a1), (2, .ref a2), (3, .int x3)] [.int (scr X (x3 + 1)), .ref a1] (G, I, L) k n _
  refine wp_aload_n (z := 0) (i := 0) (r := (some (X.2.2.2 50))) 0 (by decide +kernel) rfl rfl ?_
  refine wp_iload_n (z := 3) (i := 3) (x := x3) 3 (by decide +kernel) rfl rfl ?_
  refine wp_iconst (z := 2) (v := 2) (by decide +kernel) (by decide) ?_
  refine wp_iadd (by decide +kernel) ?_
  obtain ⟨o36, H⟩ := H
  refine wp_scrald (by decide +kernel) o36 ?_
  show wp X B10_law 1167 [(0, .ref (X.2.2.2 50)), (1, .ref a1), (2, .ref a2), (3, .int x3)] [.int (scr X (x3 + 2)), .int (scr X (x3 + 1)), .ref a1] (G, I, L) k n _
  refine wp_aload_n (z := 0) (i := 0) (r := (some (X.2.2.2 50))) 0 (by decide +kernel) rfl rfl ?_
  refine wp_iload_n (z := 3) (i := 3) (x := x3) 3 (by decide +kernel) rfl rfl ?_
  refine wp_iconst (z := 3) (v := 3) (by decide +kernel) (by decide) ?_
  refine wp_iadd (by decide +kernel) ?_
  obtain ⟨o35, H⟩ := H
  refine wp_scrald (by decide +kernel) o35 ?_
  show wp X B10_law 1172 [(0, .ref (X.2.2.2 50)), (1, .ref a1), (2, .ref a2), (3, .int x3)] [.int (scr X (x3 + 3)), .int (scr X (x3 + 2)), .int (scr X (x3 + 1)), .ref a1] (G, I, L) k n _
  refine wp_aload_n (z := 0) (i := 0) (r := (some (X.2.2.2 50))) 0 (by decide +kernel) rfl rfl ?_
  refine wp_iload_n (z := 3) (i := 3) (x := x3) 3 (by decide +kernel) rfl rfl ?_
  refine wp_iconst (z := 4) (v := 4) (by decide +kernel) (by decide) ?_
  refine wp_iadd (by decide +kernel) ?_
  obtain ⟨o34, H⟩ := H
  refine wp_scrald (by decide +kernel) o34 ?_
  show wp X B10_law 1177 [(0, .ref (X.2.2.2 50)), (1, .ref a1), (2, .ref a2), (3, .int x3)] [.int (scr X (x3 + 4)), .int (scr X (x3 + 3)), .int (scr X (x3 + 2)), .int (scr X (x3 + 1)), .ref a1] (G, I, L) k n _
  refine wp_if_eq (off := 7) (tgt := 1184) (by decide +kernel) (by decide) (fun c1 => ?_) (fun c1 => ?_)
  · rw [if_pos c1] at H
    refine wp_iconst (z := 0) (v := 0) (by decide +kernel) (by decide) ?_
    refine wp_callV (idx := 103) (B2 := B8_loss) (As := [.int (scr X (x3 + 1)), .int (scr X (x3 + 2)), .int (scr X (x3 + 3)), .int 0]) (a := a1) (st := []) (by decide +kernel) m8_loss ml10_103 k8_loss e8_loss ck8 ok1.1 (⟨Nat.le_of_ble_eq_true rfl, Nat.le_of_ble_eq_true rfl⟩ : rOK B10_law B8_loss) rfl (Nat.le_of_ble_eq_true rfl) (Nat.le_of_ble_eq_true rfl) ⟨by show k + 0 ≤ room_1.cells; omega, by show n + 0 ≤ room_1.slots; omega⟩ rfl (wp_mono H (fun v9 M9 hq9 => ?_))
    clear H
    obtain ⟨r4, I2, L3, rfl, rfl, H⟩ := hq9
    show wp X B10_law 1188 [(0, .ref (X.2.2.2 50)), (1, .ref a1), (2, .ref a2), (3, .int x3)] [.int r4] (G, I2, L3) k n _
    refine wp_aload_n (z := 2) (i := 2) (r := (some a2)) 2 (by decide +kernel) rfl rfl ?_
    refine wp_aload_n (z := 0) (i := 0) (r := (some (X.2.2.2 50))) 0 (by decide +kernel) rfl rfl ?_
    refine wp_iload_n (z := 3) (i := 3) (x := x3) 3 (by decide +kernel) rfl rfl ?_
    refine wp_iconst (z := 1) (v := 1) (by decide +kernel) (by decide) ?_
    refine wp_iadd (by decide +kernel) ?_
    obtain ⟨o17, H⟩ := H
    refine wp_scrald (by decide +kernel) o17 ?_
    show wp X B10_law 1194 [(0, .ref (X.2.2.2 50)), (1, .ref a1), (2, .ref a2), (3, .int x3)] [.int (scr X (x3 + 1)), .ref a2, .int r4] (G, I2, L3) k n _
    refine wp_aload_n (z := 0) (i := 0) (r := (some (X.2.2.2 50))) 0 (by decide +kernel) rfl rfl ?_
    refine wp_iload_n (z := 3) (i := 3) (x := x3) 3 (by decide +kernel) rfl rfl ?_
    refine wp_iconst (z := 2) (v := 2) (by decide +kernel) (by decide) ?_
    refine wp_iadd (by decide +kernel) ?_
    obtain ⟨o16, H⟩ := H
    refine wp_scrald (by decide +kernel) o16 ?_
    show wp X B10_law 1199 [(0, .ref (X.2.2.2 50)), (1, .ref a1), (2, .ref a2), (3, .int x3)] [.int (scr X (x3 + 2)), .int (scr X (x3 + 1)), .ref a2, .int r4] (G, I2, L3) k n _
    refine wp_aload_n (z := 0) (i := 0) (r := (some (X.2.2.2 50))) 0 (by decide +kernel) rfl rfl ?_
    refine wp_iload_n (z := 3) (i := 3) (x := x3) 3 (by decide +kernel) rfl rfl ?_
    refine wp_iconst (z := 3) (v := 3) (by decide +kernel) (by decide) ?_
    refine wp_iadd (by decide +kernel) ?_
    obtain ⟨o15, H⟩ := H
    refine wp_scrald (by decide +kernel) o15 ?_
    show wp X B10_law 1204 [(0, .ref (X.2.2.2 50)), (1, .ref a1), (2, .ref a2), (3, .int x3)] [.int (scr X (x3 + 3)), .int (scr X (x3 + 2)), .int (scr X (x3 + 1)), .ref a2, .int r4] (G, I2, L3) k n _
    refine wp_aload_n (z := 0) (i := 0) (r := (some (X.2.2.2 50))) 0 (by decide +kernel) rfl rfl ?_
    refine wp_iload_n (z := 3) (i := 3) (x := x3) 3 (by decide +kernel) rfl rfl ?_
    refine wp_iconst (z := 4) (v := 4) (by decide +kernel) (by decide) ?_
    refine wp_iadd (by decide +kernel) ?_
    obtain ⟨o14, H⟩ := H
    refine wp_scrald (by decide +kernel) o14 ?_
    show wp X B10_law 1209 [(0, .ref (X.2.2.2 50)), (1, .ref a1), (2, .ref a2), (3, .int x3)] [.int (scr X (x3 + 4)), .int (scr X (x3 + 3)), .int (scr X (x3 + 2)), .int (scr X (x3 + 1)), .ref a2, .int r4] (G, I2, L3) k n _
    refine wp_if_eq (off := 7) (tgt := 1216) (by decide +kernel) (by decide) (fun c5 => ?_) (fun c5 => ?_)
    · rw [if_pos c5] at H
      refine wp_iconst (z := 0) (v := 0) (by decide +kernel) (by decide) ?_
      refine wp_callV (idx := 106) (B2 := B9_loss) (As := [.int (scr X (x3 + 1)), .int (scr X (x3 + 2)), .int (scr X (x3 + 3)), .int 0]) (a := a2) (st := [.int r4]) (by decide +kernel) m9_loss ml10_106 k9_loss e9_loss ck9 ok2.1 (⟨Nat.le_of_ble_eq_true rfl, Nat.le_of_ble_eq_true rfl⟩ : rOK B10_law B9_loss) rfl (Nat.le_of_ble_eq_true rfl) (Nat.le_of_ble_eq_true rfl) ⟨by show k + 0 ≤ room_1.cells; omega, by show n + 0 ≤ room_1.slots; omega⟩ rfl (wp_mono H (fun v9 M9 hq9 => ?_))
      clear H
      obtain ⟨r8, I6, L7, rfl, rfl, H⟩ := hq9
      show wp X B10_law 1220 [(0, .ref (X.2.2.2 50)), (1, .ref a1), (2, .ref a2), (3, .int x3)] [.int r8, .int r4] (G, I6, L7) k n _
      refine wp_icmp_eq (off := 619) (tgt := 1839) (by decide +kernel) (by decide) (fun c9 => ?_) (fun c9 => ?_)
      · rw [if_pos c9] at H
        refine wp_iinc (i := 3) (z := 6) (v := 6) (lv' := [(3, .int (x3 + 6)), (0, .ref (X.2.2.2 50)), (1, .ref a1), (2, .ref a2)]) 3 (by decide +kernel) rfl (by decide) (by decide) rfl ?_
        refine wp_goto (off := -1824) (tgt := 18) (by decide +kernel) (by decide) ?_
        exact wp_sub [1, 2, 3, 0] rfl H
      · rw [if_neg c9] at H
        refine wp_iconst (z := 0) (v := 0) (by decide +kernel) (by decide) ?_
        exact wp_zret (by decide +kernel) rfl (by decide) (by show k ≤ room_1.cells; omega) (by show n ≤ room_1.slots; omega) ⟨_, rfl, H⟩
    · rw [if_neg c5] at H
      refine wp_iconst (z := 1) (v := 1) (by decide +kernel) (by decide) ?_
      refine wp_goto (off := 4) (tgt := 1217) (by decide +kernel) (by decide) ?_
      refine wp_callV (idx := 106) (B2 := B9_loss) (As := [.int (scr X (x3 + 1)), .int (scr X (x3 + 2)), .int (scr X (x3 + 3)), .int 1]) (a := a2) (st := [.int r4]) (by decide +kernel) m9_loss ml10_106 k9_loss e9_loss ck9 ok2.1 (⟨Nat.le_of_ble_eq_true rfl, Nat.le_of_ble_eq_true rfl⟩ : rOK B10_law B9_loss) rfl (Nat.le_of_ble_eq_true rfl) (Nat.le_of_ble_eq_true rfl) ⟨by show k + 0 ≤ room_1.cells; omega, by show n + 0 ≤ room_1.slots; omega⟩ rfl (wp_mono H (fun v9 M9 hq9 => ?_))
      clear H
      obtain ⟨r12, I10, L11, rfl, rfl, H⟩ := hq9
      show wp X B10_law 1220 [(0, .ref (X.2.2.2 50)), (1, .ref a1), (2, .ref a2), (3, .int x3)] [.int r12, .int r4] (G, I10, L11) k n _
      refine wp_icmp_eq (off := 619) (tgt := 1839) (by decide +kernel) (by decide) (fun c13 => ?_) (fun c13 => ?_)
      · rw [if_pos c13] at H
        refine wp_iinc (i := 3) (z := 6) (v := 6) (lv' := [(3, .int (x3 + 6)), (0, .ref (X.2.2.2 50)), (1, .ref a1), (2, .ref a2)]) 3 (by decide +kernel) rfl (by decide) (by decide) rfl ?_
        refine wp_goto (off := -1824) (tgt := 18) (by decide +kernel) (by decide) ?_
        exact wp_sub [1, 2, 3, 0] rfl H
      · rw [if_neg c13] at H
        refine wp_iconst (z := 0) (v := 0) (by decide +kernel) (by decide) ?_
        exact wp_zret (by decide +kernel) rfl (by decide) (by show k ≤ room_1.cells; omega) (by show n ≤ room_1.slots; omega) ⟨_, rfl, H⟩
  · rw [if_neg c1] at H
    refine wp_iconst (z := 1) (v := 1) (by decide +kernel) (by decide) ?_
    refine wp_goto (off := 4) (tgt := 1185) (by decide +kernel) (by decide) ?_
    refine wp_callV (idx := 103) (B2 := B8_loss) (As := [.int (scr X (x3 + 1)), .int (scr X (x3 + 2)), .int (scr X (x3 + 3)), .int 1]) (a := a1) (st := []) (by decide +kernel) m8_loss ml10_103 k8_loss e8_loss ck8 ok1.1 (⟨Nat.le_of_ble_eq_true rfl, Nat.le_of_ble_eq_true rfl⟩ : rOK B10_law B8_loss) rfl (Nat.le_of_ble_eq_true rfl) (Nat.le_of_ble_eq_true rfl) ⟨by show k + 0 ≤ room_1.cells; omega, by show n + 0 ≤ room_1.slots; omega⟩ rfl (wp_mono H (fun v9 M9 hq9 => ?_))
    clear H
    obtain ⟨r20, I18, L19, rfl, rfl, H⟩ := hq9
    show wp X B10_law 1188 [(0, .ref (X.2.2.2 50)), (1, .ref a1), (2, .ref a2), (3, .int x3)] [.int r20] (G, I18, L19) k n _
    refine wp_aload_n (z := 2) (i := 2) (r := (some a2)) 2 (by decide +kernel) rfl rfl ?_
    refine wp_aload_n (z := 0) (i := 0) (r := (some (X.2.2.2 50))) 0 (by decide +kernel) rfl rfl ?_
    refine wp_iload_n (z := 3) (i := 3) (x := x3) 3 (by decide +kernel) rfl rfl ?_
    refine wp_iconst (z := 1) (v := 1) (by decide +kernel) (by decide) ?_
    refine wp_iadd (by decide +kernel) ?_
    obtain ⟨o33, H⟩ := H
    refine wp_scrald (by decide +kernel) o33 ?_
    show wp X B10_law 1194 [(0, .ref (X.2.2.2 50)), (1, .ref a1), (2, .ref a2), (3, .int x3)] [.int (scr X (x3 + 1)), .ref a2, .int r20] (G, I18, L19) k n _
    refine wp_aload_n (z := 0) (i := 0) (r := (some (X.2.2.2 50))) 0 (by decide +kernel) rfl rfl ?_
    refine wp_iload_n (z := 3) (i := 3) (x := x3) 3 (by decide +kernel) rfl rfl ?_
    refine wp_iconst (z := 2) (v := 2) (by decide +kernel) (by decide) ?_
    refine wp_iadd (by decide +kernel) ?_
    obtain ⟨o32, H⟩ := H
    refine wp_scrald (by decide +kernel) o32 ?_
    show wp X B10_law 1199 [(0, .ref (X.2.2.2 50)), (1, .ref a1), (2, .ref a2), (3, .int x3)] [.int (scr X (x3 + 2)), .int (scr X (x3 + 1)), .ref a2, .int r20] (G, I18, L19) k n _
    refine wp_aload_n (z := 0) (i := 0) (r := (some (X.2.2.2 50))) 0 (by decide +kernel) rfl rfl ?_
    refine wp_iload_n (z := 3) (i := 3) (x := x3) 3 (by decide +kernel) rfl rfl ?_
    refine wp_iconst (z := 3) (v := 3) (by decide +kernel) (by decide) ?_
    refine wp_iadd (by decide +kernel) ?_
    obtain ⟨o31, H⟩ := H
    refine wp_scrald (by decide +kernel) o31 ?_
    show wp X B10_law 1204 [(0, .ref (X.2.2.2 50)), (1, .ref a1), (2, .ref a2), (3, .int x3)] [.int (scr X (x3 + 3)), .int (scr X (x3 + 2)), .int (scr X (x3 + 1)), .ref a2, .int r20] (G, I18, L19) k n _
    refine wp_aload_n (z := 0) (i := 0) (r := (some (X.2.2.2 50))) 0 (by decide +kernel) rfl rfl ?_
    refine wp_iload_n (z := 3) (i := 3) (x := x3) 3 (by decide +kernel) rfl rfl ?_
    refine wp_iconst (z := 4) (v := 4) (by decide +kernel) (by decide) ?_
    refine wp_iadd (by decide +kernel) ?_
    obtain ⟨o30, H⟩ := H
    refine wp_scrald (by decide +kernel) o30 ?_
    show wp X B10_law 1209 [(0, .ref (X.2.2.2 50)), (1, .ref a1), (2, .ref a2), (3, .int x3)] [.int (scr X (x3 + 4)), .int (scr X (x3 + 3)), .int (scr X (x3 + 2)), .int (scr X (x3 + 1)), .ref a2, .int r20] (G, I18, L19) k n _
    refine wp_if_eq (off := 7) (tgt := 1216) (by decide +kernel) (by decide) (fun c21 => ?_) (fun c21 => ?_)
    · rw [if_pos c21] at H
      refine wp_iconst (z := 0) (v := 0) (by decide +kernel) (by decide) ?_
      refine wp_callV (idx := 106) (B2 := B9_loss) (As := [.int (scr X (x3 + 1)), .int (scr X (x3 + 2)), .int (scr X (x3 + 3)), .int 0]) (a := a2) (st := [.int r20]) (by decide +kernel) m9_loss ml10_106 k9_loss e9_loss ck9 ok2.1 (⟨Nat.le_of_ble_eq_true rfl, Nat.le_of_ble_eq_true rfl⟩ : rOK B10_law B9_loss) rfl (Nat.le_of_ble_eq_true rfl) (Nat.le_of_ble_eq_true rfl) ⟨by show k + 0 ≤ room_1.cells; omega, by show n + 0 ≤ room_1.slots; omega⟩ rfl (wp_mono H (fun v9 M9 hq9 => ?_))
      clear H
      obtain ⟨r24, I22, L23, rfl, rfl, H⟩ := hq9
      show wp X B10_law 1220 [(0, .ref (X.2.2.2 50)), (1, .ref a1), (2, .ref a2), (3, .int x3)] [.int r24, .int r20] (G, I22, L23) k n _
      refine wp_icmp_eq (off := 619) (tgt := 1839) (by decide +kernel) (by decide) (fun c25 => ?_) (fun c25 => ?_)
      · rw [if_pos c25] at H
        refine wp_iinc (i := 3) (z := 6) (v := 6) (lv' := [(3, .int (x3 + 6)), (0, .ref (X.2.2.2 50)), (1, .ref a1), (2, .ref a2)]) 3 (by decide +kernel) rfl (by decide) (by decide) rfl ?_
        refine wp_goto (off := -1824) (tgt := 18) (by decide +kernel) (by decide) ?_
        exact wp_sub [1, 2, 3, 0] rfl H
      · rw [if_neg c25] at H
        refine wp_iconst (z := 0) (v := 0) (by decide +kernel) (by decide) ?_
        exact wp_zret (by decide +kernel) rfl (by decide) (by show k ≤ room_1.cells; omega) (by show n ≤ room_1.slots; omega) ⟨_, rfl, H⟩
    · rw [if_neg c21] at H
      refine wp_iconst (z := 1) (v := 1) (by decide +kernel) (by decide) ?_
      refine wp_goto (off := 4) (tgt := 1217) (by decide +kernel) (by decide) ?_
      refine wp_callV (idx := 106) (B2 := B9_loss) (As := [.int (scr X (x3 + 1)), .int (scr X (x3 + 2)), .int (scr X (x3 + 3)), .int 1]) (a := a2) (st := [.int r20]) (by decide +kernel) m9_loss ml10_106 k9_loss e9_loss ck9 ok2.1 (⟨Nat.le_of_ble_eq_true rfl, Nat.le_of_ble_eq_true rfl⟩ : rOK B10_law B9_loss) rfl (Nat.le_of_ble_eq_true rfl) (Nat.le_of_ble_eq_true rfl) ⟨by show k + 0 ≤ room_1.cells; omega, by show n + 0 ≤ room_1.slots; omega⟩ rfl (wp_mono H (fun v9 M9 hq9 => ?_))
      clear H
      obtain ⟨r28, I26, L27, rfl, rfl, H⟩ := hq9
      show wp X B10_law 1220 [(0, .ref (X.2.2.2 50)), (1, .ref a1), (2, .ref a2), (3, .int x3)] [.int r28, .int r20] (G, I26, L27) k n _
      refine wp_icmp_eq (off := 619) (tgt := 1839) (by decide +kernel) (by decide) (fun c29 => ?_) (fun c29 => ?_)
      · rw [if_pos c29] at H
        refine wp_iinc (i := 3) (z := 6) (v := 6) (lv' := [(3, .int (x3 + 6)), (0, .ref (X.2.2.2 50)), (1, .ref a1), (2, .ref a2)]) 3 (by decide +kernel) rfl (by decide) (by decide) rfl ?_
        refine wp_goto (off := -1824) (tgt := 18) (by decide +kernel) (by decide) ?_
        exact wp_sub [1, 2, 3, 0] rfl H
      · rw [if_neg c29] at H
        refine wp_iconst (z := 0) (v := 0) (by decide +kernel) (by decide) ?_
        exact wp_zret (by decide +kernel) rfl (by decide) (by show k ≤ room_1.cells; omega) (by show n ≤ room_1.slots; omega) ⟨_, rfl, H⟩
set_option maxRecDepth 20000 in
theorem b10_law_1225 {X : XX} {G : GG} {I : Nat → Nat → Int32} {L : Nat → Nat → Int64} {k : Nat} {n : Nat} {a1 : Nat} {a2 : Nat} {x3 : Int32} {Q : Int32 → GG → (Nat → Nat → Int32) → (Nat → Nat → Int64) → Prop} (hk : k + 100 ≤ room_1.cells) (hn : n + 3000 ≤ room_1.slots) (ok1 : OK8 G a1) (ok2 : OK9 G a2) (H : vp_in (x3 + 1) (X.2.2.2 51) ∧ (vp_in (x3 + 2) (X.2.2.2 51) ∧ (wpI X B8_shade 0 [(0, .ref a1), (1, .int (scr X (x3 + 1))), (2, .int (scr X (x3 + 2)))] [] G I L (fun r3 I1 L2 => vp_in (x3 + 1) (X.2.2.2 51) ∧ (vp_in (x3 + 2) (X.2.2.2 51) ∧ (wpI X B9_shade 0 [(0, .ref a2), (1, .int (scr X (x3 + 1))), (2, .int (scr X (x3 + 2)))] [] G I1 L2 (fun r6 I4 L5 => if r3 = r6 then (wgI X B10_law 18 [(0, .ref (X.2.2.2 50)), (1, .ref a1), (2, .ref a2), (3, .int (x3 + 6))] [] G I4 L5 k n Q) else (Q 0 G I4 L5)))))))) : wgI X B10_law 1225 [(0, .ref (X.2.2.2 50)), (1, .ref a1), (2, .ref a2), (3, .int x3)] [] G I L k n Q := by
  refine wp_aload_n (z := 1) (i := 1) (r := (some a1)) 1 (by decide +kernel) rfl rfl ?_
  refine wp_aload_n (z := 0) (i := 0) (r := (some (X.2.2.2 50))) 0 (by decide +kernel) rfl rfl ?_
  refine wp_iload_n (z := 3) (i := 3) (x := x3) 3 (by decide +kernel) rfl rfl ?_
  refine wp_iconst (z := 1) (v := 1) (by decide +kernel) (by decide) ?_
  refine wp_iadd (by decide +kernel) ?_
  obtain ⟨o11, H⟩ := H
  refine wp_scrald (by decide +kernel) o11 ?_
  show wp X B10_law 1231 [(0, .ref (X.2.2.2 50)), (1, .ref a1), (2, .ref a2), (3, .int x3)] [.int (scr X (x3 + 1)), .ref a1] (G, I, L) k n _
  refine wp_aload_n (z := 0) (i := 0) (r := (some (X.2.2.2 50))) 0 (by decide +kernel) rfl rfl ?_
  refine wp_iload_n (z := 3) (i := 3) (x := x3) 3 (by decide +kernel) rfl rfl ?_
  refine wp_iconst (z := 2) (v := 2) (by decide +kernel) (by decide) ?_
  refine wp_iadd (by decide +kernel) ?_
  obtain ⟨o10, H⟩ := H
  refine wp_scrald (by decide +kernel) o10 ?_
  show wp X B10_law 1236 [(0, .ref (X.2.2.2 50)), (1, .ref a1), (2, .ref a2), (3, .int x3)] [.int (scr X (x3 + 2)), .int (scr X (x3 + 1)), .ref a1] (G, I, L) k n _
  refine wp_callV (idx := 107) (B2 := B8_shade) (As := [.int (scr X (x3 + 1)), .int (scr X (x3 + 2))]) (a := a1) (st := []) (by decide +kernel) m8_shade ml10_107 k8_shade e8_shade ck8 ok1.1 (⟨Nat.le_of_ble_eq_true rfl, Nat.le_of_ble_eq_true rfl⟩ : rOK B10_law B8_shade) rfl (Nat.le_of_ble_eq_true rfl) (Nat.le_of_ble_eq_true rfl) ⟨by show k + 0 ≤ room_1.cells; omega, by show n + 0 ≤ room_1.slots; omega⟩ rfl (wp_mono H (fun v9 M9 hq9 => ?_))
  clear H
  obtain ⟨r3, I1, L2, rfl, rfl, H⟩ := hq9
  show wp X B10_law 1239 [(0, .ref (X.2.2.2 50)), (1, .ref a1), (2, .ref a2), (3, .int x3)] [.int r3] (G, I1, L2) k n _
  refine wp_aload_n (z := 2) (i := 2) (r := (some a2)) 2 (by decide +kernel) rfl rfl ?_
  refine wp_aload_n (z := 0) (i := 0) (r := (some (X.2.2.2 50))) 0 (by decide +kernel) rfl rfl ?_
  refine wp_iload_n (z := 3) (i := 3) (x := x3) 3 (by decide +kernel) rfl rfl ?_
  refine wp_iconst (z := 1) (v := 1) (by decide +kernel) (by decide) ?_
  refine wp_iadd (by decide +kernel) ?_
  obtain ⟨o9, H⟩ := H
  refine wp_scrald (by decide +kernel) o9 ?_
  show wp X B10_law 1245 [(0, .ref (X.2.2.2 50)), (1, .ref a1), (2, .ref a2), (3, .int x3)] [.int (scr X (x3 + 1)), .ref a2, .int r3] (G, I1, L2) k n _
  refine wp_aload_n (z := 0) (i := 0) (r := (some (X.2.2.2 50))) 0 (by decide +kernel) rfl rfl ?_
  refine wp_iload_n (z := 3) (i := 3) (x := x3) 3 (by decide +kernel) rfl rfl ?_
  refine wp_iconst (z := 2) (v := 2) (by decide +kernel) (by decide) ?_
  refine wp_iadd (by decide +kernel) ?_
  obtain ⟨o8, H⟩ := H
  refine wp_scrald (by decide +kernel) o8 ?_
  show wp X B10_law 1250 [(0, .ref (X.2.2.2 50)), (1, .ref a1), (2, .ref a2), (3, .int x3)] [.int (scr X (x3 + 2)), .int (scr X (x3 + 1)), .ref a2, .int r3] (G, I1, L2) k n _
  refine wp_callV (idx := 110) (B2 := B9_shade) (As := [.int (scr X (x3 + 1)), .int (scr X (x3 + 2))]) (a := a2) (st := [.int r3]) (by decide +kernel) m9_shade ml10_110 k9_shade e9_shade ck9 ok2.1 (⟨Nat.le_of_ble_eq_true rfl, Nat.le_of_ble_eq_true rfl⟩ : rOK B10_law B9_shade) rfl (Nat.le_of_ble_eq_true rfl) (Nat.le_of_ble_eq_true rfl) ⟨by show k + 0 ≤ room_1.cells; omega, by show n + 0 ≤ room_1.slots; omega⟩ rfl (wp_mono H (fun v9 M9 hq9 => ?_))
  clear H
  obtain ⟨r6, I4, L5, rfl, rfl, H⟩ := hq9
  show wp X B10_law 1253 [(0, .ref (X.2.2.2 50)), (1, .ref a1), (2, .ref a2), (3, .int x3)] [.int r6, .int r3] (G, I4, L5) k n _
  refine wp_icmp_eq (off := 586) (tgt := 1839) (by decide +kernel) (by decide) (fun c7 => ?_) (fun c7 => ?_)
  · rw [if_pos c7] at H
    refine wp_iinc (i := 3) (z := 6) (v := 6) (lv' := [(3, .int (x3 + 6)), (0, .ref (X.2.2.2 50)), (1, .ref a1), (2, .ref a2)]) 3 (by decide +kernel) rfl (by decide) (by decide) rfl ?_
    refine wp_goto (off := -1824) (tgt := 18) (by decide +kernel) (by decide) ?_
    exact wp_sub [1, 2, 3, 0] rfl H
  · rw [if_neg c7] at H
    refine wp_iconst (z := 0) (v := 0) (by decide +kernel) (by decide) ?_
    exact wp_zret (by decide +kernel) rfl (by decide) (by show k ≤ room_1.cells; omega) (by show n ≤ room_1.slots; omega) ⟨_, rfl, H⟩
set_option maxRecDepth 20000 in
theorem b10_law_1258 {X : XX} {G : GG} {I : Nat → Nat → Int32} {L : Nat → Nat → Int64} {k : Nat} {n : Nat} {a1 : Nat} {a2 : Nat} {x3 : Int32} {Q : Int32 → GG → (Nat → Nat → Int32) → (Nat → Nat → Int64) → Prop} (hk : k + 100 ≤ room_1.cells) (hn : n + 3000 ≤ room_1.slots) (ok1 : OK8 G a1) (ok2 : OK9 G a2) (H : vp_in (x3 + 1) (X.2.2.2 51) ∧ (vp_in (x3 + 2) (X.2.2.2 51) ∧ (vp_in (x3 + 3) (X.2.2.2 51) ∧ (vp_in (x3 + 4) (X.2.2.2 51) ∧ (wpI X B8_apart 0 [(0, .ref a1), (1, .int (scr X (x3 + 1))), (2, .int (scr X (x3 + 2))), (3, .int (scr X (x3 + 3))), (4, .int (scr X (x3 + 4)))] [] G I L (fun r3 I1 L2 => vp_in (x3 + 1) (X.2.2.2 51) ∧ (vp_in (x3 + 2) (X.2.2.2 51) ∧ (vp_in (x3 + 3) (X.2.2.2 51) ∧ (vp_in (x3 + 4) (X.2.2.2 51) ∧ (wpI X B9_apart 0 [(0, .ref a2), (1, .int (scr X (x3 + 1))), (2, .int (scr X (x3 + 2))), (3, .int (scr X (x3 + 3))), (4, .int (scr X (x3 + 4)))] [] G I1 L2 (fun r6 I4 L5 => if r3 = r6 then (wgI X B10_law 18 [(0, .ref (X.2.2.2 50)), (1, .ref a1), (2, .ref a2), (3, .int (x3 + 6))] [] G I4 L5 k n Q) else (Q 0 G I4 L5)))))))))))) : wgI X B10_law 1258 [(0, .ref (X.2.2.2 50)), (1, .ref a1), (2, .ref a2), (3, .int x3)] [] G I L k n Q := by
  refine wp_aload_n (z := 1) (i := 1) (r := (some a1)) 1 (by decide +kernel) rfl rfl ?_
  refine wp_aload_n (z := 0) (i := 0) (r := (some (X.2.2.2 50))) 0 (by decide +kernel) rfl rfl ?_
  refine wp_iload_n (z := 3) (i := 3) (x := x3) 3 (by decide +kernel) rfl rfl ?_
  refine wp_iconst (z := 1) (v := 1) (by decide +kernel) (by decide) ?_
  refine wp_iadd (by decide +kernel) ?_
  obtain ⟨o15, H⟩ := H
  refine wp_scrald (by decide +kernel) o15 ?_
  show wp X B10_law 1264 [(0, .ref (X.2.2.2 50)), (1, .ref a1), (2, .ref a2), (3, .int x3)] [.int (scr X (x3 + 1)), .ref a1] (G, I, L) k n _
  refine wp_aload_n (z := 0) (i := 0) (r := (some (X.2.2.2 50))) 0 (by decide +kernel) rfl rfl ?_
  refine wp_iload_n (z := 3) (i := 3) (x := x3) 3 (by decide +kernel) rfl rfl ?_
  refine wp_iconst (z := 2) (v := 2) (by decide +kernel) (by decide) ?_
  refine wp_iadd (by decide +kernel) ?_
  obtain ⟨o14, H⟩ := H
  refine wp_scrald (by decide +kernel) o14 ?_
  show wp X B10_law 1269 [(0, .ref (X.2.2.2 50)), (1, .ref a1), (2, .ref a2), (3, .int x3)] [.int (scr X (x3 + 2)), .int (scr X (x3 + 1)), .ref a1] (G, I, L) k n _
  refine wp_aload_n (z := 0) (i := 0) (r := (some (X.2.2.2 50))) 0 (by decide +kernel) rfl rfl ?_
  refine wp_iload_n (z := 3) (i := 3) (x := x3) 3 (by decide +kernel) rfl rfl ?_
  refine wp_iconst (z := 3) (v := 3) (by decide +kernel) (by decide) ?_
  refine wp_iadd (by decide +kernel) ?_
  obtain ⟨o13, H⟩ := H
  refine wp_scrald (by decide +kernel) o13 ?_
  show wp X B10_law 1274 [(0, .ref (X.2.2.2 50)), (1, .ref a1), (2, .ref a2), (3, .int x3)] [.int (scr X (x3 + 3)), .int (scr X (x3 + 2)), .int (scr X (x3 + 1)), .ref a1] (G, I, L) k n _
  refine wp_aload_n (z := 0) (i := 0) (r := (some (X.2.2.2 50))) 0 (by decide +kernel) rfl rfl ?_
  refine wp_iload_n (z := 3) (i := 3) (x := x3) 3 (by decide +kernel) rfl rfl ?_
  refine wp_iconst (z := 4) (v := 4) (by decide +kernel) (by decide) ?_
  refine wp_iadd (by decide +kernel) ?_
  obtain ⟨o12, H⟩ := H
  refine wp_scrald (by decide +kernel) o12 ?_
  show wp X B10_law 1279 [(0, .ref (X.2.2.2 50)), (1, .ref a1), (2, .ref a2), (3, .int x3)] [.int (scr X (x3 + 4)), .int (scr X (x3 + 3)), .int (scr X (x3 + 2)), .int (scr X (x3 + 1)), .ref a1] (G, I, L) k n _
  refine wp_callV (idx := 111) (B2 := B8_apart) (As := [.int (scr X (x3 + 1)), .int (scr X (x3 + 2)), .int (scr X (x3 + 3)), .int (scr X (x3 + 4))]) (a := a1) (st := []) (by decide +kernel) m8_apart ml10_111 k8_apart e8_apart ck8 ok1.1 (⟨Nat.le_of_ble_eq_true rfl, Nat.le_of_ble_eq_true rfl⟩ : rOK B10_law B8_apart) rfl (Nat.le_of_ble_eq_true rfl) (Nat.le_of_ble_eq_true rfl) ⟨by show k + 0 ≤ room_1.cells; omega, by show n + 0 ≤ room_1.slots; omega⟩ rfl (wp_mono H (fun v9 M9 hq9 => ?_))
  clear H
  obtain ⟨r3, I1, L2, rfl, rfl, H⟩ := hq9
  show wp X B10_law 1282 [(0, .ref (X.2.2.2 50)), (1, .ref a1), (2, .ref a2), (3, .int x3)] [.int r3] (G, I1, L2) k n _
  refine wp_aload_n (z := 2) (i := 2) (r := (some a2)) 2 (by decide +kernel) rfl rfl ?_
  refine wp_aload_n (z := 0) (i := 0) (r := (some (X.2.2.2 50))) 0 (by decide +kernel) rfl rfl ?_
  refine wp_iload_n (z := 3) (i := 3) (x := x3) 3 (by decide +kernel) rfl rfl ?_
  refine wp_iconst (z := 1) (v := 1) (by decide +kernel) (by decide) ?_
  refine wp_iadd (by decide +kernel) ?_
  obtain ⟨o11, H⟩ := H
  refine wp_scrald (by decide +kernel) o11 ?_
  show wp X B10_law 1288 [(0, .ref (X.2.2.2 50)), (1, .ref a1), (2, .ref a2), (3, .int x3)] [.int (scr X (x3 + 1)), .ref a2, .int r3] (G, I1, L2) k n _
  refine wp_aload_n (z := 0) (i := 0) (r := (some (X.2.2.2 50))) 0 (by decide +kernel) rfl rfl ?_
  refine wp_iload_n (z := 3) (i := 3) (x := x3) 3 (by decide +kernel) rfl rfl ?_
  refine wp_iconst (z := 2) (v := 2) (by decide +kernel) (by decide) ?_
  refine wp_iadd (by decide +kernel) ?_
  obtain ⟨o10, H⟩ := H
  refine wp_scrald (by decide +kernel) o10 ?_
  show wp X B10_law 1293 [(0, .ref (X.2.2.2 50)), (1, .ref a1), (2, .ref a2), (3, .int x3)] [.int (scr X (x3 + 2)), .int (scr X (x3 + 1)), .ref a2, .int r3] (G, I1, L2) k n _
  refine wp_aload_n (z := 0) (i := 0) (r := (some (X.2.2.2 50))) 0 (by decide +kernel) rfl rfl ?_
  refine wp_iload_n (z := 3) (i := 3) (x := x3) 3 (by decide +kernel) rfl rfl ?_
  refine wp_iconst (z := 3) (v := 3) (by decide +kernel) (by decide) ?_
  refine wp_iadd (by decide +kernel) ?_
  obtain ⟨o9, H⟩ := H
  refine wp_scrald (by decide +kernel) o9 ?_
  show wp X B10_law 1298 [(0, .ref (X.2.2.2 50)), (1, .ref a1), (2, .ref a2), (3, .int x3)] [.int (scr X (x3 + 3)), .int (scr X (x3 + 2)), .int (scr X (x3 + 1)), .ref a2, .int r3] (G, I1, L2) k n _
  refine wp_aload_n (z := 0) (i := 0) (r := (some (X.2.2.2 50))) 0 (by decide +kernel) rfl rfl ?_
  refine wp_iload_n (z := 3) (i := 3) (x := x3) 3 (by decide +kernel) rfl rfl ?_
  refine wp_iconst (z := 4) (v := 4) (by decide +kernel) (by decide) ?_
  refine wp_iadd (by decide +kernel) ?_
  obtain ⟨o8, H⟩ := H
  refine wp_scrald (by decide +kernel) o8 ?_
  show wp X B10_law 1303 [(0, .ref (X.2.2.2 50)), (1, .ref a1), (2, .ref a2), (3, .int x3)] [.int (scr X (x3 + 4)), .int (scr X (x3 + 3)), .int (scr X (x3 + 2)), .int (scr X (x3 + 1)), .ref a2, .int r3] (G, I1, L2) k n _
  refine wp_callV (idx := 114) (B2 := B9_apart) (As := [.int (scr X (x3 + 1)), .int (scr X (x3 + 2)), .int (scr X (x3 + 3)), .int (scr X (x3 + 4))]) (a := a2) (st := [.int r3]) (by decide +kernel) m9_apart ml10_114 k9_apart e9_apart ck9 ok2.1 (⟨Nat.le_of_ble_eq_true rfl, Nat.le_of_ble_eq_true rfl⟩ : rOK B10_law B9_apart) rfl (Nat.le_of_ble_eq_true rfl) (Nat.le_of_ble_eq_true rfl) ⟨by show k + 0 ≤ room_1.cells; omega, by show n + 0 ≤ room_1.slots; omega⟩ rfl (wp_mono H (fun v9 M9 hq9 => ?_))
  clear H
  obtain ⟨r6, I4, L5, rfl, rfl, H⟩ := hq9
  show wp X B10_law 1306 [(0, .ref (X.2.2.2 50)), (1, .ref a1), (2, .ref a2), (3, .int x3)] [.int r6, .int r3] (G, I4, L5) k n _
  refine wp_icmp_eq (off := 533) (tgt := 1839) (by decide +kernel) (by decide) (fun c7 => ?_) (fun c7 => ?_)
  · rw [if_pos c7] at H
    refine wp_iinc (i := 3) (z := 6) (v := 6) (lv' := [(3, .int (x3 + 6)), (0, .ref (X.2.2.2 50)), (1, .ref a1), (2, .ref a2)]) 3 (by decide +kernel) rfl (by decide) (by decide) rfl ?_
    refine wp_goto (off := -1824) (tgt := 18) (by decide +kernel) (by decide) ?_
    exact wp_sub [1, 2, 3, 0] rfl H
  · rw [if_neg c7] at H
    refine wp_iconst (z := 0) (v := 0) (by decide +kernel) (by decide) ?_
    exact wp_zret (by decide +kernel) rfl (by decide) (by show k ≤ room_1.cells; omega) (by show n ≤ room_1.slots; omega) ⟨_, rfl, H⟩
set_option maxRecDepth 20000 in
theorem b10_law_1311 {X : XX} {G : GG} {I : Nat → Nat → Int32} {L : Nat → Nat → Int64} {k : Nat} {n : Nat} {a1 : Nat} {a2 : Nat} {x3 : Int32} {Q : Int32 → GG → (Nat → Nat → Int32) → (Nat → Nat → Int64) → Prop} (hk : k + 100 ≤ room_1.cells) (hn : n + 3000 ≤ room_1.slots) (ok1 : OK8 G a1) (ok2 : OK9 G a2) (H : vp_in (x3 + 1) (X.2.2.2 51) ∧ (vp_in (x3 + 2) (X.2.2.2 51) ∧ (vp_in (x3 + 3) (X.2.2.2 51) ∧ (if (scr X (x3 + 3)) = (0 : Int32) then (wpI X B8_keys 0 [(0, .ref a1), (1, .int (scr X (x3 + 1))), (2, .int (scr X (x3 + 2))), (3, .int 0)] [] G I L (fun r4 I2 L3 => vp_in (x3 + 1) (X.2.2.2 51) ∧ (vp_in (x3 + 2) (X.2.2.2 51) ∧ (vp_in (x3 + 3) (X.2.2.2 51) ∧ (if (scr X (x3 + 3)) = (0 : Int32) then (wpI X B9_keys 0 [(0, .ref a2), (1, .int (scr X (x3 + 1))), (2, .int (scr X (x3 + 2))), (3, .int 0)] [] G I2 L3 (fun r8 I6 L7 => if r4 = r8 then (wgI X B10_law 18 [(0, .ref (X.2.2.2 50)), (1, .ref a1), (2, .ref a2), (3, .int (x3 + 6))] [] G I6 L7 k n Q) else (Q 0 G I6 L7))) else (wpI X B9_keys 0 [(0, .ref a2), (1, .int (scr X (x3 + 1))), (2, .int (scr X (x3 + 2))), (3, .int 1)] [] G I2 L3 (fun r12 I10 L11 => if r4 = r12 then (wgI X B10_law 18 [(0, .ref (X.2.2.2 50)), (1, .ref a1), (2, .ref a2), (3, .int (x3 + 6))] [] G I10 L11 k n Q) else (Q 0 G I10 L11)))))))) else (wpI X B8_keys 0 [(0, .ref a1), (1, .int (scr X (x3 + 1))), (2, .int (scr X (x3 + 2))), (3, .int 1)] [] G I L (fun r19 I17 L18 => vp_in (x3 + 1) (X.2.2.2 51) ∧ (vp_in (x3 + 2) (X.2.2.2 51) ∧ (vp_in (x3 + 3) (X.2.2.2 51) ∧ (if (scr X (x3 + 3)) = (0 : Int32) then (wpI X B9_keys 0 [(0, .ref a2), (1, .int (scr X (x3 + 1))), (2, .int (scr X (x3 + 2))), (3, .int 0)] [] G I17 L18 (fun r23 I21 L22 => if r19 = r23 then (wgI X B10_law 18 [(0, .ref (X.2.2.2 50)), (1, .ref a1), (2, .ref a2), (3, .int (x3 + 6))] [] G I21 L22 k n Q) else (Q 0 G I21 L22))) else (wpI X B9_keys 0 [(0, .ref a2), (1, .int (scr X (x3 + 1))), (2, .int (scr X (x3 + 2))), (3, .int 1)] [] G I17 L18 (fun r27 I25 L26 => if r19 = r27 then (wgI X B10_law 18 [(0, .ref (X.2.2.2 50)), (1, .ref a1), (2, .ref a2), (3, .int (x3 + 6))] [] G I25 L26 k n Q) else (Q 0 G I25 L26)))))))))))) : wgI X B10_law 1311 [(0, .ref (X.2.2.2 50)), (1, .ref a1), (2, .ref a2), (3, .int x3)] [] G I L k n Q := by
  refine wp_aload_n (z := 1) (i := 1) (r := (some a1)) 1 (by decide +kernel) rfl rfl ?_
  refine wp_aload_n (z := 0) (i := 0) (r := (some (X.2.2.2 50))) 0 (by decide +kernel) rfl rfl ?_
  refine wp_iload_n (z := 3) (i := 3) (x := x3) 3 (by decide +kernel) rfl rfl ?_
  refine wp_iconst (z := 1) (v := 1) (by decide +kernel) (by decide) ?_
  refine wp_iadd (by decide +kernel) ?_
  obtain ⟨o34, H⟩ := H
  refine wp_scrald (by decide +kernel) o34 ?_
  show wp X B10_law 1317 [(0, .ref (X.2.2.2 50)), (1, .ref a1), (2, .ref a2), (3, .int x3)] [.int (scr X (x3 + 1)), .ref a1] (G, I, L) k n _
  refine wp_aload_n (z := 0) (i := 0) (r := (some (X.2.2.2 50))) 0 (by decide +kernel) rfl rfl ?_
  refine wp_iload_n (z := 3) (i := 3) (x := x3) 3 (by decide +kernel) rfl rfl ?_
  refine wp_iconst (z := 2) (v := 2) (by decide +kernel) (by decide) ?_
  refine wp_iadd (by decide +kernel) ?_
  obtain ⟨o33, H⟩ := H
  refine wp_scrald (by decide +kernel) o33 ?_
  show wp X B10_law 1322 [(0, .ref (X.2.2.2 50)), (1, .ref a1), (2, .ref a2), (3, .int x3)] [.int (scr X (x3 + 2)), .int (scr X (x3 + 1)), .ref a1] (G, I, L) k n _
  refine wp_aload_n (z := 0) (i := 0) (r := (some (X.2.2.2 50))) 0 (by decide +kernel) rfl rfl ?_
  refine wp_iload_n (z := 3) (i := 3) (x := x3) 3 (by decide +kernel) rfl rfl ?_
  refine wp_iconst (z := 3) (v := 3) (by decide +kernel) (by decide) ?_
  refine wp_iadd (by decide +kernel) ?_
  obtain ⟨o32, H⟩ := H
  refine wp_scrald (by decide +kernel) o32 ?_
  show wp X B10_law 1327 [(0, .ref (X.2.2.2 50)), (1, .ref a1), (2, .ref a2), (3, .int x3)] [.int (scr X (x3 + 3)), .int (scr X (x3 + 2)), .int (scr X (x3 + 1)), .ref a1] (G, I, L) k n _
  refine wp_if_eq (off := 7) (tgt := 1334) (by decide +kernel) (by decide) (fun c1 => ?_) (fun c1 => ?_)
  · rw [if_pos c1] at H
    refine wp_iconst (z := 0) (v := 0) (by decide +kernel) (by decide) ?_
    refine wp_callV (idx := 115) (B2 := B8_keys) (As := [.int (scr X (x3 + 1)), .int (scr X (x3 + 2)), .int 0]) (a := a1) (st := []) (by decide +kernel) m8_keys ml10_115 k8_keys e8_keys ck8 ok1.1 (⟨Nat.le_of_ble_eq_true rfl, Nat.le_of_ble_eq_true rfl⟩ : rOK B10_law B8_keys) rfl (Nat.le_of_ble_eq_true rfl) (Nat.le_of_ble_eq_true rfl) ⟨by show k + 0 ≤ room_1.cells; omega, by show n + 0 ≤ room_1.slots; omega⟩ rfl (wp_mono H (fun v9 M9 hq9 => ?_))
    clear H
    obtain ⟨r4, I2, L3, rfl, rfl, H⟩ := hq9
    show wp X B10_law 1338 [(0, .ref (X.2.2.2 50)), (1, .ref a1), (2, .ref a2), (3, .int x3)] [.int r4] (G, I2, L3) k n _
    refine wp_aload_n (z := 2) (i := 2) (r := (some a2)) 2 (by decide +kernel) rfl rfl ?_
    refine wp_aload_n (z := 0) (i := 0) (r := (some (X.2.2.2 50))) 0 (by decide +kernel) rfl rfl ?_
    refine wp_iload_n (z := 3) (i := 3) (x := x3) 3 (by decide +kernel) rfl rfl ?_
    refine wp_iconst (z := 1) (v := 1) (by decide +kernel) (by decide) ?_
    refine wp_iadd (by decide +kernel) ?_
    obtain ⟨o16, H⟩ := H
    refine wp_scrald (by decide +kernel) o16 ?_
    show wp X B10_law 1344 [(0, .ref (X.2.2.2 50)), (1, .ref a1), (2, .ref a2), (3, .int x3)] [.int (scr X (x3 + 1)), .ref a2, .int r4] (G, I2, L3) k n _
    refine wp_aload_n (z := 0) (i := 0) (r := (some (X.2.2.2 50))) 0 (by decide +kernel) rfl rfl ?_
    refine wp_iload_n (z := 3) (i := 3) (x := x3) 3 (by decide +kernel) rfl rfl ?_
    refine wp_iconst (z := 2) (v := 2) (by decide +kernel) (by decide) ?_
    refine wp_iadd (by decide +kernel) ?_
    obtain ⟨o15, H⟩ := H
    refine wp_scrald (by decide +kernel) o15 ?_
    show wp X B10_law 1349 [(0, .ref (X.2.2.2 50)), (1, .ref a1), (2, .ref a2), (3, .int x3)] [.int (scr X (x3 + 2)), .int (scr X (x3 + 1)), .ref a2, .int r4] (G, I2, L3) k n _
    refine wp_aload_n (z := 0) (i := 0) (r := (some (X.2.2.2 50))) 0 (by decide +kernel) rfl rfl ?_
    refine wp_iload_n (z := 3) (i := 3) (x := x3) 3 (by decide +kernel) rfl rfl ?_
    refine wp_iconst (z := 3) (v := 3) (by decide +kernel) (by decide) ?_
    refine wp_iadd (by decide +kernel) ?_
    obtain ⟨o14, H⟩ := H
    refine wp_scrald (by decide +kernel) o14 ?_
    show wp X B10_law 1354 [(0, .ref (X.2.2.2 50)), (1, .ref a1), (2, .ref a2), (3, .int x3)] [.int (scr X (x3 + 3)), .int (scr X (x3 + 2)), .int (scr X (x3 + 1)), .ref a2, .int r4] (G, I2, L3) k n _
    refine wp_if_eq (off := 7) (tgt := 1361) (by decide +kernel) (by decide) (fun c5 => ?_) (fun c5 => ?_)
    · rw [if_pos c5] at H
      refine wp_iconst (z := 0) (v := 0) (by decide +kernel) (by decide) ?_
      refine wp_callV (idx := 118) (B2 := B9_keys) (As := [.int (scr X (x3 + 1)), .int (scr X (x3 + 2)), .int 0]) (a := a2) (st := [.int r4]) (by decide +kernel) m9_keys ml10_118 k9_keys e9_keys ck9 ok2.1 (⟨Nat.le_of_ble_eq_true rfl, Nat.le_of_ble_eq_true rfl⟩ : rOK B10_law B9_keys) rfl (Nat.le_of_ble_eq_true rfl) (Nat.le_of_ble_eq_true rfl) ⟨by show k + 0 ≤ room_1.cells; omega, by show n + 0 ≤ room_1.slots; omega⟩ rfl (wp_mono H (fun v9 M9 hq9 => ?_))
      clear H
      obtain ⟨r8, I6, L7, rfl, rfl, H⟩ := hq9
      show wp X B10_law 1365 [(0, .ref (X.2.2.2 50)), (1, .ref a1), (2, .ref a2), (3, .int x3)] [.int r8, .int r4] (G, I6, L7) k n _
      refine wp_icmp_eq (off := 474) (tgt := 1839) (by decide +kernel) (by decide) (fun c9 => ?_) (fun c9 => ?_)
      · rw [if_pos c9] at H
        refine wp_iinc (i := 3) (z := 6) (v := 6) (lv' := [(3, .int (x3 + 6)), (0, .ref (X.2.2.2 50)), (1, .ref a1), (2, .ref a2)]) 3 (by decide +kernel) rfl (by decide) (by decide) rfl ?_
        refine wp_goto (off := -1824) (tgt := 18) (by decide +kernel) (by decide) ?_
        exact wp_sub [1, 2, 3, 0] rfl H
      · rw [if_neg c9] at H
        refine wp_iconst (z := 0) (v := 0) (by decide +kernel) (by decide) ?_
        exact wp_zret (by decide +kernel) rfl (by decide) (by show k ≤ room_1.cells; omega) (by show n ≤ room_1.slots; omega) ⟨_, rfl, H⟩
    · rw [if_neg c5] at H
      refine wp_iconst (z := 1) (v := 1) (by decide +kernel) (by decide) ?_
      refine wp_goto (off := 4) (tgt := 1362) (by decide +kernel) (by decide) ?_
      refine wp_callV (idx := 118) (B2 := B9_keys) (As := [.int (scr X (x3 + 1)), .int (scr X (x3 + 2)), .int 1]) (a := a2) (st := [.int r4]) (by decide +kernel) m9_keys ml10_118 k9_keys e9_keys ck9 ok2.1 (⟨Nat.le_of_ble_eq_true rfl, Nat.le_of_ble_eq_true rfl⟩ : rOK B10_law B9_keys) rfl (Nat.le_of_ble_eq_true rfl) (Nat.le_of_ble_eq_true rfl) ⟨by show k + 0 ≤ room_1.cells; omega, by show n + 0 ≤ room_1.slots; omega⟩ rfl (wp_mono H (fun v9 M9 hq9 => ?_))
      clear H
      obtain ⟨r12, I10, L11, rfl, rfl, H⟩ := hq9
      show wp X B10_law 1365 [(0, .ref (X.2.2.2 50)), (1, .ref a1), (2, .ref a2), (3, .int x3)] [.int r12, .int r4] (G, I10, L11) k n _
      refine wp_icmp_eq (off := 474) (tgt := 1839) (by decide +kernel) (by decide) (fun c13 => ?_) (fun c13 => ?_)
      · rw [if_pos c13] at H
        refine wp_iinc (i := 3) (z := 6) (v := 6) (lv' := [(3, .int (x3 + 6)), (0, .ref (X.2.2.2 50)), (1, .ref a1), (2, .ref a2)]) 3 (by decide +kernel) rfl (by decide) (by decide) rfl ?_
        refine wp_goto (off := -1824) (tgt := 18) (by decide +kernel) (by decide) ?_
        exact wp_sub [1, 2, 3, 0] rfl H
      · rw [if_neg c13] at H
        refine wp_iconst (z := 0) (v := 0) (by decide +kernel) (by decide) ?_
        exact wp_zret (by decide +kernel) rfl (by decide) (by show k ≤ room_1.cells; omega) (by show n ≤ room_1.slots; omega) ⟨_, rfl, H⟩
  · rw [if_neg c1] at H
    refine wp_iconst (z := 1) (v := 1) (by decide +kernel) (by decide) ?_
    refine wp_goto (off := 4) (tgt := 1335) (by decide +kernel) (by decide) ?_
    refine wp_callV (idx := 115) (B2 := B8_keys) (As := [.int (scr X (x3 + 1)), .int (scr X (x3 + 2)), .int 1]) (a := a1) (st := []) (by decide +kernel) m8_keys ml10_115 k8_keys e8_keys ck8 ok1.1 (⟨Nat.le_of_ble_eq_true rfl, Nat.le_of_ble_eq_true rfl⟩ : rOK B10_law B8_keys) rfl (Nat.le_of_ble_eq_true rfl) (Nat.le_of_ble_eq_true rfl) ⟨by show k + 0 ≤ room_1.cells; omega, by show n + 0 ≤ room_1.slots; omega⟩ rfl (wp_mono H (fun v9 M9 hq9 => ?_))
    clear H
    obtain ⟨r19, I17, L18, rfl, rfl, H⟩ := hq9
    show wp X B10_law 1338 [(0, .ref (X.2.2.2 50)), (1, .ref a1), (2, .ref a2), (3, .int x3)] [.int r19] (G, I17, L18) k n _
    refine wp_aload_n (z := 2) (i := 2) (r := (some a2)) 2 (by decide +kernel) rfl rfl ?_
    refine wp_aload_n (z := 0) (i := 0) (r := (some (X.2.2.2 50))) 0 (by decide +kernel) rfl rfl ?_
    refine wp_iload_n (z := 3) (i := 3) (x := x3) 3 (by decide +kernel) rfl rfl ?_
    refine wp_iconst (z := 1) (v := 1) (by decide +kernel) (by decide) ?_
    refine wp_iadd (by decide +kernel) ?_
    obtain ⟨o31, H⟩ := H
    refine wp_scrald (by decide +kernel) o31 ?_
    show wp X B10_law 1344 [(0, .ref (X.2.2.2 50)), (1, .ref a1), (2, .ref a2), (3, .int x3)] [.int (scr X (x3 + 1)), .ref a2, .int r19] (G, I17, L18) k n _
    refine wp_aload_n (z := 0) (i := 0) (r := (some (X.2.2.2 50))) 0 (by decide +kernel) rfl rfl ?_
    refine wp_iload_n (z := 3) (i := 3) (x := x3) 3 (by decide +kernel) rfl rfl ?_
    refine wp_iconst (z := 2) (v := 2) (by decide +kernel) (by decide) ?_
    refine wp_iadd (by decide +kernel) ?_
    obtain ⟨o30, H⟩ := H
    refine wp_scrald (by decide +kernel) o30 ?_
    show wp X B10_law 1349 [(0, .ref (X.2.2.2 50)), (1, .ref a1), (2, .ref a2), (3, .int x3)] [.int (scr X (x3 + 2)), .int (scr X (x3 + 1)), .ref a2, .int r19] (G, I17, L18) k n _
    refine wp_aload_n (z := 0) (i := 0) (r := (some (X.2.2.2 50))) 0 (by decide +kernel) rfl rfl ?_
    refine wp_iload_n (z := 3) (i := 3) (x := x3) 3 (by decide +kernel) rfl rfl ?_
    refine wp_iconst (z := 3) (v := 3) (by decide +kernel) (by decide) ?_
    refine wp_iadd (by decide +kernel) ?_
    obtain ⟨o29, H⟩ := H
    refine wp_scrald (by decide +kernel) o29 ?_
    show wp X B10_law 1354 [(0, .ref (X.2.2.2 50)), (1, .ref a1), (2, .ref a2), (3, .int x3)] [.int (scr X (x3 + 3)), .int (scr X (x3 + 2)), .int (scr X (x3 + 1)), .ref a2, .int r19] (G, I17, L18) k n _
    refine wp_if_eq (off := 7) (tgt := 1361) (by decide +kernel) (by decide) (fun c20 => ?_) (fun c20 => ?_)
    · rw [if_pos c20] at H
      refine wp_iconst (z := 0) (v := 0) (by decide +kernel) (by decide) ?_
      refine wp_callV (idx := 118) (B2 := B9_keys) (As := [.int (scr X (x3 + 1)), .int (scr X (x3 + 2)), .int 0]) (a := a2) (st := [.int r19]) (by decide +kernel) m9_keys ml10_118 k9_keys e9_keys ck9 ok2.1 (⟨Nat.le_of_ble_eq_true rfl, Nat.le_of_ble_eq_true rfl⟩ : rOK B10_law B9_keys) rfl (Nat.le_of_ble_eq_true rfl) (Nat.le_of_ble_eq_true rfl) ⟨by show k + 0 ≤ room_1.cells; omega, by show n + 0 ≤ room_1.slots; omega⟩ rfl (wp_mono H (fun v9 M9 hq9 => ?_))
      clear H
      obtain ⟨r23, I21, L22, rfl, rfl, H⟩ := hq9
      show wp X B10_law 1365 [(0, .ref (X.2.2.2 50)), (1, .ref a1), (2, .ref a2), (3, .int x3)] [.int r23, .int r19] (G, I21, L22) k n _
      refine wp_icmp_eq (off := 474) (tgt := 1839) (by decide +kernel) (by decide) (fun c24 => ?_) (fun c24 => ?_)
      · rw [if_pos c24] at H
        refine wp_iinc (i := 3) (z := 6) (v := 6) (lv' := [(3, .int (x3 + 6)), (0, .ref (X.2.2.2 50)), (1, .ref a1), (2, .ref a2)]) 3 (by decide +kernel) rfl (by decide) (by decide) rfl ?_
        refine wp_goto (off := -1824) (tgt := 18) (by decide +kernel) (by decide) ?_
        exact wp_sub [1, 2, 3, 0] rfl H
      · rw [if_neg c24] at H
        refine wp_iconst (z := 0) (v := 0) (by decide +kernel) (by decide) ?_
        exact wp_zret (by decide +kernel) rfl (by decide) (by show k ≤ room_1.cells; omega) (by show n ≤ room_1.slots; omega) ⟨_, rfl, H⟩
    · rw [if_neg c20] at H
      refine wp_iconst (z := 1) (v := 1) (by decide +kernel) (by decide) ?_
      refine wp_goto (off := 4) (tgt := 1362) (by decide +kernel) (by decide) ?_
      refine wp_callV (idx := 118) (B2 := B9_keys) (As := [.int (scr X (x3 + 1)), .int (scr X (x3 + 2)), .int 1]) (a := a2) (st := [.int r19]) (by decide +kernel) m9_keys ml10_118 k9_keys e9_keys ck9 ok2.1 (⟨Nat.le_of_ble_eq_true rfl, Nat.le_of_ble_eq_true rfl⟩ : rOK B10_law B9_keys) rfl (Nat.le_of_ble_eq_true rfl) (Nat.le_of_ble_eq_true rfl) ⟨by show k + 0 ≤ room_1.cells; omega, by show n + 0 ≤ room_1.slots; omega⟩ rfl (wp_mono H (fun v9 M9 hq9 => ?_))
      clear H
      obtain ⟨r27, I25, L26, rfl, rfl, H⟩ := hq9
      show wp X B10_law 1365 [(0, .ref (X.2.2.2 50)), (1, .ref a1), (2, .ref a2), (3, .int x3)] [.int r27, .int r19] (G, I25, L26) k n _
      refine wp_icmp_eq (off := 474) (tgt := 1839) (by decide +kernel) (by decide) (fun c28 => ?_) (fun c28 => ?_)
      · rw [if_pos c28] at H
        refine wp_iinc (i := 3) (z := 6) (v := 6) (lv' := [(3, .int (x3 + 6)), (0, .ref (X.2.2.2 50)), (1, .ref a1), (2, .ref a2)]) 3 (by decide +kernel) rfl (by decide) (by decide) rfl ?_
        refine wp_goto (off := -1824) (tgt := 18) (by decide +kernel) (by decide) ?_
        exact wp_sub [1, 2, 3, 0] rfl H
      · rw [if_neg c28] at H
        refine wp_iconst (z := 0) (v := 0) (by decide +kernel) (by decide) ?_
        exact wp_zret (by decide +kernel) rfl (by decide) (by show k ≤ room_1.cells; omega) (by show n ≤ room_1.slots; omega) ⟨_, rfl, H⟩
set_option maxRecDepth 20000 in
theorem b10_law_1370 {X : XX} {G : GG} {I : Nat → Nat → Int32} {L : Nat → Nat → Int64} {k : Nat} {n : Nat} {a1 : Nat} {a2 : Nat} {x3 : Int32} {Q : Int32 → GG → (Nat → Nat → Int32) → (Nat → Nat → Int64) → Prop} (hk : k + 100 ≤ room_1.cells) (hn : n + 3000 ≤ room_1.slots) (ok1 : OK8 G a1) (ok2 : OK9 G a2) (H : vp_in (x3 + 1) (X.2.2.2 51) ∧ (vp_in (x3 + 2) (X.2.2.2 51) ∧ (vp_in (x3 + 3) (X.2.2.2 51) ∧ (wpI X B8_dried 0 [(0, .ref a1), (1, .int (scr X (x3 + 1))), (2, .int (scr X (x3 + 2))), (3, .int (scr X (x3 + 3)))] [] G I L (fun r3 I1 L2 => vp_in (x3 + 1) (X.2.2.2 51) ∧ (vp_in (x3 + 2) (X.2.2.2 51) ∧ (vp_in (x3 + 3) (X.2.2.2 51) ∧ (wpI X B9_dried 0 [(0, .ref a2), (1, .int (scr X (x3 + 1))), (2, .int (scr X (x3 + 2))), (3, .int (scr X (x3 + 3)))] [] G I1 L2 (fun r6 I4 L5 => if r3 = r6 then (wgI X B10_law 18 [(0, .ref (X.2.2.2 50)), (1, .ref a1), (2, .ref a2), (3, .int (x3 + 6))] [] G I4 L5 k n Q) else (Q 0 G I4 L5)))))))))) : wgI X B10_law 1370 [(0, .ref (X.2.2.2 50)), (1, .ref a1), (2, .ref a2), (3, .int x3)] [] G I L k n Q := by
  refine wp_aload_n (z := 1) (i := 1) (r := (some a1)) 1 (by decide +kernel) rfl rfl ?_
  refine wp_aload_n (z := 0) (i := 0) (r := (some (X.2.2.2 50))) 0 (by decide +kernel) rfl rfl ?_
  refine wp_iload_n (z := 3) (i := 3) (x := x3) 3 (by decide +kernel) rfl rfl ?_
  refine wp_iconst (z := 1) (v := 1) (by decide +kernel) (by decide) ?_
  refine wp_iadd (by decide +kernel) ?_
  obtain ⟨o13, H⟩ := H
  refine wp_scrald (by decide +kernel) o13 ?_
  show wp X B10_law 1376 [(0, .ref (X.2.2.2 50)), (1, .ref a1), (2, .ref a2), (3, .int x3)] [.int (scr X (x3 + 1)), .ref a1] (G, I, L) k n _
  refine wp_aload_n (z := 0) (i := 0) (r := (some (X.2.2.2 50))) 0 (by decide +kernel) rfl rfl ?_
  refine wp_iload_n (z := 3) (i := 3) (x := x3) 3 (by decide +kernel) rfl rfl ?_
  refine wp_iconst (z := 2) (v := 2) (by decide +kernel) (by decide) ?_
  refine wp_iadd (by decide +kernel) ?_
  obtain ⟨o12, H⟩ := H
  refine wp_scrald (by decide +kernel) o12 ?_
  show wp X B10_law 1381 [(0, .ref (X.2.2.2 50)), (1, .ref a1), (2, .ref a2), (3, .int x3)] [.int (scr X (x3 + 2)), .int (scr X (x3 + 1)), .ref a1] (G, I, L) k n _
  refine wp_aload_n (z := 0) (i := 0) (r := (some (X.2.2.2 50))) 0 (by decide +kernel) rfl rfl ?_
  refine wp_iload_n (z := 3) (i := 3) (x := x3) 3 (by decide +kernel) rfl rfl ?_
  refine wp_iconst (z := 3) (v := 3) (by decide +kernel) (by decide) ?_
  refine wp_iadd (by decide +kernel) ?_
  obtain ⟨o11, H⟩ := H
  refine wp_scrald (by decide +kernel) o11 ?_
  show wp X B10_law 1386 [(0, .ref (X.2.2.2 50)), (1, .ref a1), (2, .ref a2), (3, .int x3)] [.int (scr X (x3 + 3)), .int (scr X (x3 + 2)), .int (scr X (x3 + 1)), .ref a1] (G, I, L) k n _
  refine wp_callV (idx := 119) (B2 := B8_dried) (As := [.int (scr X (x3 + 1)), .int (scr X (x3 + 2)), .int (scr X (x3 + 3))]) (a := a1) (st := []) (by decide +kernel) m8_dried ml10_119 k8_dried e8_dried ck8 ok1.1 (⟨Nat.le_of_ble_eq_true rfl, Nat.le_of_ble_eq_true rfl⟩ : rOK B10_law B8_dried) rfl (Nat.le_of_ble_eq_true rfl) (Nat.le_of_ble_eq_true rfl) ⟨by show k + 0 ≤ room_1.cells; omega, by show n + 0 ≤ room_1.slots; omega⟩ rfl (wp_mono H (fun v9 M9 hq9 => ?_))
  clear H
  obtain ⟨r3, I1, L2, rfl, rfl, H⟩ := hq9
  show wp X B10_law 1389 [(0, .ref (X.2.2.2 50)), (1, .ref a1), (2, .ref a2), (3, .int x3)] [.int r3] (G, I1, L2) k n _
  refine wp_aload_n (z := 2) (i := 2) (r := (some a2)) 2 (by decide +kernel) rfl rfl ?_
  refine wp_aload_n (z := 0) (i := 0) (r := (some (X.2.2.2 50))) 0 (by decide +kernel) rfl rfl ?_
  refine wp_iload_n (z := 3) (i := 3) (x := x3) 3 (by decide +kernel) rfl rfl ?_
  refine wp_iconst (z := 1) (v := 1) (by decide +kernel) (by decide) ?_
  refine wp_iadd (by decide +kernel) ?_
  obtain ⟨o10, H⟩ := H
  refine wp_scrald (by decide +kernel) o10 ?_
  show wp X B10_law 1395 [(0, .ref (X.2.2.2 50)), (1, .ref a1), (2, .ref a2), (3, .int x3)] [.int (scr X (x3 + 1)), .ref a2, .int r3] (G, I1, L2) k n _
  refine wp_aload_n (z := 0) (i := 0) (r := (some (X.2.2.2 50))) 0 (by decide +kernel) rfl rfl ?_
  refine wp_iload_n (z := 3) (i := 3) (x := x3) 3 (by decide +kernel) rfl rfl ?_
  refine wp_iconst (z := 2) (v := 2) (by decide +kernel) (by decide) ?_
  refine wp_iadd (by decide +kernel) ?_
  obtain ⟨o9, H⟩ := H
  refine wp_scrald (by decide +kernel) o9 ?_
  show wp X B10_law 1400 [(0, .ref (X.2.2.2 50)), (1, .ref a1), (2, .ref a2), (3, .int x3)] [.int (scr X (x3 + 2)), .int (scr X (x3 + 1)), .ref a2, .int r3] (G, I1, L2) k n _
  refine wp_aload_n (z := 0) (i := 0) (r := (some (X.2.2.2 50))) 0 (by decide +kernel) rfl rfl ?_
  refine wp_iload_n (z := 3) (i := 3) (x := x3) 3 (by decide +kernel) rfl rfl ?_
  refine wp_iconst (z := 3) (v := 3) (by decide +kernel) (by decide) ?_
  refine wp_iadd (by decide +kernel) ?_
  obtain ⟨o8, H⟩ := H
  refine wp_scrald (by decide +kernel) o8 ?_
  show wp X B10_law 1405 [(0, .ref (X.2.2.2 50)), (1, .ref a1), (2, .ref a2), (3, .int x3)] [.int (scr X (x3 + 3)), .int (scr X (x3 + 2)), .int (scr X (x3 + 1)), .ref a2, .int r3] (G, I1, L2) k n _
  refine wp_callV (idx := 122) (B2 := B9_dried) (As := [.int (scr X (x3 + 1)), .int (scr X (x3 + 2)), .int (scr X (x3 + 3))]) (a := a2) (st := [.int r3]) (by decide +kernel) m9_dried ml10_122 k9_dried e9_dried ck9 ok2.1 (⟨Nat.le_of_ble_eq_true rfl, Nat.le_of_ble_eq_true rfl⟩ : rOK B10_law B9_dried) rfl (Nat.le_of_ble_eq_true rfl) (Nat.le_of_ble_eq_true rfl) ⟨by show k + 0 ≤ room_1.cells; omega, by show n + 0 ≤ room_1.slots; omega⟩ rfl (wp_mono H (fun v9 M9 hq9 => ?_))
  clear H
  obtain ⟨r6, I4, L5, rfl, rfl, H⟩ := hq9
  show wp X B10_law 1408 [(0, .ref (X.2.2.2 50)), (1, .ref a1), (2, .ref a2), (3, .int x3)] [.int r6, .int r3] (G, I4, L5) k n _
  refine wp_icmp_eq (off := 431) (tgt := 1839) (by decide +kernel) (by decide) (fun c7 => ?_) (fun c7 => ?_)
  · rw [if_pos c7] at H
    refine wp_iinc (i := 3) (z := 6) (v := 6) (lv' := [(3, .int (x3 + 6)), (0, .ref (X.2.2.2 50)), (1, .ref a1), (2, .ref a2)]) 3 (by decide +kernel) rfl (by decide) (by decide) rfl ?_
    refine wp_goto (off := -1824) (tgt := 18) (by decide +kernel) (by decide) ?_
    exact wp_sub [1, 2, 3, 0] rfl H
  · rw [if_neg c7] at H
    refine wp_iconst (z := 0) (v := 0) (by decide +kernel) (by decide) ?_
    exact wp_zret (by decide +kernel) rfl (by decide) (by show k ≤ room_1.cells; omega) (by show n ≤ room_1.slots; omega) ⟨_, rfl, H⟩
