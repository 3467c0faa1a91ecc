/-! DeafWall.bestOfFour(IZ)I -/
set_option maxRecDepth 20000 in
theorem b8_bestOfFour {X : XX} {G : GG} {I : Nat → Nat → Int32} {L : Nat → Nat → Int64} {h : Nat} {x1 : Int32} {x2 : Int32} {Q : Int32 → (Nat → Nat → Int32) → (Nat → Nat → Int64) → Prop} (ok : OK8 G h) (H : wpI X B8_bestOfFour 9 [(0, .ref h), (1, .int x1), (2, .int x2), (3, .int (4 * x1)), (4, .int ((4 * x1) + 1))] [] G I L Q) : wpI X B8_bestOfFour 0 [(0, .ref h), (1, .int x1), (2, .int x2)] [] G I L Q := by
  refine wp_iconst (z := 4) (v := 4) (by decide +kernel) (by decide) ?_
  refine wp_iload_n (z := 1) (i := 1) (x := x1) 1 (by decide +kernel) rfl rfl ?_
  refine wp_imul (by decide +kernel) ?_
  refine wp_istore_n (z := 3) (i := 3) (lv' := [(3, .int (4 * x1)), (0, .ref h), (1, .int x1), (2, .int x2)]) (by decide +kernel) rfl (by decide) rfl ?_
  refine wp_iload_n (z := 3) (i := 3) (x := (4 * x1)) 0 (by decide +kernel) rfl rfl ?_
  refine wp_iconst (z := 1) (v := 1) (by decide +kernel) (by decide) ?_
  refine wp_iadd (by decide +kernel) ?_
  refine wp_istore (i := 4) (lv' := [(4, .int ((4 * x1) + 1)), (3, .int (4 * x1)), (0, .ref h), (1, .int x1), (2, .int x2)]) (by decide +kernel) (by decide) rfl ?_
  exact wp_sub [2, 3, 4, 1, 0] rfl H
set_option maxRecDepth 20000 in
theorem b8_bestOfFour_9 {X : XX} {G : GG} {I : Nat → Nat → Int32} {L : Nat → Nat → Int64} {h : Nat} {x1 : Int32} {x2 : Int32} {x3 : Int32} {x4 : Int32} {Q : Int32 → (Nat → Nat → Int32) → (Nat → Nat → Int64) → Prop} (ok : OK8 G h) (H : if (4 * (x1 + 1)) ≤ x4 then (Q x3 I L) else (if 256 ≤ x4 then (Q x3 I L) else (if x2 = (0 : Int32) then (vp_in x4 256 ∧ (vp_in x3 256 ∧ (if (I (h + 62) (cl x3)) ≤ (I (h + 62) (cl x4)) then (wpI X B8_bestOfFour 9 [(0, .ref h), (1, .int x1), (2, .int x2), (3, .int x3), (4, .int (x4 + 1))] [] G I L Q) else (wpI X B8_bestOfFour 9 [(0, .ref h), (1, .int x1), (2, .int x2), (3, .int x4), (4, .int (x4 + 1))] [] G I L Q)))) else (vp_in x4 256 ∧ (vp_in x3 256 ∧ (if (I (h + 62) (cl x4)) ≤ (I (h + 62) (cl x3)) then (wpI X B8_bestOfFour 9 [(0, .ref h), (1, .int x1), (2, .int x2), (3, .int x3), (4, .int (x4 + 1))] [] G I L Q) else (wpI X B8_bestOfFour 9 [(0, .ref h), (1, .int x1), (2, .int x2), (3, .int x4), (4, .int (x4 + 1))] [] G I L Q))))))) : wpI X B8_bestOfFour 9 [(0, .ref h), (1, .int x1), (2, .int x2), (3, .int x3), (4, .int x4)] [] G I L Q := by
  refine wp_iload (i := 4) (x := x4) 4 (by decide +kernel) rfl ?_
  refine wp_iconst (z := 4) (v := 4) (by decide +kernel) (by decide) ?_
  refine wp_iload_n (z := 1) (i := 1) (x := x1) 1 (by decide +kernel) rfl rfl ?_
  refine wp_iconst (z := 1) (v := 1) (by decide +kernel) (by decide) ?_
  refine wp_iadd (by decide +kernel) ?_
  refine wp_imul (by decide +kernel) ?_
  refine wp_icmp_ge (off := 61) (tgt := 77) (by decide +kernel) (by decide) (fun c1 => ?_) (fun c1 => ?_)
  · rw [if_pos c1] at H
    refine wp_iload_n (z := 3) (i := 3) (x := x3) 3 (by decide +kernel) rfl rfl ?_
    exact wp_iret (by decide +kernel) rfl (Nat.zero_le _) (Nat.zero_le _) ⟨_, _, _, rfl, rfl, H⟩
  · rw [if_neg c1] at H
    refine wp_iload (i := 4) (x := x4) 4 (by decide +kernel) rfl ?_
    refine wp_aload_n (z := 0) (i := 0) (r := (some h)) 0 (by decide +kernel) rfl rfl ?_
    refine wp_getS (idx := 61) (q := (h + 62)) (by decide +kernel) fl8_61 rfl ok.1 (okr8_10 ok) ?_
    refine wp_alen (v := 256) (by decide +kernel) (oks8_10 ok) (by decide) (by decide) ?_
    refine wp_icmp_ge (off := 51) (tgt := 77) (by decide +kernel) (by decide) (fun c2 => ?_) (fun c2 => ?_)
    · rw [if_pos c2] at H
      refine wp_iload_n (z := 3) (i := 3) (x := x3) 3 (by decide +kernel) rfl rfl ?_
      exact wp_iret (by decide +kernel) rfl (Nat.zero_le _) (Nat.zero_le _) ⟨_, _, _, rfl, rfl, H⟩
    · rw [if_neg c2] at H
      refine wp_iload_n (z := 2) (i := 2) (x := x2) 2 (by decide +kernel) rfl rfl ?_
      refine wp_if_eq (off := 22) (tgt := 52) (by decide +kernel) (by decide) (fun c3 => ?_) (fun c3 => ?_)
      · rw [if_pos c3] at H
        refine wp_aload_n (z := 0) (i := 0) (r := (some h)) 0 (by decide +kernel) rfl rfl ?_
        refine wp_getS (idx := 61) (q := (h + 62)) (by decide +kernel) fl8_61 rfl ok.1 (okr8_10 ok) ?_
        refine wp_iload (i := 4) (x := x4) 4 (by decide +kernel) rfl ?_
        obtain ⟨o6, H⟩ := H
        refine wp_iald (j := (cl x4)) (by decide +kernel) (oks8_10 ok) o6 rfl ?_
        refine wp_aload_n (z := 0) (i := 0) (r := (some h)) 0 (by decide +kernel) rfl rfl ?_
        refine wp_getS (idx := 61) (q := (h + 62)) (by decide +kernel) fl8_61 rfl ok.1 (okr8_10 ok) ?_
        refine wp_iload_n (z := 3) (i := 3) (x := x3) 3 (by decide +kernel) rfl rfl ?_
        obtain ⟨o5, H⟩ := H
        refine wp_iald (j := (cl x3)) (by decide +kernel) (oks8_10 ok) o5 rfl ?_
        refine wp_icmp_ge (off := 6) (tgt := 71) (by decide +kernel) (by decide) (fun c4 => ?_) (fun c4 => ?_)
        · rw [if_pos c4] at H
          refine wp_iinc (i := 4) (z := 1) (v := 1) (lv' := [(4, .int (x4 + 1)), (0, .ref h), (1, .int x1), (2, .int x2), (3, .int x3)]) 4 (by decide +kernel) rfl (by decide) (by decide) rfl ?_
          refine wp_goto (off := -65) (tgt := 9) (by decide +kernel) (by decide) ?_
          exact wp_sub [1, 2, 3, 4, 0] rfl H
        · rw [if_neg c4] at H
          refine wp_iload (i := 4) (x := x4) 4 (by decide +kernel) rfl ?_
          refine wp_istore_n (z := 3) (i := 3) (lv' := [(3, .int x4), (0, .ref h), (1, .int x1), (2, .int x2), (4, .int x4)]) (by decide +kernel) rfl (by decide) rfl ?_
          refine wp_iinc (i := 4) (z := 1) (v := 1) (lv' := [(4, .int (x4 + 1)), (3, .int x4), (0, .ref h), (1, .int x1), (2, .int x2)]) 4 (by decide +kernel) rfl (by decide) (by decide) rfl ?_
          refine wp_goto (off := -65) (tgt := 9) (by decide +kernel) (by decide) ?_
          exact wp_sub [2, 3, 4, 1, 0] rfl H
      · rw [if_neg c3] at H
        refine wp_aload_n (z := 0) (i := 0) (r := (some h)) 0 (by decide +kernel) rfl rfl ?_
        refine wp_getS (idx := 61) (q := (h + 62)) (by decide +kernel) fl8_61 rfl ok.1 (okr8_10 ok) ?_
        refine wp_iload (i := 4) (x := x4) 4 (by decide +kernel) rfl ?_
        obtain ⟨o9, H⟩ := H
        refine wp_iald (j := (cl x4)) (by decide +kernel) (oks8_10 ok) o9 rfl ?_
        refine wp_aload_n (z := 0) (i := 0) (r := (some h)) 0 (by decide +kernel) rfl rfl ?_
        refine wp_getS (idx := 61) (q := (h + 62)) (by decide +kernel) fl8_61 rfl ok.1 (okr8_10 ok) ?_
        refine wp_iload_n (z := 3) (i := 3) (x := x3) 3 (by decide +kernel) rfl rfl ?_
        obtain ⟨o8, H⟩ := H
        refine wp_iald (j := (cl x3)) (by decide +kernel) (oks8_10 ok) o8 rfl ?_
        refine wp_icmp_le (off := 25) (tgt := 71) (by decide +kernel) (by decide) (fun c7 => ?_) (fun c7 => ?_)
        · rw [if_pos c7] at H
          refine wp_iinc (i := 4) (z := 1) (v := 1) (lv' := [(4, .int (x4 + 1)), (0, .ref h), (1, .int x1), (2, .int x2), (3, .int x3)]) 4 (by decide +kernel) rfl (by decide) (by decide) rfl ?_
          refine wp_goto (off := -65) (tgt := 9) (by decide +kernel) (by decide) ?_
          exact wp_sub [1, 2, 3, 4, 0] rfl H
        · rw [if_neg c7] at H
          refine wp_goto (off := 19) (tgt := 68) (by decide +kernel) (by decide) ?_
          refine wp_iload (i := 4) (x := x4) 4 (by decide +kernel) rfl ?_
          refine wp_istore_n (z := 3) (i := 3) (lv' := [(3, .int x4), (0, .ref h), (1, .int x1), (2, .int x2), (4, .int x4)]) (by decide +kernel) rfl (by decide) rfl ?_
          refine wp_iinc (i := 4) (z := 1) (v := 1) (lv' := [(4, .int (x4 + 1)), (3, .int x4), (0, .ref h), (1, .int x1), (2, .int x2)]) 4 (by decide +kernel) rfl (by decide) (by decide) rfl ?_
          refine wp_goto (off := -65) (tgt := 9) (by decide +kernel) (by decide) ?_
          exact wp_sub [2, 3, 4, 1, 0] rfl H
/-! DeafWall.duet(IIIIZ)I -/
set_option maxRecDepth 20000 in
theorem b8_duet {X : XX} {G : GG} {I : Nat → Nat → Int32} {L : Nat → Nat → Int64} {h : Nat} {x1 : Int32} {x2 : Int32} {x3 : Int32} {x4 : Int32} {x5 : Int32} {Q : Int32 → (Nat → Nat → Int32) → (Nat → Nat → Int64) → Prop} (ok : OK8 G h) (H : wpR X B8_wallAt 0 [(0, .ref h), (1, .int x1)] [] G I L (fun r3 I1 L2 => (r3 = none → Q (-99) I1 L2) ∧ (∀ q5, r3 = some q5 → OK7 G q5 ∧ (if (v8_areTwo I1 q5 x2 x3) = (0 : Int32) then (Q (-99) I1 L2) else (if x4 < (0 : Int32) then (Q (-99) I1 L2) else (if x4 ≤ 4 then (if x4 = (0 : Int32) then (if x5 = (0 : Int32) then (Q 0 I1 L2) else (Q (-1) I1 L2)) else (wpV X B8_hearDuet 0 [(0, .ref h), (1, .ref q5), (2, .int x2), (3, .int x3)] [] G I1 L2 (fun I11 L12 => wpI X B8_duet 63 [(0, .ref h), (4, .int x4), (5, .int x5), (7, .int 0)] [] G I11 L12 Q))) else (Q (-99) I1 L2))))))) : wpI X B8_duet 0 [(0, .ref h), (1, .int x1), (2, .int x2), (3, .int x3), (4, .int x4), (5, .int x5)] [] G I L Q := by
  refine wp_aload_n (z := 0) (i := 0) (r := (some h)) 0 (by decide +kernel) rfl rfl ?_
  refine wp_iload_n (z := 1) (i := 1) (x := x1) 1 (by decide +kernel) rfl rfl ?_
  refine wp_callV (idx := 129) (B2 := B8_wallAt) (As := [.int x1]) (a := h) (st := []) (by decide +kernel) m8_wallAt ml8_129 k8_wallAt e8_wallAt ck8 ok.1 (⟨Nat.le_of_ble_eq_true rfl, Nat.le_of_ble_eq_true rfl⟩ : rOK B8_duet B8_wallAt) rfl (Nat.le_of_ble_eq_true rfl) (Nat.le_of_ble_eq_true rfl) ⟨Nat.le_of_ble_eq_true rfl, Nat.le_of_ble_eq_true rfl⟩ rfl (wp_mono H (fun v9 M9 hq9 => ?_))
  clear H
  obtain ⟨r3, I1, L2, rfl, rfl, H⟩ := hq9
  show wp X B8_duet 5 [(0, .ref h), (1, .int x1), (2, .int x2), (3, .int x3), (4, .int x4), (5, .int x5)] [va_rf r3] (G, I1, L2) 0 0 _
  refine wp_astore (i := 6) (lv' := [(6, va_rf r3), (0, .ref h), (1, .int x1), (2, .int x2), (3, .int x3), (4, .int x4), (5, .int x5)]) (r := r3) (by decide +kernel) (by decide) (by cases r3 <;> rfl) ?_
  refine wp_aload (i := 6) (r := r3) 0 (by decide +kernel) rfl ?_
  refine wp_ifnull (off := 24) (tgt := 33) (r := r3) (by decide +kernel) (by decide) (fun c4 => ?_) (fun q5 c4 => ?_)
  · replace H := H.1 c4
    subst c4
    show wp X B8_duet 33 [(6, .null), (0, .ref h), (1, .int x1), (2, .int x2), (3, .int x3), (4, .int x4), (5, .int x5)] [] (G, I1, L2) 0 0 _
    refine wp_bipush (z := -99) (v := (-99)) (by decide +kernel) (by decide) ?_
    exact wp_iret (by decide +kernel) rfl (Nat.zero_le _) (Nat.zero_le _) ⟨_, _, _, rfl, rfl, H⟩
  · replace H := H.2 q5 c4
    subst c4
    show wp X B8_duet 12 [(6, .ref q5), (0, .ref h), (1, .int x1), (2, .int x2), (3, .int x3), (4, .int x4), (5, .int x5)] [] (G, I1, L2) 0 0 _
    refine wp_aload (i := 6) (r := (some q5)) 0 (by decide +kernel) rfl ?_
    refine wp_iload_n (z := 2) (i := 2) (x := x2) 3 (by decide +kernel) rfl rfl ?_
    refine wp_iload_n (z := 3) (i := 3) (x := x3) 4 (by decide +kernel) rfl rfl ?_
    obtain ⟨f6, H⟩ := H
    refine wp_callS (idx := 310) (B2 := B8_areTwo) (As := [.ref q5, .int x2, .int x3]) (st := []) (by decide +kernel) m8_areTwo ml8_310 k8_areTwo (⟨Nat.le_of_ble_eq_true rfl, Nat.le_of_ble_eq_true rfl⟩ : rOK B8_duet B8_areTwo) rfl (Nat.le_of_ble_eq_true rfl) (Nat.le_of_ble_eq_true rfl) ⟨Nat.le_of_ble_eq_true rfl, Nat.le_of_ble_eq_true rfl⟩ rfl (wp_mono (b8_areTwo (Q := (fun r I' L' => r = (v8_areTwo I1 q5 x2 x3) ∧ I1 = I' ∧ L2 = L')) f6 ⟨rfl, rfl, rfl⟩) (fun v9 M9 hq9 => ?_))
    obtain ⟨_, _, _, rfl, rfl, rfl, rfl, rfl⟩ := hq9
    show wp X B8_duet 19 [(6, .ref q5), (0, .ref h), (1, .int x1), (2, .int x2), (3, .int x3), (4, .int x4), (5, .int x5)] [.int (v8_areTwo I1 q5 x2 x3)] (G, I1, L2) 0 0 _
    refine wp_if_eq (off := 14) (tgt := 33) (by decide +kernel) (by decide) (fun c7 => ?_) (fun c7 => ?_)
    · rw [if_pos c7] at H
      refine wp_bipush (z := -99) (v := (-99)) (by decide +kernel) (by decide) ?_
      exact wp_iret (by decide +kernel) rfl (Nat.zero_le _) (Nat.zero_le _) ⟨_, _, _, rfl, rfl, H⟩
    · rw [if_neg c7] at H
      refine wp_iload (i := 4) (x := x4) 5 (by decide +kernel) rfl ?_
      refine wp_if_lt (off := 9) (tgt := 33) (by decide +kernel) (by decide) (fun c8 => ?_) (fun c8 => ?_)
      · rw [if_pos c8] at H
        refine wp_bipush (z := -99) (v := (-99)) (by decide +kernel) (by decide) ?_
        exact wp_iret (by decide +kernel) rfl (Nat.zero_le _) (Nat.zero_le _) ⟨_, _, _, rfl, rfl, H⟩
      · rw [if_neg c8] at H
        refine wp_iload (i := 4) (x := x4) 5 (by decide +kernel) rfl ?_
        refine wp_iconst (z := 4) (v := 4) (by decide +kernel) (by decide) ?_
        refine wp_icmp_le (off := 6) (tgt := 36) (by decide +kernel) (by decide) (fun c9 => ?_) (fun c9 => ?_)
        · rw [if_pos c9] at H
          refine wp_iload (i := 4) (x := x4) 5 (by decide +kernel) rfl ?_
          refine wp_if_ne (off := 14) (tgt := 52) (by decide +kernel) (by decide) (fun c10 => ?_) (fun c10 => ?_)
          · rw [if_neg c10] at H
            refine wp_aload_n (z := 0) (i := 0) (r := (some h)) 1 (by decide +kernel) rfl rfl ?_
            refine wp_aload (i := 6) (r := (some q5)) 0 (by decide +kernel) rfl ?_
            refine wp_iload_n (z := 2) (i := 2) (x := x2) 3 (by decide +kernel) rfl rfl ?_
            refine wp_iload_n (z := 3) (i := 3) (x := x3) 4 (by decide +kernel) rfl rfl ?_
            refine wp_callV (idx := 338) (B2 := B8_hearDuet) (As := [.ref q5, .int x2, .int x3]) (a := h) (st := []) (by decide +kernel) m8_hearDuet ml8_338 k8_hearDuet e8_hearDuet ck8 ok.1 (⟨Nat.le_of_ble_eq_true rfl, Nat.le_of_ble_eq_true rfl⟩ : rOK B8_duet B8_hearDuet) rfl (Nat.le_of_ble_eq_true rfl) (Nat.le_of_ble_eq_true rfl) ⟨Nat.le_of_ble_eq_true rfl, Nat.le_of_ble_eq_true rfl⟩ rfl (wp_mono H (fun v9 M9 hq9 => ?_))
            clear H
            obtain ⟨I11, L12, rfl, rfl, H⟩ := hq9
            show wp X B8_duet 60 [(6, .ref q5), (0, .ref h), (1, .int x1), (2, .int x2), (3, .int x3), (4, .int x4), (5, .int x5)] [] (G, I11, L12) 0 0 _
            refine wp_iconst (z := 0) (v := 0) (by decide +kernel) (by decide) ?_
            refine wp_istore (i := 7) (lv' := [(7, .int 0), (6, .ref q5), (0, .ref h), (1, .int x1), (2, .int x2), (3, .int x3), (4, .int x4), (5, .int x5)]) (by decide +kernel) (by decide) rfl ?_
            exact wp_sub [2, 6, 7, 0] rfl H
          · rw [if_pos c10] at H
            refine wp_iload (i := 5) (x := x5) 6 (by decide +kernel) rfl ?_
            refine wp_if_eq (off := 7) (tgt := 50) (by decide +kernel) (by decide) (fun c14 => ?_) (fun c14 => ?_)
            · rw [if_pos c14] at H
              refine wp_iconst (z := 0) (v := 0) (by decide +kernel) (by decide) ?_
              exact wp_iret (by decide +kernel) rfl (Nat.zero_le _) (Nat.zero_le _) ⟨_, _, _, rfl, rfl, H⟩
            · rw [if_neg c14] at H
              refine wp_iconst (z := -1) (v := (-1)) (by decide +kernel) (by decide) ?_
              refine wp_goto (off := 4) (tgt := 51) (by decide +kernel) (by decide) ?_
              exact wp_iret (by decide +kernel) rfl (Nat.zero_le _) (Nat.zero_le _) ⟨_, _, _, rfl, rfl, H⟩
        · rw [if_neg c9] at H
          refine wp_bipush (z := -99) (v := (-99)) (by decide +kernel) (by decide) ?_
          exact wp_iret (by decide +kernel) rfl (Nat.zero_le _) (Nat.zero_le _) ⟨_, _, _, rfl, rfl, H⟩
set_option maxRecDepth 20000 in
theorem b8_duet_63 {X : XX} {G : GG} {I : Nat → Nat → Int32} {L : Nat → Nat → Int64} {h : Nat} {x4 : Int32} {x5 : Int32} {x7 : Int32} {Q : Int32 → (Nat → Nat → Int32) → (Nat → Nat → Int64) → Prop} (ok : OK8 G h) (H : if ((1 : Int32) <<< ((2 * x4) &&& 31)) ≤ x7 then (wpI X B8_duet 101 [(0, .ref h), (5, .int x5), (7, .int (x4 - 1))] [] G I L Q) else (wpI X B8_gain 0 [(0, .ref h), (1, .int x7), (2, .int x4)] [] G I L (fun r4 I2 L3 => vp_in x7 256 ∧ (∀ I5, I5 = up2 I2 (h + 62) (cl x7) r4 → wpI X B8_duet 63 [(0, .ref h), (4, .int x4), (5, .int x5), (7, .int (x7 + 1))] [] G I5 L3 Q)))) : wpI X B8_duet 63 [(0, .ref h), (4, .int x4), (5, .int x5), (7, .int x7)] [] G I L Q := by
  refine wp_iload (i := 7) (x := x7) 3 (by decide +kernel) rfl ?_
  refine wp_iconst (z := 1) (v := 1) (by decide +kernel) (by decide) ?_
  refine wp_iconst (z := 2) (v := 2) (by decide +kernel) (by decide) ?_
  refine wp_iload (i := 4) (x := x4) 1 (by decide +kernel) rfl ?_
  refine wp_imul (by decide +kernel) ?_
  refine wp_ishl (by decide +kernel) ?_
  refine wp_icmp_ge (off := 24) (tgt := 95) (by decide +kernel) (by decide) (fun c1 => ?_) (fun c1 => ?_)
  · rw [if_pos c1] at H
    refine wp_iload (i := 4) (x := x4) 1 (by decide +kernel) rfl ?_
    refine wp_iconst (z := 1) (v := 1) (by decide +kernel) (by decide) ?_
    refine wp_isub (by decide +kernel) ?_
    refine wp_istore (i := 7) (lv' := [(7, .int (x4 - 1)), (0, .ref h), (4, .int x4), (5, .int x5)]) (by decide +kernel) (by decide) rfl ?_
    exact wp_sub [1, 3, 0] rfl H
  · rw [if_neg c1] at H
    refine wp_aload_n (z := 0) (i := 0) (r := (some h)) 0 (by decide +kernel) rfl rfl ?_
    refine wp_getS (idx := 61) (q := (h + 62)) (by decide +kernel) fl8_61 rfl ok.1 (okr8_10 ok) ?_
    refine wp_iload (i := 7) (x := x7) 3 (by decide +kernel) rfl ?_
    refine wp_aload_n (z := 0) (i := 0) (r := (some h)) 0 (by decide +kernel) rfl rfl ?_
    refine wp_iload (i := 7) (x := x7) 3 (by decide +kernel) rfl ?_
    refine wp_iload (i := 4) (x := x4) 1 (by decide +kernel) rfl ?_
    refine wp_callV (idx := 341) (B2 := B8_gain) (As := [.int x7, .int x4]) (a := h) (st := [.int x7, .ref (h + 62)]) (by decide +kernel) m8_gain ml8_341 k8_gain e8_gain ck8 ok.1 (⟨Nat.le_of_ble_eq_true rfl, Nat.le_of_ble_eq_true rfl⟩ : rOK B8_duet B8_gain) rfl (Nat.le_of_ble_eq_true rfl) (Nat.le_of_ble_eq_true rfl) ⟨Nat.le_of_ble_eq_true rfl, Nat.le_of_ble_eq_true rfl⟩ rfl (wp_mono H (fun v9 M9 hq9 => ?_))
    clear H
    obtain ⟨r4, I2, L3, rfl, rfl, H⟩ := hq9
    show wp X B8_duet 88 [(0, .ref h), (4, .int x4), (5, .int x5), (7, .int x7)] [.int r4, .int x7, .ref (h + 62)] (G, I2, L3) 0 0 _
    obtain ⟨o6, H⟩ := H
    refine wp_iast (j := (cl x7)) (by decide +kernel) (oks8_10 ok) o6 rfl ?_
    refine wp_memI (fun I5 eI5 => ?_)
    replace H := H I5 eI5
    refine wp_iinc (i := 7) (z := 1) (v := 1) (lv' := [(7, .int (x7 + 1)), (0, .ref h), (4, .int x4), (5, .int x5)]) 3 (by decide +kernel) rfl (by decide) (by decide) rfl ?_
    refine wp_goto (off := -29) (tgt := 63) (by decide +kernel) (by decide) ?_
    exact wp_sub [1, 2, 3, 0] rfl H
set_option maxRecDepth 20000 in
theorem b8_duet_101 {X : XX} {G : GG} {I : Nat → Nat → Int32} {L : Nat → Nat → Int64} {h : Nat} {x5 : Int32} {x7 : Int32} {Q : Int32 → (Nat → Nat → Int32) → (Nat → Nat → Int64) → Prop} (ok : OK8 G h) (H : if x7 ≤ (0 : Int32) then (wpI X B8_bestOfFour 0 [(0, .ref h), (1, .int 0), (2, .int 1)] [] G I L (fun r4 I2 L3 => if x5 = (0 : Int32) then (vp_in r4 256 ∧ (Q (I2 (h + 62) (cl r4)) I2 L3)) else (Q (3 * r4) I2 L3))) else (wpI X B8_duet 109 [(0, .ref h), (5, .int x5), (7, .int x7), (8, .int 0)] [] G I L Q)) : wpI X B8_duet 101 [(0, .ref h), (5, .int x5), (7, .int x7)] [] G I L Q := by
  refine wp_iload (i := 7) (x := x7) 2 (by decide +kernel) rfl ?_
  refine wp_if_le (off := 59) (tgt := 162) (by decide +kernel) (by decide) (fun c1 => ?_) (fun c1 => ?_)
  · rw [if_pos c1] at H
    refine wp_aload_n (z := 0) (i := 0) (r := (some h)) 0 (by decide +kernel) rfl rfl ?_
    refine wp_iconst (z := 0) (v := 0) (by decide +kernel) (by decide) ?_
    refine wp_iconst (z := 1) (v := 1) (by decide +kernel) (by decide) ?_
    refine wp_callV (idx := 344) (B2 := B8_bestOfFour) (As := [.int 0, .int 1]) (a := h) (st := []) (by decide +kernel) m8_bestOfFour ml8_344 k8_bestOfFour e8_bestOfFour ck8 ok.1 (⟨Nat.le_of_ble_eq_true rfl, Nat.le_of_ble_eq_true rfl⟩ : rOK B8_duet B8_bestOfFour) rfl (Nat.le_of_ble_eq_true rfl) (Nat.le_of_ble_eq_true rfl) ⟨Nat.le_of_ble_eq_true rfl, Nat.le_of_ble_eq_true rfl⟩ rfl (wp_mono H (fun v9 M9 hq9 => ?_))
    clear H
    obtain ⟨r4, I2, L3, rfl, rfl, H⟩ := hq9
    show wp X B8_duet 168 [(0, .ref h), (5, .int x5), (7, .int x7)] [.int r4] (G, I2, L3) 0 0 _
    refine wp_istore (i := 7) (lv' := [(7, .int r4), (0, .ref h), (5, .int x5)]) (by decide +kernel) (by decide) rfl ?_
    refine wp_iload (i := 5) (x := x5) 2 (by decide +kernel) rfl ?_
    refine wp_if_eq (off := 10) (tgt := 182) (by decide +kernel) (by decide) (fun c5 => ?_) (fun c5 => ?_)
    · rw [if_pos c5] at H
      refine wp_aload_n (z := 0) (i := 0) (r := (some h)) 1 (by decide +kernel) rfl rfl ?_
      refine wp_getS (idx := 61) (q := (h + 62)) (by decide +kernel) fl8_61 rfl ok.1 (okr8_10 ok) ?_
      refine wp_iload (i := 7) (x := r4) 0 (by decide +kernel) rfl ?_
      obtain ⟨o6, H⟩ := H
      refine wp_iald (j := (cl r4)) (by decide +kernel) (oks8_10 ok) o6 rfl ?_
      exact wp_iret (by decide +kernel) rfl (Nat.zero_le _) (Nat.zero_le _) ⟨_, _, _, rfl, rfl, H⟩
    · rw [if_neg c5] at H
      refine wp_iconst (z := 3) (v := 3) (by decide +kernel) (by decide) ?_
      refine wp_iload (i := 7) (x := r4) 0 (by decide +kernel) rfl ?_
      refine wp_imul (by decide +kernel) ?_
      refine wp_goto (off := 10) (tgt := 189) (by decide +kernel) (by decide) ?_
      exact wp_iret (by decide +kernel) rfl (Nat.zero_le _) (Nat.zero_le _) ⟨_, _, _, rfl, rfl, H⟩
  · rw [if_neg c1] at H
    refine wp_iconst (z := 0) (v := 0) (by decide +kernel) (by decide) ?_
    refine wp_istore (i := 8) (lv' := [(8, .int 0), (0, .ref h), (5, .int x5), (7, .int x7)]) (by decide +kernel) (by decide) rfl ?_
    exact wp_sub [1, 2, 3, 0] rfl H
set_option maxRecDepth 20000 in
theorem b8_duet_109 {X : XX} {G : GG} {I : Nat → Nat → Int32} {L : Nat → Nat → Int64} {h : Nat} {x5 : Int32} {x7 : Int32} {x8 : Int32} {Q : Int32 → (Nat → Nat → Int32) → (Nat → Nat → Int64) → Prop} (ok : OK8 G h) (H : if ((1 : Int32) <<< ((2 * x7) &&& 31)) ≤ x8 then (wpI X B8_duet 101 [(0, .ref h), (5, .int x5), (7, .int (x7 + (-1)))] [] G I L Q) else (if (x7 - x7 / 2 * 2) = (0 : Int32) then (wpI X B8_bestOfFour 0 [(0, .ref h), (1, .int x8), (2, .int 1)] [] G I L (fun r11 I9 L10 => vp_in r11 256 ∧ (vp_in x8 256 ∧ (∀ I12, I12 = up2 I9 (h + 62) (cl x8) (I9 (h + 62) (cl r11)) → wpI X B8_duet 109 [(0, .ref h), (5, .int x5), (7, .int x7), (8, .int (x8 + 1))] [] G I12 L10 Q)))) else (wpI X B8_bestOfFour 0 [(0, .ref h), (1, .int x8), (2, .int 0)] [] G I L (fun r5 I3 L4 => vp_in r5 256 ∧ (vp_in x8 256 ∧ (∀ I6, I6 = up2 I3 (h + 62) (cl x8) (I3 (h + 62) (cl r5)) → wpI X B8_duet 109 [(0, .ref h), (5, .int x5), (7, .int x7), (8, .int (x8 + 1))] [] G I6 L4 Q)))))) : wpI X B8_duet 109 [(0, .ref h), (5, .int x5), (7, .int x7), (8, .int x8)] [] G I L Q := by
  refine wp_iload (i := 8) (x := x8) 3 (by decide +kernel) rfl ?_
  refine wp_iconst (z := 1) (v := 1) (by decide +kernel) (by decide) ?_
  refine wp_iconst (z := 2) (v := 2) (by decide +kernel) (by decide) ?_
  refine wp_iload (i := 7) (x := x7) 2 (by decide +kernel) rfl ?_
  refine wp_imul (by decide +kernel) ?_
  refine wp_ishl (by decide +kernel) ?_
  refine wp_icmp_ge (off := 39) (tgt := 156) (by decide +kernel) (by decide) (fun c1 => ?_) (fun c1 => ?_)
  · rw [if_pos c1] at H
    refine wp_iinc (i := 7) (z := -1) (v := (-1)) (lv' := [(7, .int (x7 + (-1))), (0, .ref h), (5, .int x5), (8, .int x8)]) 2 (by decide +kernel) rfl (by decide) (by decide) rfl ?_
    refine wp_goto (off := -58) (tgt := 101) (by decide +kernel) (by decide) ?_
    exact wp_sub [1, 2, 0] rfl H
  · rw [if_neg c1] at H
    refine wp_aload_n (z := 0) (i := 0) (r := (some h)) 0 (by decide +kernel) rfl rfl ?_
    refine wp_getS (idx := 61) (q := (h + 62)) (by decide +kernel) fl8_61 rfl ok.1 (okr8_10 ok) ?_
    refine wp_iload (i := 8) (x := x8) 3 (by decide +kernel) rfl ?_
    refine wp_aload_n (z := 0) (i := 0) (r := (some h)) 0 (by decide +kernel) rfl rfl ?_
    refine wp_getS (idx := 61) (q := (h + 62)) (by decide +kernel) fl8_61 rfl ok.1 (okr8_10 ok) ?_
    refine wp_aload_n (z := 0) (i := 0) (r := (some h)) 0 (by decide +kernel) rfl rfl ?_
    refine wp_iload (i := 8) (x := x8) 3 (by decide +kernel) rfl ?_
    refine wp_iload (i := 7) (x := x7) 2 (by decide +kernel) rfl ?_
    refine wp_iconst (z := 2) (v := 2) (by decide +kernel) (by decide) ?_
    refine wp_irem (by decide +kernel) (by decide) ?_
    refine wp_if_ne (off := 7) (tgt := 144) (by decide +kernel) (by decide) (fun c2 => ?_) (fun c2 => ?_)
    · rw [if_neg c2] at H
      refine wp_iconst (z := 0) (v := 0) (by decide +kernel) (by decide) ?_
      refine wp_callV (idx := 344) (B2 := B8_bestOfFour) (As := [.int x8, .int 0]) (a := h) (st := [.ref (h + 62), .int x8, .ref (h + 62)]) (by decide +kernel) m8_bestOfFour ml8_344 k8_bestOfFour e8_bestOfFour ck8 ok.1 (⟨Nat.le_of_ble_eq_true rfl, Nat.le_of_ble_eq_true rfl⟩ : rOK B8_duet B8_bestOfFour) rfl (Nat.le_of_ble_eq_true rfl) (Nat.le_of_ble_eq_true rfl) ⟨Nat.le_of_ble_eq_true rfl, Nat.le_of_ble_eq_true rfl⟩ rfl (wp_mono H (fun v9 M9 hq9 => ?_))
      clear H
      obtain ⟨r5, I3, L4, rfl, rfl, H⟩ := hq9
      show wp X B8_duet 148 [(0, .ref h), (5, .int x5), (7, .int x7), (8, .int x8)] [.int r5, .ref (h + 62), .int x8, .ref (h + 62)] (G, I3, L4) 0 0 _
      obtain ⟨o8, H⟩ := H
      refine wp_iald (j := (cl r5)) (by decide +kernel) (oks8_10 ok) o8 rfl ?_
      obtain ⟨o7, H⟩ := H
      refine wp_iast (j := (cl x8)) (by decide +kernel) (oks8_10 ok) o7 rfl ?_
      refine wp_memI (fun I6 eI6 => ?_)
      replace H := H I6 eI6
      refine wp_iinc (i := 8) (z := 1) (v := 1) (lv' := [(8, .int (x8 + 1)), (0, .ref h), (5, .int x5), (7, .int x7)]) 3 (by decide +kernel) rfl (by decide) (by decide) rfl ?_
      refine wp_goto (off := -44) (tgt := 109) (by decide +kernel) (by decide) ?_
      exact wp_sub [1, 2, 3, 0] rfl H
    · rw [if_pos c2] at H
      refine wp_iconst (z := 1) (v := 1) (by decide +kernel) (by decide) ?_
      refine wp_goto (off := 4) (tgt := 145) (by decide +kernel) (by decide) ?_
      refine wp_callV (idx := 344) (B2 := B8_bestOfFour) (As := [.int x8, .int 1]) (a := h) (st := [.ref (h + 62), .int x8, .ref (h + 62)]) (by decide +kernel) m8_bestOfFour ml8_344 k8_bestOfFour e8_bestOfFour ck8 ok.1 (⟨Nat.le_of_ble_eq_true rfl, Nat.le_of_ble_eq_true rfl⟩ : rOK B8_duet B8_bestOfFour) rfl (Nat.le_of_ble_eq_true rfl) (Nat.le_of_ble_eq_true rfl) ⟨Nat.le_of_ble_eq_true rfl, Nat.le_of_ble_eq_true rfl⟩ rfl (wp_mono H (fun v9 M9 hq9 => ?_))
      clear H
      obtain ⟨r11, I9, L10, rfl, rfl, H⟩ := hq9
      show wp X B8_duet 148 [(0, .ref h), (5, .int x5), (7, .int x7), (8, .int x8)] [.int r11, .ref (h + 62), .int x8, .ref (h + 62)] (G, I9, L10) 0 0 _
      obtain ⟨o14, H⟩ := H
      refine wp_iald (j := (cl r11)) (by decide +kernel) (oks8_10 ok) o14 rfl ?_
      obtain ⟨o13, H⟩ := H
      refine wp_iast (j := (cl x8)) (by decide +kernel) (oks8_10 ok) o13 rfl ?_
      refine wp_memI (fun I12 eI12 => ?_)
      replace H := H I12 eI12
      refine wp_iinc (i := 8) (z := 1) (v := 1) (lv' := [(8, .int (x8 + 1)), (0, .ref h), (5, .int x5), (7, .int x7)]) 3 (by decide +kernel) rfl (by decide) (by decide) rfl ?_
      refine wp_goto (off := -44) (tgt := 109) (by decide +kernel) (by decide) ?_
      exact wp_sub [1, 2, 3, 0] rfl H
/-! DeafWall.weaken(II)V -/
set_option maxRecDepth 20000 in
theorem b8_weaken {X : XX} {G : GG} {I : Nat → Nat → Int32} {L : Nat → Nat → Int64} {h : Nat} {x1 : Int32} {x2 : Int32} {Q : (Nat → Nat → Int32) → (Nat → Nat → Int64) → Prop} (ok : OK8 G h) (H : wpV X B18_fillJ 0 [(0, .ref (h + 65)), (1, .long 0)] [] G I L (fun I1 L2 => ∀ L4, L4 = up2 L2 (h + 65) 9 1 → wpV X B8_weaken 18 [(0, .ref h), (1, .int x1), (2, .int x2), (3, .int 0)] [] G I1 L4 Q)) : wpV X B8_weaken 0 [(0, .ref h), (1, .int x1), (2, .int x2)] [] G I L Q := by
  refine wp_aload_n (z := 0) (i := 0) (r := (some h)) 0 (by decide +kernel) rfl rfl ?_
  refine wp_getS (idx := 70) (q := (h + 65)) (by decide +kernel) fl8_70 rfl ok.1 (okr8_13 ok) ?_
  refine wp_lconst (z := 0) (v := 0) (by decide +kernel) (by decide) ?_
  refine wp_callS (idx := 358) (B2 := B18_fillJ) (As := [.ref (h + 65), .long 0]) (st := []) (by decide +kernel) m18_fillJ ml8_358 k18_fillJ (⟨Nat.le_of_ble_eq_true rfl, Nat.le_of_ble_eq_true rfl⟩ : rOK B8_weaken B18_fillJ) rfl (Nat.le_of_ble_eq_true rfl) (Nat.le_of_ble_eq_true rfl) ⟨Nat.le_of_ble_eq_true rfl, Nat.le_of_ble_eq_true rfl⟩ rfl (wp_mono H (fun v9 M9 hq9 => ?_))
  clear H
  obtain ⟨I1, L2, rfl, rfl, H⟩ := hq9
  show wp X B8_weaken 8 [(0, .ref h), (1, .int x1), (2, .int x2)] [] (G, I1, L2) 0 0 _
  refine wp_aload_n (z := 0) (i := 0) (r := (some h)) 0 (by decide +kernel) rfl rfl ?_
  refine wp_getS (idx := 70) (q := (h + 65)) (by decide +kernel) fl8_70 rfl ok.1 (okr8_13 ok) ?_
  refine wp_bipush (z := 9) (v := 9) (by decide +kernel) (by decide) ?_
  refine wp_lconst (z := 1) (v := 1) (by decide +kernel) (by decide) ?_
  refine wp_last (j := 9) (by decide +kernel) (oks8_13 ok) (vin_c (by decide)) (by decide) ?_
  refine wp_memL (fun L4 eL4 => ?_)
  replace H := H L4 eL4
  refine wp_iconst (z := 0) (v := 0) (by decide +kernel) (by decide) ?_
  refine wp_istore_n (z := 3) (i := 3) (lv' := [(3, .int 0), (0, .ref h), (1, .int x1), (2, .int x2)]) (by decide +kernel) rfl (by decide) rfl ?_
  exact wp_sub [1, 2, 3, 0] rfl H
set_option maxRecDepth 20000 in
theorem b8_weaken_18 {X : XX} {G : GG} {I : Nat → Nat → Int32} {L : Nat → Nat → Int64} {h : Nat} {x1 : Int32} {x2 : Int32} {x3 : Int32} {Q : (Nat → Nat → Int32) → (Nat → Nat → Int64) → Prop} (ok : OK8 G h) (H : if x2 ≤ x3 then (Q I L) else (∀ L2, L2 = up2 L (h + 65) 0 ((10 * (L (h + 65) 0)) + ((Int32.toInt64 x1) * (L (h + 65) 1))) → wpV X B8_weaken 52 [(0, .ref h), (1, .int x1), (2, .int x2), (3, .int x3), (4, .int 1)] [] G I L2 Q)) : wpV X B8_weaken 18 [(0, .ref h), (1, .int x1), (2, .int x2), (3, .int x3)] [] G I L Q := by
  refine wp_iload_n (z := 3) (i := 3) (x := x3) 3 (by decide +kernel) rfl rfl ?_
  refine wp_iload_n (z := 2) (i := 2) (x := x2) 2 (by decide +kernel) rfl rfl ?_
  refine wp_icmp_ge (off := 104) (tgt := 124) (by decide +kernel) (by decide) (fun c1 => ?_) (fun c1 => ?_)
  · rw [if_pos c1] at H
    exact wp_vret (by decide +kernel) rfl (Nat.zero_le _) (Nat.zero_le _) ⟨_, _, rfl, rfl, H⟩
  · rw [if_neg c1] at H
    refine wp_aload_n (z := 0) (i := 0) (r := (some h)) 0 (by decide +kernel) rfl rfl ?_
    refine wp_getS (idx := 70) (q := (h + 65)) (by decide +kernel) fl8_70 rfl ok.1 (okr8_13 ok) ?_
    refine wp_iconst (z := 0) (v := 0) (by decide +kernel) (by decide) ?_
    refine wp_ldc2 (idx := 364) (v := 10) (by decide +kernel) (in_g (List.mem_of_getElem? (i := 994) (by decide +kernel)) rfl) ?_
    refine wp_aload_n (z := 0) (i := 0) (r := (some h)) 0 (by decide +kernel) rfl rfl ?_
    refine wp_getS (idx := 70) (q := (h + 65)) (by decide +kernel) fl8_70 rfl ok.1 (okr8_13 ok) ?_
    refine wp_iconst (z := 0) (v := 0) (by decide +kernel) (by decide) ?_
    refine wp_lald (j := 0) (by decide +kernel) (oks8_13 ok) (vin_c (by decide)) (by decide) ?_
    refine wp_lmul (by decide +kernel) ?_
    refine wp_iload_n (z := 1) (i := 1) (x := x1) 1 (by decide +kernel) rfl rfl ?_
    refine wp_i2l (by decide +kernel) ?_
    refine wp_aload_n (z := 0) (i := 0) (r := (some h)) 0 (by decide +kernel) rfl rfl ?_
    refine wp_getS (idx := 70) (q := (h + 65)) (by decide +kernel) fl8_70 rfl ok.1 (okr8_13 ok) ?_
    refine wp_iconst (z := 1) (v := 1) (by decide +kernel) (by decide) ?_
    refine wp_lald (j := 1) (by decide +kernel) (oks8_13 ok) (vin_c (by decide)) (by decide) ?_
    refine wp_lmul (by decide +kernel) ?_
    refine wp_ladd (by decide +kernel) ?_
    refine wp_last (j := 0) (by decide +kernel) (oks8_13 ok) (vin_c (by decide)) (by decide) ?_
    refine wp_memL (fun L2 eL2 => ?_)
    replace H := H L2 eL2
    refine wp_iconst (z := 1) (v := 1) (by decide +kernel) (by decide) ?_
    refine wp_istore (i := 4) (lv' := [(4, .int 1), (0, .ref h), (1, .int x1), (2, .int x2), (3, .int x3)]) (by decide +kernel) (by decide) rfl ?_
    exact wp_sub [1, 2, 3, 4, 0] rfl H
set_option maxRecDepth 20000 in
theorem b8_weaken_52 {X : XX} {G : GG} {I : Nat → Nat → Int32} {L : Nat → Nat → Int64} {h : Nat} {x1 : Int32} {x2 : Int32} {x3 : Int32} {x4 : Int32} {Q : (Nat → Nat → Int32) → (Nat → Nat → Int64) → Prop} (ok : OK8 G h) (H : if 9 ≤ x4 then (∀ L2, L2 = up2 L (h + 65) 9 ((Int32.toInt64 (10 - x1)) * (L (h + 65) 9)) → wpV X B8_weaken 18 [(0, .ref h), (1, .int x1), (2, .int x2), (3, .int (x3 + 1))] [] G I L2 Q) else (vp_in x4 10 ∧ (vp_in (x4 + 1) 10 ∧ (vp_in x4 10 ∧ (∀ L3, L3 = up2 L (h + 65) (cl x4) (((Int32.toInt64 (10 - x1)) * (L (h + 65) (cl x4))) + ((Int32.toInt64 x1) * (L (h + 65) (cl (x4 + 1))))) → wpV X B8_weaken 52 [(0, .ref h), (1, .int x1), (2, .int x2), (3, .int x3), (4, .int (x4 + 1))] [] G I L3 Q))))) : wpV X B8_weaken 52 [(0, .ref h), (1, .int x1), (2, .int x2), (3, .int x3), (4, .int x4)] [] G I L Q := by
  refine wp_iload (i := 4) (x := x4) 4 (by decide +kernel) rfl ?_
  refine wp_bipush (z := 9) (v := 9) (by decide +kernel) (by decide) ?_
  refine wp_icmp_ge (off := 42) (tgt := 98) (by decide +kernel) (by decide) (fun c1 => ?_) (fun c1 => ?_)
  · rw [if_pos c1] at H
    refine wp_aload_n (z := 0) (i := 0) (r := (some h)) 0 (by decide +kernel) rfl rfl ?_
    refine wp_getS (idx := 70) (q := (h + 65)) (by decide +kernel) fl8_70 rfl ok.1 (okr8_13 ok) ?_
    refine wp_bipush (z := 9) (v := 9) (by decide +kernel) (by decide) ?_
    refine wp_bipush (z := 10) (v := 10) (by decide +kernel) (by decide) ?_
    refine wp_iload_n (z := 1) (i := 1) (x := x1) 1 (by decide +kernel) rfl rfl ?_
    refine wp_isub (by decide +kernel) ?_
    refine wp_i2l (by decide +kernel) ?_
    refine wp_aload_n (z := 0) (i := 0) (r := (some h)) 0 (by decide +kernel) rfl rfl ?_
    refine wp_getS (idx := 70) (q := (h + 65)) (by decide +kernel) fl8_70 rfl ok.1 (okr8_13 ok) ?_
    refine wp_bipush (z := 9) (v := 9) (by decide +kernel) (by decide) ?_
    refine wp_lald (j := 9) (by decide +kernel) (oks8_13 ok) (vin_c (by decide)) (by decide) ?_
    refine wp_lmul (by decide +kernel) ?_
    refine wp_last (j := 9) (by decide +kernel) (oks8_13 ok) (vin_c (by decide)) (by decide) ?_
    refine wp_memL (fun L2 eL2 => ?_)
    replace H := H L2 eL2
    refine wp_iinc (i := 3) (z := 1) (v := 1) (lv' := [(3, .int (x3 + 1)), (0, .ref h), (1, .int x1), (2, .int x2), (4, .int x4)]) 3 (by decide +kernel) rfl (by decide) (by decide) rfl ?_
    refine wp_goto (off := -103) (tgt := 18) (by decide +kernel) (by decide) ?_
    exact wp_sub [1, 2, 3, 0] rfl H
  · rw [if_neg c1] at H
    refine wp_aload_n (z := 0) (i := 0) (r := (some h)) 0 (by decide +kernel) rfl rfl ?_
    refine wp_getS (idx := 70) (q := (h + 65)) (by decide +kernel) fl8_70 rfl ok.1 (okr8_13 ok) ?_
    refine wp_iload (i := 4) (x := x4) 4 (by decide +kernel) rfl ?_
    refine wp_bipush (z := 10) (v := 10) (by decide +kernel) (by decide) ?_
    refine wp_iload_n (z := 1) (i := 1) (x := x1) 1 (by decide +kernel) rfl rfl ?_
    refine wp_isub (by decide +kernel) ?_
    refine wp_i2l (by decide +kernel) ?_
    refine wp_aload_n (z := 0) (i := 0) (r := (some h)) 0 (by decide +kernel) rfl rfl ?_
    refine wp_getS (idx := 70) (q := (h + 65)) (by decide +kernel) fl8_70 rfl ok.1 (okr8_13 ok) ?_
    refine wp_iload (i := 4) (x := x4) 4 (by decide +kernel) rfl ?_
    obtain ⟨o6, H⟩ := H
    refine wp_lald (j := (cl x4)) (by decide +kernel) (oks8_13 ok) o6 rfl ?_
    refine wp_lmul (by decide +kernel) ?_
    refine wp_iload_n (z := 1) (i := 1) (x := x1) 1 (by decide +kernel) rfl rfl ?_
    refine wp_i2l (by decide +kernel) ?_
    refine wp_aload_n (z := 0) (i := 0) (r := (some h)) 0 (by decide +kernel) rfl rfl ?_
    refine wp_getS (idx := 70) (q := (h + 65)) (by decide +kernel) fl8_70 rfl ok.1 (okr8_13 ok) ?_
    refine wp_iload (i := 4) (x := x4) 4 (by decide +kernel) rfl ?_
    refine wp_iconst (z := 1) (v := 1) (by decide +kernel) (by decide) ?_
    refine wp_iadd (by decide +kernel) ?_
    obtain ⟨o5, H⟩ := H
    refine wp_lald (j := (cl (x4 + 1))) (by decide +kernel) (oks8_13 ok) o5 rfl ?_
    refine wp_lmul (by decide +kernel) ?_
    refine wp_ladd (by decide +kernel) ?_
    obtain ⟨o4, H⟩ := H
    refine wp_last (j := (cl x4)) (by decide +kernel) (oks8_13 ok) o4 rfl ?_
    refine wp_memL (fun L3 eL3 => ?_)
    replace H := H L3 eL3
    refine wp_iinc (i := 4) (z := 1) (v := 1) (lv' := [(4, .int (x4 + 1)), (0, .ref h), (1, .int x1), (2, .int x2), (3, .int x3)]) 4 (by decide +kernel) rfl (by decide) (by decide) rfl ?_
    refine wp_goto (off := -43) (tgt := 52) (by decide +kernel) (by decide) ?_
    exact wp_sub [1, 2, 3, 4, 0] rfl H
/-! DeafWall.greatestDivisor(JJ)J -/
set_option maxRecDepth 20000 in
theorem b8_greatestDivisor {X : XX} {G : GG} {I : Nat → Nat → Int32} {L : Nat → Nat → Int64} {x0 : Int64} {x2 : Int64} {Q : Int64 → (Nat → Nat → Int32) → (Nat → Nat → Int64) → Prop}  (H : wpJ X B8_greatestDivisor 9 [(4, .long x0), (6, .long x2), (8, .int 0)] [] G I L Q) : wpJ X B8_greatestDivisor 0 [(0, .long x0), (2, .long x2)] [] G I L Q := by
  refine wp_lload_n (z := 0) (i := 0) (x := x0) 0 (by decide +kernel) rfl rfl ?_
  refine wp_lstore (i := 4) (lv' := [(4, .long x0), (0, .long x0), (2, .long x2)]) (by decide +kernel) (by decide) rfl ?_
  refine wp_lload_n (z := 2) (i := 2) (x := x2) 2 (by decide +kernel) rfl rfl ?_
  refine wp_lstore (i := 6) (lv' := [(6, .long x2), (4, .long x0), (0, .long x0), (2, .long x2)]) (by decide +kernel) (by decide) rfl ?_
  refine wp_iconst (z := 0) (v := 0) (by decide +kernel) (by decide) ?_
  refine wp_istore (i := 8) (lv' := [(8, .int 0), (6, .long x2), (4, .long x0), (0, .long x0), (2, .long x2)]) (by decide +kernel) (by decide) rfl ?_
  exact wp_sub [2, 1, 0] rfl H
set_option maxRecDepth 20000 in
theorem b8_greatestDivisor_9 {X : XX} {G : GG} {I : Nat → Nat → Int32} {L : Nat → Nat → Int64} {x4 : Int64} {x6 : Int64} {x8 : Int32} {Q : Int64 → (Nat → Nat → Int32) → (Nat → Nat → Int64) → Prop}  (H : if 200 ≤ x8 then (Q x4 I L) else (if (lg_cmp x6 0) = (0 : Int32) then (Q x4 I L) else (¬ x6 = 0 ∧ (∀ u3, u3 = (x4 - x4 / x6 * x6) → wpJ X B8_greatestDivisor 9 [(4, .long x6), (6, .long u3), (8, .int (x8 + 1))] [] G I L Q)))) : wpJ X B8_greatestDivisor 9 [(4, .long x4), (6, .long x6), (8, .int x8)] [] G I L Q := by
  refine wp_iload (i := 8) (x := x8) 2 (by decide +kernel) rfl ?_
  refine wp_sipush (z := 200) (v := 200) (by decide +kernel) (by decide) ?_
  refine wp_icmp_ge (off := 31) (tgt := 45) (by decide +kernel) (by decide) (fun c1 => ?_) (fun c1 => ?_)
  · rw [if_pos c1] at H
    refine wp_lload (i := 4) (x := x4) 0 (by decide +kernel) rfl ?_
    exact wp_lret (by decide +kernel) rfl (Nat.zero_le _) (Nat.zero_le _) ⟨_, _, _, rfl, rfl, H⟩
  · rw [if_neg c1] at H
    refine wp_lload (i := 6) (x := x6) 1 (by decide +kernel) rfl ?_
    refine wp_lconst (z := 0) (v := 0) (by decide +kernel) (by decide) ?_
    refine wp_lcmp (by decide +kernel) ?_
    refine wp_if_eq (off := 24) (tgt := 45) (by decide +kernel) (by decide) (fun c2 => ?_) (fun c2 => ?_)
    · rw [if_pos c2] at H
      refine wp_lload (i := 4) (x := x4) 0 (by decide +kernel) rfl ?_
      exact wp_lret (by decide +kernel) rfl (Nat.zero_le _) (Nat.zero_le _) ⟨_, _, _, rfl, rfl, H⟩
    · rw [if_neg c2] at H
      refine wp_lload (i := 4) (x := x4) 0 (by decide +kernel) rfl ?_
      refine wp_lload (i := 6) (x := x6) 1 (by decide +kernel) rfl ?_
      obtain ⟨o4, H⟩ := H
      refine wp_lrem (by decide +kernel) o4 ?_
      refine wp_topl (fun u3 eu3 => ?_)
      replace H := H u3 eu3
      refine wp_lstore (i := 9) (lv' := [(9, .long u3), (4, .long x4), (6, .long x6), (8, .int x8)]) (by decide +kernel) (by decide) rfl ?_
      refine wp_lload (i := 6) (x := x6) 2 (by decide +kernel) rfl ?_
      refine wp_lstore (i := 4) (lv' := [(4, .long x6), (9, .long u3), (6, .long x6), (8, .int x8)]) (by decide +kernel) (by decide) rfl ?_
      refine wp_lload (i := 9) (x := u3) 1 (by decide +kernel) rfl ?_
      refine wp_lstore (i := 6) (lv' := [(6, .long u3), (4, .long x6), (9, .long u3), (8, .int x8)]) (by decide +kernel) (by decide) rfl ?_
      refine wp_iinc (i := 8) (z := 1) (v := 1) (lv' := [(8, .int (x8 + 1)), (6, .long u3), (4, .long x6), (9, .long u3)]) 3 (by decide +kernel) rfl (by decide) (by decide) rfl ?_
      refine wp_goto (off := -33) (tgt := 9) (by decide +kernel) (by decide) ?_
      exact wp_sub [2, 1, 0] rfl H
/-! DeafWall.leastTerm(JJZ)J -/
set_option maxRecDepth 20000 in
theorem b8_leastTerm {X : XX} {G : GG} {I : Nat → Nat → Int32} {L : Nat → Nat → Int64} {x0 : Int64} {x2 : Int64} {x4 : Int32} {Q : Int64 → (Nat → Nat → Int32) → (Nat → Nat → Int64) → Prop}  (H : wpJ X B8_greatestDivisor 0 [(0, .long x0), (2, .long x2)] [] G I L (fun r3 I1 L2 => if (lg_cmp r3 0) = (0 : Int32) then (Q (-1) I1 L2) else (if x4 = (0 : Int32) then (¬ r3 = 0 ∧ (Q (x0 / r3) I1 L2)) else (¬ r3 = 0 ∧ (Q (x2 / r3) I1 L2))))) : wpJ X B8_leastTerm 0 [(0, .long x0), (2, .long x2), (4, .int x4)] [] G I L Q := by
  refine wp_lload_n (z := 0) (i := 0) (x := x0) 0 (by decide +kernel) rfl rfl ?_
  refine wp_lload_n (z := 2) (i := 2) (x := x2) 1 (by decide +kernel) rfl rfl ?_
  refine wp_callS (idx := 366) (B2 := B8_greatestDivisor) (As := [.long x0, .long x2]) (st := []) (by decide +kernel) m8_greatestDivisor ml8_366 k8_greatestDivisor (⟨Nat.le_of_ble_eq_true rfl, Nat.le_of_ble_eq_true rfl⟩ : rOK B8_leastTerm B8_greatestDivisor) rfl (Nat.le_of_ble_eq_true rfl) (Nat.le_of_ble_eq_true rfl) ⟨Nat.le_of_ble_eq_true rfl, Nat.le_of_ble_eq_true rfl⟩ rfl (wp_mono H (fun v9 M9 hq9 => ?_))
  clear H
  obtain ⟨r3, I1, L2, rfl, rfl, H⟩ := hq9
  show wp X B8_leastTerm 5 [(0, .long x0), (2, .long x2), (4, .int x4)] [.long r3] (G, I1, L2) 0 0 _
  refine wp_lstore (i := 5) (lv' := [(5, .long r3), (0, .long x0), (2, .long x2), (4, .int x4)]) (by decide +kernel) (by decide) rfl ?_
  refine wp_lload (i := 5) (x := r3) 0 (by decide +kernel) rfl ?_
  refine wp_lconst (z := 0) (v := 0) (by decide +kernel) (by decide) ?_
  refine wp_lcmp (by decide +kernel) ?_
  refine wp_if_ne (off := 7) (tgt := 18) (by decide +kernel) (by decide) (fun c4 => ?_) (fun c4 => ?_)
  · rw [if_neg c4] at H
    refine wp_iload (i := 4) (x := x4) 3 (by decide +kernel) rfl ?_
    refine wp_if_eq (off := 7) (tgt := 27) (by decide +kernel) (by decide) (fun c5 => ?_) (fun c5 => ?_)
    · rw [if_pos c5] at H
      refine wp_lload_n (z := 0) (i := 0) (x := x0) 1 (by decide +kernel) rfl rfl ?_
      refine wp_lload (i := 5) (x := r3) 0 (by decide +kernel) rfl ?_
      obtain ⟨o6, H⟩ := H
      refine wp_ldiv (by decide +kernel) o6 ?_
      exact wp_lret (by decide +kernel) rfl (Nat.zero_le _) (Nat.zero_le _) ⟨_, _, _, rfl, rfl, H⟩
    · rw [if_neg c5] at H
      refine wp_lload_n (z := 2) (i := 2) (x := x2) 2 (by decide +kernel) rfl rfl ?_
      refine wp_goto (off := 4) (tgt := 28) (by decide +kernel) (by decide) ?_
      refine wp_lload (i := 5) (x := r3) 0 (by decide +kernel) rfl ?_
      obtain ⟨o7, H⟩ := H
      refine wp_ldiv (by decide +kernel) o7 ?_
      exact wp_lret (by decide +kernel) rfl (Nat.zero_le _) (Nat.zero_le _) ⟨_, _, _, rfl, rfl, H⟩
  · rw [if_pos c4] at H
    refine wp_ldc2 (idx := 348) (v := (-1)) (by decide +kernel) (in_g (List.mem_of_getElem? (i := 986) (by decide +kernel)) rfl) ?_
    exact wp_lret (by decide +kernel) rfl (Nat.zero_le _) (Nat.zero_le _) ⟨_, _, _, rfl, rfl, H⟩
/-! DeafWall.arm(IIIIZ)J -/
set_option maxRecDepth 20000 in
theorem b8_arm {X : XX} {G : GG} {I : Nat → Nat → Int32} {L : Nat → Nat → Int64} {h : Nat} {x1 : Int32} {x2 : Int32} {x3 : Int32} {x4 : Int32} {x5 : Int32} {Q : Int64 → (Nat → Nat → Int32) → (Nat → Nat → Int64) → Prop} (ok : OK8 G h) (H : wpR X B8_wallAt 0 [(0, .ref h), (1, .int x1)] [] G I L (fun r3 I1 L2 => (r3 = none → Q (-1) I1 L2) ∧ (∀ q5, r3 = some q5 → OK7 G q5 ∧ (if (v7_hasFeeler I1 q5 x2) = (0 : Int32) then (Q (-1) I1 L2) else (if x3 < (0 : Int32) then (Q (-1) I1 L2) else (if 10 < x3 then (Q (-1) I1 L2) else (if x4 < (0 : Int32) then (Q (-1) I1 L2) else (if x4 ≤ 12 then (wpV X B1_sound 0 [(0, .ref (h + 24)), (1, .ref q5)] [] G I1 L2 (fun I12 L13 => wpI X B8_leastPush 0 [(0, .ref h), (1, .ref q5), (2, .int x2)] [] G I12 L13 (fun r17 I15 L16 => wpV X B8_weaken 0 [(0, .ref h), (1, .int x3), (2, .int x4)] [] G I15 L16 (fun I18 L19 => wpJ X B8_arm 81 [(0, .ref h), (5, .int x5), (7, .int r17), (8, .long 0), (10, .long 0), (12, .int 0)] [] G I18 L19 Q)))) else (Q (-1) I1 L2))))))))) : wpJ X B8_arm 0 [(0, .ref h), (1, .int x1), (2, .int x2), (3, .int x3), (4, .int x4), (5, .int x5)] [] G I L Q := by
  refine wp_aload_n (z := 0) (i := 0) (r := (some h)) 0 (by decide +kernel) rfl rfl ?_
  refine wp_iload_n (z := 1) (i := 1) (x := x1) 1 (by decide +kernel) rfl rfl ?_
  refine wp_callV (idx := 129) (B2 := B8_wallAt) (As := [.int x1]) (a := h) (st := []) (by decide +kernel) m8_wallAt ml8_129 k8_wallAt e8_wallAt ck8 ok.1 (⟨Nat.le_of_ble_eq_true rfl, Nat.le_of_ble_eq_true rfl⟩ : rOK B8_arm B8_wallAt) rfl (Nat.le_of_ble_eq_true rfl) (Nat.le_of_ble_eq_true rfl) ⟨Nat.le_of_ble_eq_true rfl, Nat.le_of_ble_eq_true rfl⟩ rfl (wp_mono H (fun v9 M9 hq9 => ?_))
  clear H
  obtain ⟨r3, I1, L2, rfl, rfl, H⟩ := hq9
  show wp X B8_arm 5 [(0, .ref h), (1, .int x1), (2, .int x2), (3, .int x3), (4, .int x4), (5, .int x5)] [va_rf r3] (G, I1, L2) 0 0 _
  refine wp_astore (i := 6) (lv' := [(6, va_rf r3), (0, .ref h), (1, .int x1), (2, .int x2), (3, .int x3), (4, .int x4), (5, .int x5)]) (r := r3) (by decide +kernel) (by decide) (by cases r3 <;> rfl) ?_
  refine wp_aload (i := 6) (r := r3) 0 (by decide +kernel) rfl ?_
  refine wp_ifnull (off := 34) (tgt := 43) (r := r3) (by decide +kernel) (by decide) (fun c4 => ?_) (fun q5 c4 => ?_)
  · replace H := H.1 c4
    subst c4
    show wp X B8_arm 43 [(6, .null), (0, .ref h), (1, .int x1), (2, .int x2), (3, .int x3), (4, .int x4), (5, .int x5)] [] (G, I1, L2) 0 0 _
    refine wp_ldc2 (idx := 348) (v := (-1)) (by decide +kernel) (in_g (List.mem_of_getElem? (i := 986) (by decide +kernel)) rfl) ?_
    exact wp_lret (by decide +kernel) rfl (Nat.zero_le _) (Nat.zero_le _) ⟨_, _, _, rfl, rfl, H⟩
  · replace H := H.2 q5 c4
    subst c4
    show wp X B8_arm 12 [(6, .ref q5), (0, .ref h), (1, .int x1), (2, .int x2), (3, .int x3), (4, .int x4), (5, .int x5)] [] (G, I1, L2) 0 0 _
    refine wp_aload (i := 6) (r := (some q5)) 0 (by decide +kernel) rfl ?_
    refine wp_iload_n (z := 2) (i := 2) (x := x2) 3 (by decide +kernel) rfl rfl ?_
    obtain ⟨f6, H⟩ := H
    refine wp_callV (idx := 151) (B2 := B7_hasFeeler) (As := [.int x2]) (a := q5) (st := []) (by decide +kernel) m7_hasFeeler ml8_151 k7_hasFeeler e7_hasFeeler ck7 f6.1 (⟨Nat.le_of_ble_eq_true rfl, Nat.le_of_ble_eq_true rfl⟩ : rOK B8_arm B7_hasFeeler) rfl (Nat.le_of_ble_eq_true rfl) (Nat.le_of_ble_eq_true rfl) ⟨Nat.le_of_ble_eq_true rfl, Nat.le_of_ble_eq_true rfl⟩ rfl (wp_mono (b7_hasFeeler (Q := (fun r I' L' => r = (v7_hasFeeler I1 q5 x2) ∧ I1 = I' ∧ L2 = L')) f6 ⟨rfl, rfl, rfl⟩) (fun v9 M9 hq9 => ?_))
    obtain ⟨_, _, _, rfl, rfl, rfl, rfl, rfl⟩ := hq9
    show wp X B8_arm 18 [(6, .ref q5), (0, .ref h), (1, .int x1), (2, .int x2), (3, .int x3), (4, .int x4), (5, .int x5)] [.int (v7_hasFeeler I1 q5 x2)] (G, I1, L2) 0 0 _
    refine wp_if_eq (off := 25) (tgt := 43) (by decide +kernel) (by decide) (fun c7 => ?_) (fun c7 => ?_)
    · rw [if_pos c7] at H
      refine wp_ldc2 (idx := 348) (v := (-1)) (by decide +kernel) (in_g (List.mem_of_getElem? (i := 986) (by decide +kernel)) rfl) ?_
      exact wp_lret (by decide +kernel) rfl (Nat.zero_le _) (Nat.zero_le _) ⟨_, _, _, rfl, rfl, H⟩
    · rw [if_neg c7] at H
      refine wp_iload_n (z := 3) (i := 3) (x := x3) 4 (by decide +kernel) rfl rfl ?_
      refine wp_if_lt (off := 21) (tgt := 43) (by decide +kernel) (by decide) (fun c8 => ?_) (fun c8 => ?_)
      · rw [if_pos c8] at H
        refine wp_ldc2 (idx := 348) (v := (-1)) (by decide +kernel) (in_g (List.mem_of_getElem? (i := 986) (by decide +kernel)) rfl) ?_
        exact wp_lret (by decide +kernel) rfl (Nat.zero_le _) (Nat.zero_le _) ⟨_, _, _, rfl, rfl, H⟩
      · rw [if_neg c8] at H
        refine wp_iload_n (z := 3) (i := 3) (x := x3) 4 (by decide +kernel) rfl rfl ?_
        refine wp_bipush (z := 10) (v := 10) (by decide +kernel) (by decide) ?_
        refine wp_icmp_gt (off := 15) (tgt := 43) (by decide +kernel) (by decide) (fun c9 => ?_) (fun c9 => ?_)
        · rw [if_pos c9] at H
          refine wp_ldc2 (idx := 348) (v := (-1)) (by decide +kernel) (in_g (List.mem_of_getElem? (i := 986) (by decide +kernel)) rfl) ?_
          exact wp_lret (by decide +kernel) rfl (Nat.zero_le _) (Nat.zero_le _) ⟨_, _, _, rfl, rfl, H⟩
        · rw [if_neg c9] at H
          refine wp_iload (i := 4) (x := x4) 5 (by decide +kernel) rfl ?_
          refine wp_if_lt (off := 10) (tgt := 43) (by decide +kernel) (by decide) (fun c10 => ?_) (fun c10 => ?_)
          · rw [if_pos c10] at H
            refine wp_ldc2 (idx := 348) (v := (-1)) (by decide +kernel) (in_g (List.mem_of_getElem? (i := 986) (by decide +kernel)) rfl) ?_
            exact wp_lret (by decide +kernel) rfl (Nat.zero_le _) (Nat.zero_le _) ⟨_, _, _, rfl, rfl, H⟩
          · rw [if_neg c10] at H
            refine wp_iload (i := 4) (x := x4) 5 (by decide +kernel) rfl ?_
            refine wp_bipush (z := 12) (v := 12) (by decide +kernel) (by decide) ?_
            refine wp_icmp_le (off := 7) (tgt := 47) (by decide +kernel) (by decide) (fun c11 => ?_) (fun c11 => ?_)
            · rw [if_pos c11] at H
              refine wp_aload_n (z := 0) (i := 0) (r := (some h)) 1 (by decide +kernel) rfl rfl ?_
              refine wp_getS (idx := 37) (q := (h + 24)) (by decide +kernel) fl8_37 rfl ok.1 (okr8_4 ok) ?_
              refine wp_aload (i := 6) (r := (some q5)) 0 (by decide +kernel) rfl ?_
              refine wp_callV (idx := 281) (B2 := B1_sound) (As := [.ref q5]) (a := (h + 24)) (st := []) (by decide +kernel) m1_sound ml8_281 k1_sound e1_sound ck1 (oko8_4 ok).1 (⟨Nat.le_of_ble_eq_true rfl, Nat.le_of_ble_eq_true rfl⟩ : rOK B8_arm B1_sound) rfl (Nat.le_of_ble_eq_true rfl) (Nat.le_of_ble_eq_true rfl) ⟨Nat.le_of_ble_eq_true rfl, Nat.le_of_ble_eq_true rfl⟩ rfl (wp_mono H (fun v9 M9 hq9 => ?_))
              clear H
              obtain ⟨I12, L13, rfl, rfl, H⟩ := hq9
              show wp X B8_arm 56 [(6, .ref q5), (0, .ref h), (1, .int x1), (2, .int x2), (3, .int x3), (4, .int x4), (5, .int x5)] [] (G, I12, L13) 0 0 _
              refine wp_aload_n (z := 0) (i := 0) (r := (some h)) 1 (by decide +kernel) rfl rfl ?_
              refine wp_aload (i := 6) (r := (some q5)) 0 (by decide +kernel) rfl ?_
              refine wp_iload_n (z := 2) (i := 2) (x := x2) 3 (by decide +kernel) rfl rfl ?_
              refine wp_callV (idx := 314) (B2 := B8_leastPush) (As := [.ref q5, .int x2]) (a := h) (st := []) (by decide +kernel) m8_leastPush ml8_314 k8_leastPush e8_leastPush ck8 ok.1 (⟨Nat.le_of_ble_eq_true rfl, Nat.le_of_ble_eq_true rfl⟩ : rOK B8_arm B8_leastPush) rfl (Nat.le_of_ble_eq_true rfl) (Nat.le_of_ble_eq_true rfl) ⟨Nat.le_of_ble_eq_true rfl, Nat.le_of_ble_eq_true rfl⟩ rfl (wp_mono H (fun v9 M9 hq9 => ?_))
              clear H
              obtain ⟨r17, I15, L16, rfl, rfl, H⟩ := hq9
              show wp X B8_arm 63 [(6, .ref q5), (0, .ref h), (1, .int x1), (2, .int x2), (3, .int x3), (4, .int x4), (5, .int x5)] [.int r17] (G, I15, L16) 0 0 _
              refine wp_istore (i := 7) (lv' := [(7, .int r17), (6, .ref q5), (0, .ref h), (1, .int x1), (2, .int x2), (3, .int x3), (4, .int x4), (5, .int x5)]) (by decide +kernel) (by decide) rfl ?_
              refine wp_aload_n (z := 0) (i := 0) (r := (some h)) 2 (by decide +kernel) rfl rfl ?_
              refine wp_iload_n (z := 3) (i := 3) (x := x3) 5 (by decide +kernel) rfl rfl ?_
              refine wp_iload (i := 4) (x := x4) 6 (by decide +kernel) rfl ?_
              refine wp_callV (idx := 350) (B2 := B8_weaken) (As := [.int x3, .int x4]) (a := h) (st := []) (by decide +kernel) m8_weaken ml8_350 k8_weaken e8_weaken ck8 ok.1 (⟨Nat.le_of_ble_eq_true rfl, Nat.le_of_ble_eq_true rfl⟩ : rOK B8_arm B8_weaken) rfl (Nat.le_of_ble_eq_true rfl) (Nat.le_of_ble_eq_true rfl) ⟨Nat.le_of_ble_eq_true rfl, Nat.le_of_ble_eq_true rfl⟩ rfl (wp_mono H (fun v9 M9 hq9 => ?_))
              clear H
              obtain ⟨I18, L19, rfl, rfl, H⟩ := hq9
              show wp X B8_arm 72 [(7, .int r17), (6, .ref q5), (0, .ref h), (1, .int x1), (2, .int x2), (3, .int x3), (4, .int x4), (5, .int x5)] [] (G, I18, L19) 0 0 _
              refine wp_lconst (z := 0) (v := 0) (by decide +kernel) (by decide) ?_
              refine wp_lstore (i := 8) (lv' := [(8, .long 0), (7, .int r17), (6, .ref q5), (0, .ref h), (1, .int x1), (2, .int x2), (3, .int x3), (4, .int x4), (5, .int x5)]) (by decide +kernel) (by decide) rfl ?_
              refine wp_lconst (z := 0) (v := 0) (by decide +kernel) (by decide) ?_
              refine wp_lstore (i := 10) (lv' := [(10, .long 0), (8, .long 0), (7, .int r17), (6, .ref q5), (0, .ref h), (1, .int x1), (2, .int x2), (3, .int x3), (4, .int x4), (5, .int x5)]) (by decide +kernel) (by decide) rfl ?_
              refine wp_iconst (z := 0) (v := 0) (by decide +kernel) (by decide) ?_
              refine wp_istore (i := 12) (lv' := [(12, .int 0), (10, .long 0), (8, .long 0), (7, .int r17), (6, .ref q5), (0, .ref h), (1, .int x1), (2, .int x2), (3, .int x3), (4, .int x4), (5, .int x5)]) (by decide +kernel) (by decide) rfl ?_
              exact wp_sub [5, 10, 3, 2, 1, 0] rfl H
            · rw [if_neg c11] at H
              refine wp_ldc2 (idx := 348) (v := (-1)) (by decide +kernel) (in_g (List.mem_of_getElem? (i := 986) (by decide +kernel)) rfl) ?_
              exact wp_lret (by decide +kernel) rfl (Nat.zero_le _) (Nat.zero_le _) ⟨_, _, _, rfl, rfl, H⟩
set_option maxRecDepth 20000 in
theorem b8_arm_81 {X : XX} {G : GG} {I : Nat → Nat → Int32} {L : Nat → Nat → Int64} {h : Nat} {x5 : Int32} {x7 : Int32} {x8 : Int64} {x10 : Int64} {x12 : Int32} {Q : Int64 → (Nat → Nat → Int32) → (Nat → Nat → Int64) → Prop} (ok : OK8 G h) (H : if 9 < x12 then (wpJ X B8_leastTerm 0 [(0, .long x8), (2, .long x10), (4, .int x5)] [] G I L (fun r4 I2 L3 => Q r4 I2 L3)) else (vp_in x12 10 ∧ (∀ u5, u5 = (x10 + (L (h + 65) (cl x12))) → if x7 = (-1) then (wpJ X B8_arm 81 [(0, .ref h), (5, .int x5), (7, .int x7), (8, .long x8), (10, .long u5), (12, .int (x12 + 1))] [] G I L Q) else (if x12 < x7 then (wpJ X B8_arm 81 [(0, .ref h), (5, .int x5), (7, .int x7), (8, .long x8), (10, .long u5), (12, .int (x12 + 1))] [] G I L Q) else (vp_in x12 10 ∧ (∀ u8, u8 = (x8 + (L (h + 65) (cl x12))) → wpJ X B8_arm 81 [(0, .ref h), (5, .int x5), (7, .int x7), (8, .long u8), (10, .long u5), (12, .int (x12 + 1))] [] G I L Q)))))) : wpJ X B8_arm 81 [(0, .ref h), (5, .int x5), (7, .int x7), (8, .long x8), (10, .long x10), (12, .int x12)] [] G I L Q := by
  refine wp_iload (i := 12) (x := x12) 5 (by decide +kernel) rfl ?_
  refine wp_bipush (z := 9) (v := 9) (by decide +kernel) (by decide) ?_
  refine wp_icmp_gt (off := 46) (tgt := 131) (by decide +kernel) (by decide) (fun c1 => ?_) (fun c1 => ?_)
  · rw [if_pos c1] at H
    refine wp_lload (i := 8) (x := x8) 3 (by decide +kernel) rfl ?_
    refine wp_lload (i := 10) (x := x10) 4 (by decide +kernel) rfl ?_
    refine wp_iload (i := 5) (x := x5) 1 (by decide +kernel) rfl ?_
    refine wp_callS (idx := 354) (B2 := B8_leastTerm) (As := [.long x8, .long x10, .int x5]) (st := []) (by decide +kernel) m8_leastTerm ml8_354 k8_leastTerm (⟨Nat.le_of_ble_eq_true rfl, Nat.le_of_ble_eq_true rfl⟩ : rOK B8_arm B8_leastTerm) rfl (Nat.le_of_ble_eq_true rfl) (Nat.le_of_ble_eq_true rfl) ⟨Nat.le_of_ble_eq_true rfl, Nat.le_of_ble_eq_true rfl⟩ rfl (wp_mono H (fun v9 M9 hq9 => ?_))
    clear H
    obtain ⟨r4, I2, L3, rfl, rfl, H⟩ := hq9
    show wp X B8_arm 140 [(0, .ref h), (5, .int x5), (7, .int x7), (8, .long x8), (10, .long x10), (12, .int x12)] [.long r4] (G, I2, L3) 0 0 _
    exact wp_lret (by decide +kernel) rfl (Nat.zero_le _) (Nat.zero_le _) ⟨_, _, _, rfl, rfl, H⟩
  · rw [if_neg c1] at H
    refine wp_lload (i := 10) (x := x10) 4 (by decide +kernel) rfl ?_
    refine wp_aload_n (z := 0) (i := 0) (r := (some h)) 0 (by decide +kernel) rfl rfl ?_
    refine wp_getS (idx := 70) (q := (h + 65)) (by decide +kernel) fl8_70 rfl ok.1 (okr8_13 ok) ?_
    refine wp_iload (i := 12) (x := x12) 5 (by decide +kernel) rfl ?_
    obtain ⟨o10, H⟩ := H
    refine wp_lald (j := (cl x12)) (by decide +kernel) (oks8_13 ok) o10 rfl ?_
    refine wp_ladd (by decide +kernel) ?_
    refine wp_topl (fun u5 eu5 => ?_)
    replace H := H u5 eu5
    refine wp_lstore (i := 10) (lv' := [(10, .long u5), (0, .ref h), (5, .int x5), (7, .int x7), (8, .long x8), (12, .int x12)]) (by decide +kernel) (by decide) rfl ?_
    refine wp_iload (i := 7) (x := x7) 3 (by decide +kernel) rfl ?_
    refine wp_iconst (z := -1) (v := (-1)) (by decide +kernel) (by decide) ?_
    refine wp_icmp_eq (off := 22) (tgt := 125) (by decide +kernel) (by decide) (fun c6 => ?_) (fun c6 => ?_)
    · rw [if_pos c6] at H
      refine wp_iinc (i := 12) (z := 1) (v := 1) (lv' := [(12, .int (x12 + 1)), (10, .long u5), (0, .ref h), (5, .int x5), (7, .int x7), (8, .long x8)]) 5 (by decide +kernel) rfl (by decide) (by decide) rfl ?_
      refine wp_goto (off := -47) (tgt := 81) (by decide +kernel) (by decide) ?_
      exact wp_sub [2, 3, 4, 5, 1, 0] rfl H
    · rw [if_neg c6] at H
      refine wp_iload (i := 12) (x := x12) 5 (by decide +kernel) rfl ?_
      refine wp_iload (i := 7) (x := x7) 3 (by decide +kernel) rfl ?_
      refine wp_icmp_lt (off := 15) (tgt := 125) (by decide +kernel) (by decide) (fun c7 => ?_) (fun c7 => ?_)
      · rw [if_pos c7] at H
        refine wp_iinc (i := 12) (z := 1) (v := 1) (lv' := [(12, .int (x12 + 1)), (10, .long u5), (0, .ref h), (5, .int x5), (7, .int x7), (8, .long x8)]) 5 (by decide +kernel) rfl (by decide) (by decide) rfl ?_
        refine wp_goto (off := -47) (tgt := 81) (by decide +kernel) (by decide) ?_
        exact wp_sub [2, 3, 4, 5, 1, 0] rfl H
      · rw [if_neg c7] at H
        refine wp_lload (i := 8) (x := x8) 4 (by decide +kernel) rfl ?_
        refine wp_aload_n (z := 0) (i := 0) (r := (some h)) 1 (by decide +kernel) rfl rfl ?_
        refine wp_getS (idx := 70) (q := (h + 65)) (by decide +kernel) fl8_70 rfl ok.1 (okr8_13 ok) ?_
        refine wp_iload (i := 12) (x := x12) 5 (by decide +kernel) rfl ?_
        obtain ⟨o9, H⟩ := H
        refine wp_lald (j := (cl x12)) (by decide +kernel) (oks8_13 ok) o9 rfl ?_
        refine wp_ladd (by decide +kernel) ?_
        refine wp_topl (fun u8 eu8 => ?_)
        replace H := H u8 eu8
        refine wp_lstore (i := 8) (lv' := [(8, .long u8), (10, .long u5), (0, .ref h), (5, .int x5), (7, .int x7), (12, .int x12)]) (by decide +kernel) (by decide) rfl ?_
        refine wp_iinc (i := 12) (z := 1) (v := 1) (lv' := [(12, .int (x12 + 1)), (8, .long u8), (10, .long u5), (0, .ref h), (5, .int x5), (7, .int x7)]) 5 (by decide +kernel) rfl (by decide) (by decide) rfl ?_
        refine wp_goto (off := -47) (tgt := 81) (by decide +kernel) (by decide) ?_
        exact wp_sub [3, 4, 5, 1, 2, 0] rfl H
/-! DeafWall.lay(II)Z -/
set_option maxRecDepth 20000 in
theorem b8_lay {X : XX} {G : GG} {I : Nat → Nat → Int32} {L : Nat → Nat → Int64} {h : Nat} {x1 : Int32} {x2 : Int32} {Q : Int32 → (Nat → Nat → Int32) → (Nat → Nat → Int64) → Prop} (ok : OK8 G h) (H : if x1 ≤ (0 : Int32) then (Q 0 I L) else (if 128 ≤ x1 then (Q 0 I L) else (vp_in x1 128 ∧ (if x2 < (I (h + 67) (cl x1)) then (vp_in x1 128 ∧ (∀ I4, I4 = up2 I (h + 67) (cl x1) x2 → Q 1 I4 L)) else (Q 0 I L))))) : wpI X B8_lay 0 [(0, .ref h), (1, .int x1), (2, .int x2)] [] G I L Q := by
  refine wp_iload_n (z := 1) (i := 1) (x := x1) 1 (by decide +kernel) rfl rfl ?_
  refine wp_if_le (off := 22) (tgt := 23) (by decide +kernel) (by decide) (fun c1 => ?_) (fun c1 => ?_)
  · rw [if_pos c1] at H
    refine wp_iconst (z := 0) (v := 0) (by decide +kernel) (by decide) ?_
    exact wp_zret (by decide +kernel) rfl (by decide) (Nat.zero_le _) (Nat.zero_le _) ⟨_, _, _, rfl, rfl, H⟩
  · rw [if_neg c1] at H
    refine wp_iload_n (z := 1) (i := 1) (x := x1) 1 (by decide +kernel) rfl rfl ?_
    refine wp_aload_n (z := 0) (i := 0) (r := (some h)) 0 (by decide +kernel) rfl rfl ?_
    refine wp_getS (idx := 77) (q := (h + 67)) (by decide +kernel) fl8_77 rfl ok.1 (okr8_15 ok) ?_
    refine wp_alen (v := 128) (by decide +kernel) (oks8_15 ok) (by decide) (by decide) ?_
    refine wp_icmp_ge (off := 13) (tgt := 23) (by decide +kernel) (by decide) (fun c2 => ?_) (fun c2 => ?_)
    · rw [if_pos c2] at H
      refine wp_iconst (z := 0) (v := 0) (by decide +kernel) (by decide) ?_
      exact wp_zret (by decide +kernel) rfl (by decide) (Nat.zero_le _) (Nat.zero_le _) ⟨_, _, _, rfl, rfl, H⟩
    · rw [if_neg c2] at H
      refine wp_aload_n (z := 0) (i := 0) (r := (some h)) 0 (by decide +kernel) rfl rfl ?_
      refine wp_getS (idx := 77) (q := (h + 67)) (by decide +kernel) fl8_77 rfl ok.1 (okr8_15 ok) ?_
      refine wp_iload_n (z := 1) (i := 1) (x := x1) 1 (by decide +kernel) rfl rfl ?_
      obtain ⟨o6, H⟩ := H
      refine wp_iald (j := (cl x1)) (by decide +kernel) (oks8_15 ok) o6 rfl ?_
      refine wp_iload_n (z := 2) (i := 2) (x := x2) 2 (by decide +kernel) rfl rfl ?_
      refine wp_icmp_gt (off := 5) (tgt := 25) (by decide +kernel) (by decide) (fun c3 => ?_) (fun c3 => ?_)
      · rw [if_pos c3] at H
        refine wp_aload_n (z := 0) (i := 0) (r := (some h)) 0 (by decide +kernel) rfl rfl ?_
        refine wp_getS (idx := 77) (q := (h + 67)) (by decide +kernel) fl8_77 rfl ok.1 (okr8_15 ok) ?_
        refine wp_iload_n (z := 1) (i := 1) (x := x1) 1 (by decide +kernel) rfl rfl ?_
        refine wp_iload_n (z := 2) (i := 2) (x := x2) 2 (by decide +kernel) rfl rfl ?_
        obtain ⟨o5, H⟩ := H
        refine wp_iast (j := (cl x1)) (by decide +kernel) (oks8_15 ok) o5 rfl ?_
        refine wp_memI (fun I4 eI4 => ?_)
        replace H := H I4 eI4
        refine wp_iconst (z := 1) (v := 1) (by decide +kernel) (by decide) ?_
        exact wp_zret (by decide +kernel) rfl (by decide) (Nat.zero_le _) (Nat.zero_le _) ⟨_, _, _, rfl, rfl, H⟩
      · rw [if_neg c3] at H
        refine wp_iconst (z := 0) (v := 0) (by decide +kernel) (by decide) ?_
        exact wp_zret (by decide +kernel) rfl (by decide) (Nat.zero_le _) (Nat.zero_le _) ⟨_, _, _, rfl, rfl, H⟩
/-! DeafWall.layFurther(LDeafWall$Wall;)Z -/
set_option maxRecDepth 20000 in
theorem b8_layFurther {X : XX} {G : GG} {I : Nat → Nat → Int32} {L : Nat → Nat → Int64} {h : Nat} {a1 : Nat} {Q : Int32 → (Nat → Nat → Int32) → (Nat → Nat → Int64) → Prop} (ok : OK8 G h) (ok1 : OK7 G a1) (H : wpI X B8_layFurther 4 [(0, .ref h), (1, .ref a1), (2, .int 0), (3, .int 2)] [] G I L Q) : wpI X B8_layFurther 0 [(0, .ref h), (1, .ref a1)] [] G I L Q := by
  refine wp_iconst (z := 0) (v := 0) (by decide +kernel) (by decide) ?_
  refine wp_istore_n (z := 2) (i := 2) (lv' := [(2, .int 0), (0, .ref h), (1, .ref a1)]) (by decide +kernel) rfl (by decide) rfl ?_
  refine wp_iconst (z := 2) (v := 2) (by decide +kernel) (by decide) ?_
  refine wp_istore_n (z := 3) (i := 3) (lv' := [(3, .int 2), (2, .int 0), (0, .ref h), (1, .ref a1)]) (by decide +kernel) rfl (by decide) rfl ?_
  exact wp_sub [2, 3, 1, 0] rfl H
set_option maxRecDepth 20000 in
theorem b8_layFurther_4 {X : XX} {G : GG} {I : Nat → Nat → Int32} {L : Nat → Nat → Int64} {h : Nat} {a1 : Nat} {x2 : Int32} {x3 : Int32} {Q : Int32 → (Nat → Nat → Int32) → (Nat → Nat → Int64) → Prop} (ok : OK8 G h) (ok1 : OK7 G a1) (H : if 128 ≤ x3 then ((x2 = 0 ∨ x2 = 1) ∧ (Q x2 I L)) else (vp_in x3 128 ∧ (if (I (h + 67) (cl x3)) = 1000000 then (wpI X B8_layFurther 4 [(0, .ref h), (1, .ref a1), (2, .int x2), (3, .int (x3 + 1))] [] G I L Q) else (wpI X B8_layFurther 31 [(0, .ref h), (1, .ref a1), (2, .int x2), (3, .int x3), (4, .int 0)] [] G I L Q)))) : wpI X B8_layFurther 4 [(0, .ref h), (1, .ref a1), (2, .int x2), (3, .int x3)] [] G I L Q := by
  refine wp_iload_n (z := 3) (i := 3) (x := x3) 3 (by decide +kernel) rfl rfl ?_
  refine wp_aload_n (z := 0) (i := 0) (r := (some h)) 0 (by decide +kernel) rfl rfl ?_
  refine wp_getS (idx := 77) (q := (h + 67)) (by decide +kernel) fl8_77 rfl ok.1 (okr8_15 ok) ?_
  refine wp_alen (v := 128) (by decide +kernel) (oks8_15 ok) (by decide) (by decide) ?_
  refine wp_icmp_ge (off := 88) (tgt := 98) (by decide +kernel) (by decide) (fun c1 => ?_) (fun c1 => ?_)
  · rw [if_pos c1] at H
    refine wp_iload_n (z := 2) (i := 2) (x := x2) 2 (by decide +kernel) rfl rfl ?_
    obtain ⟨o2, H⟩ := H
    exact wp_zret (by decide +kernel) rfl o2 (Nat.zero_le _) (Nat.zero_le _) ⟨_, _, _, rfl, rfl, H⟩
  · rw [if_neg c1] at H
    refine wp_aload_n (z := 0) (i := 0) (r := (some h)) 0 (by decide +kernel) rfl rfl ?_
    refine wp_getS (idx := 77) (q := (h + 67)) (by decide +kernel) fl8_77 rfl ok.1 (okr8_15 ok) ?_
    refine wp_iload_n (z := 3) (i := 3) (x := x3) 3 (by decide +kernel) rfl rfl ?_
    obtain ⟨o4, H⟩ := H
    refine wp_iald (j := (cl x3)) (by decide +kernel) (oks8_15 ok) o4 rfl ?_
    refine wp_ldcw (idx := 370) (v := 1000000) (by decide +kernel) (in_g (List.mem_of_getElem? (i := 1005) (by decide +kernel)) rfl) ?_
    refine wp_icmp_ne (off := 6) (tgt := 28) (by decide +kernel) (by decide) (fun c3 => ?_) (fun c3 => ?_)
    · rw [if_neg c3] at H
      refine wp_iconst (z := 0) (v := 0) (by decide +kernel) (by decide) ?_
      refine wp_istore (i := 4) (lv' := [(4, .int 0), (0, .ref h), (1, .ref a1), (2, .int x2), (3, .int x3)]) (by decide +kernel) (by decide) rfl ?_
      exact wp_sub [1, 2, 3, 4, 0] rfl H
    · rw [if_pos c3] at H
      refine wp_goto (off := 67) (tgt := 92) (by decide +kernel) (by decide) ?_
      refine wp_iinc (i := 3) (z := 1) (v := 1) (lv' := [(3, .int (x3 + 1)), (0, .ref h), (1, .ref a1), (2, .int x2)]) 3 (by decide +kernel) rfl (by decide) (by decide) rfl ?_
      refine wp_goto (off := -91) (tgt := 4) (by decide +kernel) (by decide) ?_
      exact wp_sub [1, 2, 3, 0] rfl H
set_option maxRecDepth 20000 in
theorem b8_layFurther_31 {X : XX} {G : GG} {I : Nat → Nat → Int32} {L : Nat → Nat → Int64} {h : Nat} {a1 : Nat} {x2 : Int32} {x3 : Int32} {x4 : Int32} {Q : Int32 → (Nat → Nat → Int32) → (Nat → Nat → Int64) → Prop} (ok : OK8 G h) (ok1 : OK7 G a1) (H : if (I a1 7) ≤ x4 then (wpI X B8_layFurther 4 [(0, .ref h), (1, .ref a1), (2, .int x2), (3, .int (x3 + 1))] [] G I L Q) else (vp_in x4 6 ∧ (∀ u2, u2 = (mx 0 ((I (a1 + 4) (cl x4)) - (v8_lengthOf x3))) → p8_tail I a1 x4 ∧ (vp_in x3 128 ∧ (wpI X B8_lay 0 [(0, .ref h), (1, .int (v8_overhang x3 (v8_tail I a1 x4))), (2, .int ((I (h + 67) (cl x3)) + u2))] [] G I L (fun r5 I3 L4 => if r5 = (0 : Int32) then (wpI X B8_layFurther 31 [(0, .ref h), (1, .ref a1), (2, .int x2), (3, .int x3), (4, .int (x4 + 1))] [] G I3 L4 Q) else (wpI X B8_layFurther 31 [(0, .ref h), (1, .ref a1), (2, .int 1), (3, .int x3), (4, .int (x4 + 1))] [] G I3 L4 Q))))))) : wpI X B8_layFurther 31 [(0, .ref h), (1, .ref a1), (2, .int x2), (3, .int x3), (4, .int x4)] [] G I L Q := by
  refine wp_iload (i := 4) (x := x4) 4 (by decide +kernel) rfl ?_
  refine wp_aload_n (z := 1) (i := 1) (r := (some a1)) 1 (by decide +kernel) rfl rfl ?_
  refine wp_getI (idx := 172) (by decide +kernel) fl8_172 rfl ok1.1 ?_
  refine wp_icmp_ge (off := 55) (tgt := 92) (by decide +kernel) (by decide) (fun c1 => ?_) (fun c1 => ?_)
  · rw [if_pos c1] at H
    refine wp_iinc (i := 3) (z := 1) (v := 1) (lv' := [(3, .int (x3 + 1)), (0, .ref h), (1, .ref a1), (2, .int x2), (4, .int x4)]) 3 (by decide +kernel) rfl (by decide) (by decide) rfl ?_
    refine wp_goto (off := -91) (tgt := 4) (by decide +kernel) (by decide) ?_
    exact wp_sub [1, 2, 3, 0] rfl H
  · rw [if_neg c1] at H
    refine wp_iconst (z := 0) (v := 0) (by decide +kernel) (by decide) ?_
    refine wp_aload_n (z := 1) (i := 1) (r := (some a1)) 1 (by decide +kernel) rfl rfl ?_
    refine wp_getS (idx := 148) (q := (a1 + 4)) (by decide +kernel) fl8_148 rfl ok1.1 (okr7_8 ok1) ?_
    refine wp_iload (i := 4) (x := x4) 4 (by decide +kernel) rfl ?_
    obtain ⟨o11, H⟩ := H
    refine wp_iald (j := (cl x4)) (by decide +kernel) (oks7_8 ok1) o11 rfl ?_
    refine wp_iload_n (z := 3) (i := 3) (x := x3) 3 (by decide +kernel) rfl rfl ?_
    refine wp_callS (idx := 392) (B2 := B8_lengthOf) (As := [.int x3]) (st := [.int (I (a1 + 4) (cl x4)), .int 0]) (by decide +kernel) m8_lengthOf ml8_392 k8_lengthOf (⟨Nat.le_of_ble_eq_true rfl, Nat.le_of_ble_eq_true rfl⟩ : rOK B8_layFurther B8_lengthOf) rfl (Nat.le_of_ble_eq_true rfl) (Nat.le_of_ble_eq_true rfl) ⟨Nat.le_of_ble_eq_true rfl, Nat.le_of_ble_eq_true rfl⟩ rfl (wp_mono (b8_lengthOf (Q := (fun r I' L' => r = (v8_lengthOf x3) ∧ I = I' ∧ L = L'))  ⟨rfl, rfl, rfl⟩) (fun v9 M9 hq9 => ?_))
    obtain ⟨_, _, _, rfl, rfl, rfl, rfl, rfl⟩ := hq9
    show wp X B8_layFurther 52 [(0, .ref h), (1, .ref a1), (2, .int x2), (3, .int x3), (4, .int x4)] [.int (v8_lengthOf x3), .int (I (a1 + 4) (cl x4)), .int 0] (G, I, L) 0 0 _
    refine wp_isub (by decide +kernel) ?_
    refine wp_mmax (idx := 333) (by decide +kernel) (in_g (List.mem_of_getElem? (i := 749) (by decide +kernel)) rfl) (in_g (List.mem_of_getElem? (i := 646) (by decide +kernel)) rfl) (in_g (List.mem_of_getElem? (i := 127) (by decide +kernel)) rfl) (in_g (List.mem_of_getElem? (i := 647) (by decide +kernel)) (by decide +kernel)) (Nat.le_of_ble_eq_true rfl) (Nat.le_of_ble_eq_true rfl) (Nat.le_of_ble_eq_true rfl) (Nat.le_of_ble_eq_true rfl) ?_
    refine wp_topi (fun u2 eu2 => ?_)
    replace H := H u2 eu2
    refine wp_istore (i := 5) (lv' := [(5, .int u2), (0, .ref h), (1, .ref a1), (2, .int x2), (3, .int x3), (4, .int x4)]) (by decide +kernel) (by decide) rfl ?_
    refine wp_aload_n (z := 0) (i := 0) (r := (some h)) 1 (by decide +kernel) rfl rfl ?_
    refine wp_iload_n (z := 3) (i := 3) (x := x3) 4 (by decide +kernel) rfl rfl ?_
    refine wp_aload_n (z := 1) (i := 1) (r := (some a1)) 2 (by decide +kernel) rfl rfl ?_
    refine wp_iload (i := 4) (x := x4) 5 (by decide +kernel) rfl ?_
    obtain ⟨o9, H⟩ := H
    refine wp_callS (idx := 374) (B2 := B8_tail) (As := [.ref a1, .int x4]) (st := [.int x3, .ref h]) (by decide +kernel) m8_tail ml8_374 k8_tail (⟨Nat.le_of_ble_eq_true rfl, Nat.le_of_ble_eq_true rfl⟩ : rOK B8_layFurther B8_tail) rfl (Nat.le_of_ble_eq_true rfl) (Nat.le_of_ble_eq_true rfl) ⟨Nat.le_of_ble_eq_true rfl, Nat.le_of_ble_eq_true rfl⟩ rfl (wp_mono (b8_tail (Q := (fun r I' L' => r = (v8_tail I a1 x4) ∧ I = I' ∧ L = L')) ok1 o9 ⟨rfl, rfl, rfl⟩) (fun v9 M9 hq9 => ?_))
    obtain ⟨_, _, _, rfl, rfl, rfl, rfl, rfl⟩ := hq9
    show wp X B8_layFurther 66 [(5, .int u2), (0, .ref h), (1, .ref a1), (2, .int x2), (3, .int x3), (4, .int x4)] [.int (v8_tail I a1 x4), .int x3, .ref h] (G, I, L) 0 0 _
    refine wp_callS (idx := 377) (B2 := B8_overhang) (As := [.int x3, .int (v8_tail I a1 x4)]) (st := [.ref h]) (by decide +kernel) m8_overhang ml8_377 k8_overhang (⟨Nat.le_of_ble_eq_true rfl, Nat.le_of_ble_eq_true rfl⟩ : rOK B8_layFurther B8_overhang) rfl (Nat.le_of_ble_eq_true rfl) (Nat.le_of_ble_eq_true rfl) ⟨Nat.le_of_ble_eq_true rfl, Nat.le_of_ble_eq_true rfl⟩ rfl (wp_mono (b8_overhang (Q := (fun r I' L' => r = (v8_overhang x3 (v8_tail I a1 x4)) ∧ I = I' ∧ L = L'))  ⟨rfl, rfl, rfl⟩) (fun v9 M9 hq9 => ?_))
    obtain ⟨_, _, _, rfl, rfl, rfl, rfl, rfl⟩ := hq9
    show wp X B8_layFurther 69 [(5, .int u2), (0, .ref h), (1, .ref a1), (2, .int x2), (3, .int x3), (4, .int x4)] [.int (v8_overhang x3 (v8_tail I a1 x4)), .ref h] (G, I, L) 0 0 _
    refine wp_aload_n (z := 0) (i := 0) (r := (some h)) 1 (by decide +kernel) rfl rfl ?_
    refine wp_getS (idx := 77) (q := (h + 67)) (by decide +kernel) fl8_77 rfl ok.1 (okr8_15 ok) ?_
    refine wp_iload_n (z := 3) (i := 3) (x := x3) 4 (by decide +kernel) rfl rfl ?_
    obtain ⟨o7, H⟩ := H
    refine wp_iald (j := (cl x3)) (by decide +kernel) (oks8_15 ok) o7 rfl ?_
    refine wp_iload (i := 5) (x := u2) 0 (by decide +kernel) rfl ?_
    refine wp_iadd (by decide +kernel) ?_
    refine wp_callV (idx := 380) (B2 := B8_lay) (As := [.int (v8_overhang x3 (v8_tail I a1 x4)), .int ((I (h + 67) (cl x3)) + u2)]) (a := h) (st := []) (by decide +kernel) m8_lay ml8_380 k8_lay e8_lay ck8 ok.1 (⟨Nat.le_of_ble_eq_true rfl, Nat.le_of_ble_eq_true rfl⟩ : rOK B8_layFurther B8_lay) rfl (Nat.le_of_ble_eq_true rfl) (Nat.le_of_ble_eq_true rfl) ⟨Nat.le_of_ble_eq_true rfl, Nat.le_of_ble_eq_true rfl⟩ rfl (wp_mono H (fun v9 M9 hq9 => ?_))
    clear H
    obtain ⟨r5, I3, L4, rfl, rfl, H⟩ := hq9
    show wp X B8_layFurther 81 [(5, .int u2), (0, .ref h), (1, .ref a1), (2, .int x2), (3, .int x3), (4, .int x4)] [.int r5] (G, I3, L4) 0 0 _
    refine wp_if_eq (off := 5) (tgt := 86) (by decide +kernel) (by decide) (fun c6 => ?_) (fun c6 => ?_)
    · rw [if_pos c6] at H
      refine wp_iinc (i := 4) (z := 1) (v := 1) (lv' := [(4, .int (x4 + 1)), (5, .int u2), (0, .ref h), (1, .ref a1), (2, .int x2), (3, .int x3)]) 5 (by decide +kernel) rfl (by decide) (by decide) rfl ?_
      refine wp_goto (off := -58) (tgt := 31) (by decide +kernel) (by decide) ?_
      exact wp_sub [2, 3, 4, 5, 0] rfl H
    · rw [if_neg c6] at H
      refine wp_iconst (z := 1) (v := 1) (by decide +kernel) (by decide) ?_
      refine wp_istore_n (z := 2) (i := 2) (lv' := [(2, .int 1), (5, .int u2), (0, .ref h), (1, .ref a1), (3, .int x3), (4, .int x4)]) (by decide +kernel) rfl (by decide) rfl ?_
      refine wp_iinc (i := 4) (z := 1) (v := 1) (lv' := [(4, .int (x4 + 1)), (2, .int 1), (5, .int u2), (0, .ref h), (1, .ref a1), (3, .int x3)]) 5 (by decide +kernel) rfl (by decide) (by decide) rfl ?_
      refine wp_goto (off := -58) (tgt := 31) (by decide +kernel) (by decide) ?_
      exact wp_sub [3, 4, 1, 5, 0] rfl H
/-! DeafWall.code(I)I -/
set_option maxRecDepth 20000 in
theorem b8_code {X : XX} {G : GG} {I : Nat → Nat → Int32} {L : Nat → Nat → Int64} {h : Nat} {x1 : Int32} {Q : Int32 → (Nat → Nat → Int32) → (Nat → Nat → Int64) → Prop} (ok : OK8 G h) (H : wpR X B8_wallAt 0 [(0, .ref h), (1, .int x1)] [] G I L (fun r3 I1 L2 => (r3 = none → Q (-1) I1 L2) ∧ (∀ q5, r3 = some q5 → wpV X B18_fillI 0 [(0, .ref (h + 67)), (1, .int 1000000)] [] G I1 L2 (fun I6 L7 => wpI X B8_code 24 [(0, .ref h), (2, .ref q5), (3, .int 0)] [] G I6 L7 Q)))) : wpI X B8_code 0 [(0, .ref h), (1, .int x1)] [] G I L Q := by
  refine wp_aload_n (z := 0) (i := 0) (r := (some h)) 0 (by decide +kernel) rfl rfl ?_
  refine wp_iload_n (z := 1) (i := 1) (x := x1) 1 (by decide +kernel) rfl rfl ?_
  refine wp_callV (idx := 129) (B2 := B8_wallAt) (As := [.int x1]) (a := h) (st := []) (by decide +kernel) m8_wallAt ml8_129 k8_wallAt e8_wallAt ck8 ok.1 (⟨Nat.le_of_ble_eq_true rfl, Nat.le_of_ble_eq_true rfl⟩ : rOK B8_code B8_wallAt) rfl (Nat.le_of_ble_eq_true rfl) (Nat.le_of_ble_eq_true rfl) ⟨Nat.le_of_ble_eq_true rfl, Nat.le_of_ble_eq_true rfl⟩ rfl (wp_mono H (fun v9 M9 hq9 => ?_))
  clear H
  obtain ⟨r3, I1, L2, rfl, rfl, H⟩ := hq9
  show wp X B8_code 5 [(0, .ref h), (1, .int x1)] [va_rf r3] (G, I1, L2) 0 0 _
  refine wp_astore_n (z := 2) (i := 2) (lv' := [(2, va_rf r3), (0, .ref h), (1, .int x1)]) (r := r3) (by decide +kernel) rfl (by decide) (by cases r3 <;> rfl) ?_
  refine wp_aload_n (z := 2) (i := 2) (r := r3) 0 (by decide +kernel) rfl rfl ?_
  refine wp_ifnonnull (off := 5) (tgt := 12) (r := r3) (by decide +kernel) (by decide) (fun q5 c4 => ?_) (fun c4 => ?_)
  · replace H := H.2 q5 c4
    subst c4
    show wp X B8_code 12 [(2, .ref q5), (0, .ref h), (1, .int x1)] [] (G, I1, L2) 0 0 _
    refine wp_aload_n (z := 0) (i := 0) (r := (some h)) 1 (by decide +kernel) rfl rfl ?_
    refine wp_getS (idx := 77) (q := (h + 67)) (by decide +kernel) fl8_77 rfl ok.1 (okr8_15 ok) ?_
    refine wp_ldcw (idx := 370) (v := 1000000) (by decide +kernel) (in_g (List.mem_of_getElem? (i := 1005) (by decide +kernel)) rfl) ?_
    refine wp_callS (idx := 371) (B2 := B18_fillI) (As := [.ref (h + 67), .int 1000000]) (st := []) (by decide +kernel) m18_fillI ml8_371 k18_fillI (⟨Nat.le_of_ble_eq_true rfl, Nat.le_of_ble_eq_true rfl⟩ : rOK B8_code B18_fillI) rfl (Nat.le_of_ble_eq_true rfl) (Nat.le_of_ble_eq_true rfl) ⟨Nat.le_of_ble_eq_true rfl, Nat.le_of_ble_eq_true rfl⟩ rfl (wp_mono H (fun v9 M9 hq9 => ?_))
    clear H
    obtain ⟨I6, L7, rfl, rfl, H⟩ := hq9
    show wp X B8_code 22 [(2, .ref q5), (0, .ref h), (1, .int x1)] [] (G, I6, L7) 0 0 _
    refine wp_iconst (z := 0) (v := 0) (by decide +kernel) (by decide) ?_
    refine wp_istore_n (z := 3) (i := 3) (lv' := [(3, .int 0), (2, .ref q5), (0, .ref h), (1, .int x1)]) (by decide +kernel) rfl (by decide) rfl ?_
    exact wp_sub [2, 1, 0] rfl H
  · replace H := H.1 c4
    subst c4
    show wp X B8_code 10 [(2, .null), (0, .ref h), (1, .int x1)] [] (G, I1, L2) 0 0 _
    refine wp_iconst (z := -1) (v := (-1)) (by decide +kernel) (by decide) ?_
    exact wp_iret (by decide +kernel) rfl (Nat.zero_le _) (Nat.zero_le _) ⟨_, _, _, rfl, rfl, H⟩
set_option maxRecDepth 20000 in
theorem b8_code_24 {X : XX} {G : GG} {I : Nat → Nat → Int32} {L : Nat → Nat → Int64} {h : Nat} {a2 : Nat} {x3 : Int32} {Q : Int32 → (Nat → Nat → Int32) → (Nat → Nat → Int64) → Prop} (ok : OK8 G h) (ok2 : OK7 G a2) (H : if (I a2 7) ≤ x3 then (wpI X B8_code 98 [(0, .ref h), (2, .ref a2), (3, .int 1), (4, .int 0)] [] G I L Q) else (wpI X B8_code 37 [(0, .ref h), (2, .ref a2), (3, .int x3), (4, .int (x3 + 1))] [] G I L Q)) : wpI X B8_code 24 [(0, .ref h), (2, .ref a2), (3, .int x3)] [] G I L Q := by
  refine wp_iload_n (z := 3) (i := 3) (x := x3) 2 (by decide +kernel) rfl rfl ?_
  refine wp_aload_n (z := 2) (i := 2) (r := (some a2)) 1 (by decide +kernel) rfl rfl ?_
  refine wp_getI (idx := 172) (by decide +kernel) fl8_172 rfl ok2.1 ?_
  refine wp_icmp_ge (off := 64) (tgt := 93) (by decide +kernel) (by decide) (fun c1 => ?_) (fun c1 => ?_)
  · rw [if_pos c1] at H
    refine wp_iconst (z := 1) (v := 1) (by decide +kernel) (by decide) ?_
    refine wp_istore_n (z := 3) (i := 3) (lv' := [(3, .int 1), (0, .ref h), (2, .ref a2)]) (by decide +kernel) rfl (by decide) rfl ?_
    refine wp_iconst (z := 0) (v := 0) (by decide +kernel) (by decide) ?_
    refine wp_istore (i := 4) (lv' := [(4, .int 0), (3, .int 1), (0, .ref h), (2, .ref a2)]) (by decide +kernel) (by decide) rfl ?_
    exact wp_sub [2, 3, 1, 0] rfl H
  · rw [if_neg c1] at H
    refine wp_iload_n (z := 3) (i := 3) (x := x3) 2 (by decide +kernel) rfl rfl ?_
    refine wp_iconst (z := 1) (v := 1) (by decide +kernel) (by decide) ?_
    refine wp_iadd (by decide +kernel) ?_
    refine wp_istore (i := 4) (lv' := [(4, .int (x3 + 1)), (0, .ref h), (2, .ref a2), (3, .int x3)]) (by decide +kernel) (by decide) rfl ?_
    exact wp_sub [1, 2, 3, 0] rfl H
set_option maxRecDepth 20000 in
theorem b8_code_37 {X : XX} {G : GG} {I : Nat → Nat → Int32} {L : Nat → Nat → Int64} {h : Nat} {a2 : Nat} {x3 : Int32} {x4 : Int32} {Q : Int32 → (Nat → Nat → Int32) → (Nat → Nat → Int64) → Prop} (ok : OK8 G h) (ok2 : OK7 G a2) (H : if (I a2 7) ≤ x4 then (wpI X B8_code 24 [(0, .ref h), (2, .ref a2), (3, .int (x3 + 1))] [] G I L Q) else (p8_tail I a2 x3 ∧ (p8_tail I a2 x4 ∧ (vp_in x3 6 ∧ (vp_in x4 6 ∧ (wpI X B8_lay 0 [(0, .ref h), (1, .int (v8_overhang (v8_tail I a2 x3) (v8_tail I a2 x4))), (2, .int (mx (I (a2 + 4) (cl x3)) (I (a2 + 4) (cl x4))))] [] G I L (fun r4 I2 L3 => wpI X B8_code 37 [(0, .ref h), (2, .ref a2), (3, .int x3), (4, .int (x4 + 1))] [] G I2 L3 Q))))))) : wpI X B8_code 37 [(0, .ref h), (2, .ref a2), (3, .int x3), (4, .int x4)] [] G I L Q := by
  refine wp_iload (i := 4) (x := x4) 3 (by decide +kernel) rfl ?_
  refine wp_aload_n (z := 2) (i := 2) (r := (some a2)) 1 (by decide +kernel) rfl rfl ?_
  refine wp_getI (idx := 172) (by decide +kernel) fl8_172 rfl ok2.1 ?_
  refine wp_icmp_ge (off := 44) (tgt := 87) (by decide +kernel) (by decide) (fun c1 => ?_) (fun c1 => ?_)
  · rw [if_pos c1] at H
    refine wp_iinc (i := 3) (z := 1) (v := 1) (lv' := [(3, .int (x3 + 1)), (0, .ref h), (2, .ref a2), (4, .int x4)]) 2 (by decide +kernel) rfl (by decide) (by decide) rfl ?_
    refine wp_goto (off := -66) (tgt := 24) (by decide +kernel) (by decide) ?_
    exact wp_sub [1, 2, 0] rfl H
  · rw [if_neg c1] at H
    refine wp_aload_n (z := 0) (i := 0) (r := (some h)) 0 (by decide +kernel) rfl rfl ?_
    refine wp_aload_n (z := 2) (i := 2) (r := (some a2)) 1 (by decide +kernel) rfl rfl ?_
    refine wp_iload_n (z := 3) (i := 3) (x := x3) 2 (by decide +kernel) rfl rfl ?_
    obtain ⟨o9, H⟩ := H
    refine wp_callS (idx := 374) (B2 := B8_tail) (As := [.ref a2, .int x3]) (st := [.ref h]) (by decide +kernel) m8_tail ml8_374 k8_tail (⟨Nat.le_of_ble_eq_true rfl, Nat.le_of_ble_eq_true rfl⟩ : rOK B8_code B8_tail) rfl (Nat.le_of_ble_eq_true rfl) (Nat.le_of_ble_eq_true rfl) ⟨Nat.le_of_ble_eq_true rfl, Nat.le_of_ble_eq_true rfl⟩ rfl (wp_mono (b8_tail (Q := (fun r I' L' => r = (v8_tail I a2 x3) ∧ I = I' ∧ L = L')) ok2 o9 ⟨rfl, rfl, rfl⟩) (fun v9 M9 hq9 => ?_))
    obtain ⟨_, _, _, rfl, rfl, rfl, rfl, rfl⟩ := hq9
    show wp X B8_code 52 [(0, .ref h), (2, .ref a2), (3, .int x3), (4, .int x4)] [.int (v8_tail I a2 x3), .ref h] (G, I, L) 0 0 _
    refine wp_aload_n (z := 2) (i := 2) (r := (some a2)) 1 (by decide +kernel) rfl rfl ?_
    refine wp_iload (i := 4) (x := x4) 3 (by decide +kernel) rfl ?_
    obtain ⟨o8, H⟩ := H
    refine wp_callS (idx := 374) (B2 := B8_tail) (As := [.ref a2, .int x4]) (st := [.int (v8_tail I a2 x3), .ref h]) (by decide +kernel) m8_tail ml8_374 k8_tail (⟨Nat.le_of_ble_eq_true rfl, Nat.le_of_ble_eq_true rfl⟩ : rOK B8_code B8_tail) rfl (Nat.le_of_ble_eq_true rfl) (Nat.le_of_ble_eq_true rfl) ⟨Nat.le_of_ble_eq_true rfl, Nat.le_of_ble_eq_true rfl⟩ rfl (wp_mono (b8_tail (Q := (fun r I' L' => r = (v8_tail I a2 x4) ∧ I = I' ∧ L = L')) ok2 o8 ⟨rfl, rfl, rfl⟩) (fun v9 M9 hq9 => ?_))
    obtain ⟨_, _, _, rfl, rfl, rfl, rfl, rfl⟩ := hq9
    show wp X B8_code 58 [(0, .ref h), (2, .ref a2), (3, .int x3), (4, .int x4)] [.int (v8_tail I a2 x4), .int (v8_tail I a2 x3), .ref h] (G, I, L) 0 0 _
    refine wp_callS (idx := 377) (B2 := B8_overhang) (As := [.int (v8_tail I a2 x3), .int (v8_tail I a2 x4)]) (st := [.ref h]) (by decide +kernel) m8_overhang ml8_377 k8_overhang (⟨Nat.le_of_ble_eq_true rfl, Nat.le_of_ble_eq_true rfl⟩ : rOK B8_code B8_overhang) rfl (Nat.le_of_ble_eq_true rfl) (Nat.le_of_ble_eq_true rfl) ⟨Nat.le_of_ble_eq_true rfl, Nat.le_of_ble_eq_true rfl⟩ rfl (wp_mono (b8_overhang (Q := (fun r I' L' => r = (v8_overhang (v8_tail I a2 x3) (v8_tail I a2 x4)) ∧ I = I' ∧ L = L'))  ⟨rfl, rfl, rfl⟩) (fun v9 M9 hq9 => ?_))
    obtain ⟨_, _, _, rfl, rfl, rfl, rfl, rfl⟩ := hq9
    show wp X B8_code 61 [(0, .ref h), (2, .ref a2), (3, .int x3), (4, .int x4)] [.int (v8_overhang (v8_tail I a2 x3) (v8_tail I a2 x4)), .ref h] (G, I, L) 0 0 _
    refine wp_aload_n (z := 2) (i := 2) (r := (some a2)) 1 (by decide +kernel) rfl rfl ?_
    refine wp_getS (idx := 148) (q := (a2 + 4)) (by decide +kernel) fl8_148 rfl ok2.1 (okr7_8 ok2) ?_
    refine wp_iload_n (z := 3) (i := 3) (x := x3) 2 (by decide +kernel) rfl rfl ?_
    obtain ⟨o6, H⟩ := H
    refine wp_iald (j := (cl x3)) (by decide +kernel) (oks7_8 ok2) o6 rfl ?_
    refine wp_aload_n (z := 2) (i := 2) (r := (some a2)) 1 (by decide +kernel) rfl rfl ?_
    refine wp_getS (idx := 148) (q := (a2 + 4)) (by decide +kernel) fl8_148 rfl ok2.1 (okr7_8 ok2) ?_
    refine wp_iload (i := 4) (x := x4) 3 (by decide +kernel) rfl ?_
    obtain ⟨o5, H⟩ := H
    refine wp_iald (j := (cl x4)) (by decide +kernel) (oks7_8 ok2) o5 rfl ?_
    refine wp_mmax (idx := 333) (by decide +kernel) (in_g (List.mem_of_getElem? (i := 749) (by decide +kernel)) rfl) (in_g (List.mem_of_getElem? (i := 646) (by decide +kernel)) rfl) (in_g (List.mem_of_getElem? (i := 127) (by decide +kernel)) rfl) (in_g (List.mem_of_getElem? (i := 647) (by decide +kernel)) (by decide +kernel)) (Nat.le_of_ble_eq_true rfl) (Nat.le_of_ble_eq_true rfl) (Nat.le_of_ble_eq_true rfl) (Nat.le_of_ble_eq_true rfl) ?_
    refine wp_callV (idx := 380) (B2 := B8_lay) (As := [.int (v8_overhang (v8_tail I a2 x3) (v8_tail I a2 x4)), .int (mx (I (a2 + 4) (cl x3)) (I (a2 + 4) (cl x4)))]) (a := h) (st := []) (by decide +kernel) m8_lay ml8_380 k8_lay e8_lay ck8 ok.1 (⟨Nat.le_of_ble_eq_true rfl, Nat.le_of_ble_eq_true rfl⟩ : rOK B8_code B8_lay) rfl (Nat.le_of_ble_eq_true rfl) (Nat.le_of_ble_eq_true rfl) ⟨Nat.le_of_ble_eq_true rfl, Nat.le_of_ble_eq_true rfl⟩ rfl (wp_mono H (fun v9 M9 hq9 => ?_))
    clear H
    obtain ⟨r4, I2, L3, rfl, rfl, H⟩ := hq9
    show wp X B8_code 80 [(0, .ref h), (2, .ref a2), (3, .int x3), (4, .int x4)] [.int r4] (G, I2, L3) 0 0 _
    refine wp_pop (by decide +kernel) rfl ?_
    refine wp_iinc (i := 4) (z := 1) (v := 1) (lv' := [(4, .int (x4 + 1)), (0, .ref h), (2, .ref a2), (3, .int x3)]) 3 (by decide +kernel) rfl (by decide) (by decide) rfl ?_
    refine wp_goto (off := -47) (tgt := 37) (by decide +kernel) (by decide) ?_
    exact wp_sub [1, 2, 3, 0] rfl H
set_option maxRecDepth 20000 in
theorem b8_code_98 {X : XX} {G : GG} {I : Nat → Nat → Int32} {L : Nat → Nat → Int64} {h : Nat} {a2 : Nat} {x3 : Int32} {x4 : Int32} {Q : Int32 → (Nat → Nat → Int32) → (Nat → Nat → Int64) → Prop} (ok : OK8 G h) (ok2 : OK7 G a2) (H : if 128 ≤ x4 then (if 1000000 ≤ (I (h + 67) 1) then (Q 0 I L) else (Q (I (h + 67) 1) I L)) else (if x3 = (0 : Int32) then (if 1000000 ≤ (I (h + 67) 1) then (Q 0 I L) else (Q (I (h + 67) 1) I L)) else (wpI X B8_layFurther 0 [(0, .ref h), (1, .ref a2)] [] G I L (fun r7 I5 L6 => wpI X B8_code 98 [(0, .ref h), (2, .ref a2), (3, .int r7), (4, .int (x4 + 1))] [] G I5 L6 Q)))) : wpI X B8_code 98 [(0, .ref h), (2, .ref a2), (3, .int x3), (4, .int x4)] [] G I L Q := by
  refine wp_iload (i := 4) (x := x4) 3 (by decide +kernel) rfl ?_
  refine wp_aload_n (z := 0) (i := 0) (r := (some h)) 0 (by decide +kernel) rfl rfl ?_
  refine wp_getS (idx := 77) (q := (h + 67)) (by decide +kernel) fl8_77 rfl ok.1 (okr8_15 ok) ?_
  refine wp_alen (v := 128) (by decide +kernel) (oks8_15 ok) (by decide) (by decide) ?_
  refine wp_icmp_ge (off := 19) (tgt := 124) (by decide +kernel) (by decide) (fun c1 => ?_) (fun c1 => ?_)
  · rw [if_pos c1] at H
    refine wp_aload_n (z := 0) (i := 0) (r := (some h)) 0 (by decide +kernel) rfl rfl ?_
    refine wp_getS (idx := 77) (q := (h + 67)) (by decide +kernel) fl8_77 rfl ok.1 (okr8_15 ok) ?_
    refine wp_iconst (z := 1) (v := 1) (by decide +kernel) (by decide) ?_
    refine wp_iald (j := 1) (by decide +kernel) (oks8_15 ok) (vin_c (by decide)) (by decide) ?_
    refine wp_ldcw (idx := 370) (v := 1000000) (by decide +kernel) (in_g (List.mem_of_getElem? (i := 1005) (by decide +kernel)) rfl) ?_
    refine wp_icmp_ge (off := 12) (tgt := 145) (by decide +kernel) (by decide) (fun c2 => ?_) (fun c2 => ?_)
    · rw [if_pos c2] at H
      refine wp_iconst (z := 0) (v := 0) (by decide +kernel) (by decide) ?_
      exact wp_iret (by decide +kernel) rfl (Nat.zero_le _) (Nat.zero_le _) ⟨_, _, _, rfl, rfl, H⟩
    · rw [if_neg c2] at H
      refine wp_aload_n (z := 0) (i := 0) (r := (some h)) 0 (by decide +kernel) rfl rfl ?_
      refine wp_getS (idx := 77) (q := (h + 67)) (by decide +kernel) fl8_77 rfl ok.1 (okr8_15 ok) ?_
      refine wp_iconst (z := 1) (v := 1) (by decide +kernel) (by decide) ?_
      refine wp_iald (j := 1) (by decide +kernel) (oks8_15 ok) (vin_c (by decide)) (by decide) ?_
      refine wp_goto (off := 4) (tgt := 146) (by decide +kernel) (by decide) ?_
      exact wp_iret (by decide +kernel) rfl (Nat.zero_le _) (Nat.zero_le _) ⟨_, _, _, rfl, rfl, H⟩
  · rw [if_neg c1] at H
    refine wp_iload_n (z := 3) (i := 3) (x := x3) 2 (by decide +kernel) rfl rfl ?_
    refine wp_if_eq (off := 15) (tgt := 124) (by decide +kernel) (by decide) (fun c3 => ?_) (fun c3 => ?_)
    · rw [if_pos c3] at H
      refine wp_aload_n (z := 0) (i := 0) (r := (some h)) 0 (by decide +kernel) rfl rfl ?_
      refine wp_getS (idx := 77) (q := (h + 67)) (by decide +kernel) fl8_77 rfl ok.1 (okr8_15 ok) ?_
      refine wp_iconst (z := 1) (v := 1) (by decide +kernel) (by decide) ?_
      refine wp_iald (j := 1) (by decide +kernel) (oks8_15 ok) (vin_c (by decide)) (by decide) ?_
      refine wp_ldcw (idx := 370) (v := 1000000) (by decide +kernel) (in_g (List.mem_of_getElem? (i := 1005) (by decide +kernel)) rfl) ?_
      refine wp_icmp_ge (off := 12) (tgt := 145) (by decide +kernel) (by decide) (fun c4 => ?_) (fun c4 => ?_)
      · rw [if_pos c4] at H
        refine wp_iconst (z := 0) (v := 0) (by decide +kernel) (by decide) ?_
        exact wp_iret (by decide +kernel) rfl (Nat.zero_le _) (Nat.zero_le _) ⟨_, _, _, rfl, rfl, H⟩
      · rw [if_neg c4] at H
        refine wp_aload_n (z := 0) (i := 0) (r := (some h)) 0 (by decide +kernel) rfl rfl ?_
        refine wp_getS (idx := 77) (q := (h + 67)) (by decide +kernel) fl8_77 rfl ok.1 (okr8_15 ok) ?_
        refine wp_iconst (z := 1) (v := 1) (by decide +kernel) (by decide) ?_
        refine wp_iald (j := 1) (by decide +kernel) (oks8_15 ok) (vin_c (by decide)) (by decide) ?_
        refine wp_goto (off := 4) (tgt := 146) (by decide +kernel) (by decide) ?_
        exact wp_iret (by decide +kernel) rfl (Nat.zero_le _) (Nat.zero_le _) ⟨_, _, _, rfl, rfl, H⟩
    · rw [if_neg c3] at H
      refine wp_aload_n (z := 0) (i := 0) (r := (some h)) 0 (by decide +kernel) rfl rfl ?_
      refine wp_aload_n (z := 2) (i := 2) (r := (some a2)) 1 (by decide +kernel) rfl rfl ?_
      refine wp_callV (idx := 382) (B2 := B8_layFurther) (As := [.ref a2]) (a := h) (st := []) (by decide +kernel) m8_layFurther ml8_382 k8_layFurther e8_layFurther ck8 ok.1 (⟨Nat.le_of_ble_eq_true rfl, Nat.le_of_ble_eq_true rfl⟩ : rOK B8_code B8_layFurther) rfl (Nat.le_of_ble_eq_true rfl) (Nat.le_of_ble_eq_true rfl) ⟨Nat.le_of_ble_eq_true rfl, Nat.le_of_ble_eq_true rfl⟩ rfl (wp_mono H (fun v9 M9 hq9 => ?_))
      clear H
      obtain ⟨r7, I5, L6, rfl, rfl, H⟩ := hq9
      show wp X B8_code 117 [(0, .ref h), (2, .ref a2), (3, .int x3), (4, .int x4)] [.int r7] (G, I5, L6) 0 0 _
      refine wp_istore_n (z := 3) (i := 3) (lv' := [(3, .int r7), (0, .ref h), (2, .ref a2), (4, .int x4)]) (by decide +kernel) rfl (by decide) rfl ?_
      refine wp_iinc (i := 4) (z := 1) (v := 1) (lv' := [(4, .int (x4 + 1)), (3, .int r7), (0, .ref h), (2, .ref a2)]) 3 (by decide +kernel) rfl (by decide) (by decide) rfl ?_
      refine wp_goto (off := -23) (tgt := 98) (by decide +kernel) (by decide) ?_
      exact wp_sub [2, 3, 1, 0] rfl H
/-! DeafWall.ways(II)J -/
set_option maxRecDepth 20000 in
theorem b8_ways {X : XX} {G : GG} {I : Nat → Nat → Int32} {L : Nat → Nat → Int64} {h : Nat} {x1 : Int32} {x2 : Int32} {Q : Int64 → (Nat → Nat → Int32) → (Nat → Nat → Int64) → Prop} (ok : OK8 G h) (H : wpR X B8_wallAt 0 [(0, .ref h), (1, .int x1)] [] G I L (fun r3 I1 L2 => (r3 = none → Q (-1) I1 L2) ∧ (∀ q5, r3 = some q5 → if x2 < (0 : Int32) then (Q (-1) I1 L2) else (if x2 ≤ 20 then (wpV X B18_fillJ 0 [(0, .ref (h + 66)), (1, .long 0)] [] G I1 L2 (fun I8 L9 => ∀ L11, L11 = up2 L9 (h + 66) 0 1 → wpJ X B8_ways 42 [(0, .ref h), (2, .int x2), (3, .ref q5), (4, .int 1)] [] G I8 L11 Q)) else (Q (-1) I1 L2))))) : wpJ X B8_ways 0 [(0, .ref h), (1, .int x1), (2, .int x2)] [] G I L Q := by
  refine wp_aload_n (z := 0) (i := 0) (r := (some h)) 0 (by decide +kernel) rfl rfl ?_
  refine wp_iload_n (z := 1) (i := 1) (x := x1) 1 (by decide +kernel) rfl rfl ?_
  refine wp_callV (idx := 129) (B2 := B8_wallAt) (As := [.int x1]) (a := h) (st := []) (by decide +kernel) m8_wallAt ml8_129 k8_wallAt e8_wallAt ck8 ok.1 (⟨Nat.le_of_ble_eq_true rfl, Nat.le_of_ble_eq_true rfl⟩ : rOK B8_ways B8_wallAt) rfl (Nat.le_of_ble_eq_true rfl) (Nat.le_of_ble_eq_true rfl) ⟨Nat.le_of_ble_eq_true rfl, Nat.le_of_ble_eq_true rfl⟩ rfl (wp_mono H (fun v9 M9 hq9 => ?_))
  clear H
  obtain ⟨r3, I1, L2, rfl, rfl, H⟩ := hq9
  show wp X B8_ways 5 [(0, .ref h), (1, .int x1), (2, .int x2)] [va_rf r3] (G, I1, L2) 0 0 _
  refine wp_astore_n (z := 3) (i := 3) (lv' := [(3, va_rf r3), (0, .ref h), (1, .int x1), (2, .int x2)]) (r := r3) (by decide +kernel) rfl (by decide) (by cases r3 <;> rfl) ?_
  refine wp_aload_n (z := 3) (i := 3) (r := r3) 0 (by decide +kernel) rfl rfl ?_
  refine wp_ifnull (off := 13) (tgt := 20) (r := r3) (by decide +kernel) (by decide) (fun c4 => ?_) (fun q5 c4 => ?_)
  · replace H := H.1 c4
    subst c4
    show wp X B8_ways 20 [(3, .null), (0, .ref h), (1, .int x1), (2, .int x2)] [] (G, I1, L2) 0 0 _
    refine wp_ldc2 (idx := 348) (v := (-1)) (by decide +kernel) (in_g (List.mem_of_getElem? (i := 986) (by decide +kernel)) rfl) ?_
    exact wp_lret (by decide +kernel) rfl (Nat.zero_le _) (Nat.zero_le _) ⟨_, _, _, rfl, rfl, H⟩
  · replace H := H.2 q5 c4
    subst c4
    show wp X B8_ways 10 [(3, .ref q5), (0, .ref h), (1, .int x1), (2, .int x2)] [] (G, I1, L2) 0 0 _
    refine wp_iload_n (z := 2) (i := 2) (x := x2) 3 (by decide +kernel) rfl rfl ?_
    refine wp_if_lt (off := 9) (tgt := 20) (by decide +kernel) (by decide) (fun c6 => ?_) (fun c6 => ?_)
    · rw [if_pos c6] at H
      refine wp_ldc2 (idx := 348) (v := (-1)) (by decide +kernel) (in_g (List.mem_of_getElem? (i := 986) (by decide +kernel)) rfl) ?_
      exact wp_lret (by decide +kernel) rfl (Nat.zero_le _) (Nat.zero_le _) ⟨_, _, _, rfl, rfl, H⟩
    · rw [if_neg c6] at H
      refine wp_iload_n (z := 2) (i := 2) (x := x2) 3 (by decide +kernel) rfl rfl ?_
      refine wp_bipush (z := 20) (v := 20) (by decide +kernel) (by decide) ?_
      refine wp_icmp_le (off := 7) (tgt := 24) (by decide +kernel) (by decide) (fun c7 => ?_) (fun c7 => ?_)
      · rw [if_pos c7] at H
        refine wp_aload_n (z := 0) (i := 0) (r := (some h)) 1 (by decide +kernel) rfl rfl ?_
        refine wp_getS (idx := 74) (q := (h + 66)) (by decide +kernel) fl8_74 rfl ok.1 (okr8_14 ok) ?_
        refine wp_lconst (z := 0) (v := 0) (by decide +kernel) (by decide) ?_
        refine wp_callS (idx := 358) (B2 := B18_fillJ) (As := [.ref (h + 66), .long 0]) (st := []) (by decide +kernel) m18_fillJ ml8_358 k18_fillJ (⟨Nat.le_of_ble_eq_true rfl, Nat.le_of_ble_eq_true rfl⟩ : rOK B8_ways B18_fillJ) rfl (Nat.le_of_ble_eq_true rfl) (Nat.le_of_ble_eq_true rfl) ⟨Nat.le_of_ble_eq_true rfl, Nat.le_of_ble_eq_true rfl⟩ rfl (wp_mono H (fun v9 M9 hq9 => ?_))
        clear H
        obtain ⟨I8, L9, rfl, rfl, H⟩ := hq9
        show wp X B8_ways 32 [(3, .ref q5), (0, .ref h), (1, .int x1), (2, .int x2)] [] (G, I8, L9) 0 0 _
        refine wp_aload_n (z := 0) (i := 0) (r := (some h)) 1 (by decide +kernel) rfl rfl ?_
        refine wp_getS (idx := 74) (q := (h + 66)) (by decide +kernel) fl8_74 rfl ok.1 (okr8_14 ok) ?_
        refine wp_iconst (z := 0) (v := 0) (by decide +kernel) (by decide) ?_
        refine wp_lconst (z := 1) (v := 1) (by decide +kernel) (by decide) ?_
        refine wp_last (j := 0) (by decide +kernel) (oks8_14 ok) (vin_c (by decide)) (by decide) ?_
        refine wp_memL (fun L11 eL11 => ?_)
        replace H := H L11 eL11
        refine wp_iconst (z := 1) (v := 1) (by decide +kernel) (by decide) ?_
        refine wp_istore (i := 4) (lv' := [(4, .int 1), (3, .ref q5), (0, .ref h), (1, .int x1), (2, .int x2)]) (by decide +kernel) (by decide) rfl ?_
        exact wp_sub [2, 4, 1, 0] rfl H
      · rw [if_neg c7] at H
        refine wp_ldc2 (idx := 348) (v := (-1)) (by decide +kernel) (in_g (List.mem_of_getElem? (i := 986) (by decide +kernel)) rfl) ?_
        exact wp_lret (by decide +kernel) rfl (Nat.zero_le _) (Nat.zero_le _) ⟨_, _, _, rfl, rfl, H⟩
set_option maxRecDepth 20000 in
theorem b8_ways_42 {X : XX} {G : GG} {I : Nat → Nat → Int32} {L : Nat → Nat → Int64} {h : Nat} {x2 : Int32} {a3 : Nat} {x4 : Int32} {Q : Int64 → (Nat → Nat → Int32) → (Nat → Nat → Int64) → Prop} (ok : OK8 G h) (ok3 : OK7 G a3) (H : if x2 < x4 then (vp_in x2 21 ∧ (Q (L (h + 66) (cl x2)) I L)) else (wpJ X B8_ways 51 [(0, .ref h), (2, .int x2), (3, .ref a3), (4, .int x4), (5, .int 0)] [] G I L Q)) : wpJ X B8_ways 42 [(0, .ref h), (2, .int x2), (3, .ref a3), (4, .int x4)] [] G I L Q := by
  refine wp_iload (i := 4) (x := x4) 3 (by decide +kernel) rfl ?_
  refine wp_iload_n (z := 2) (i := 2) (x := x2) 1 (by decide +kernel) rfl rfl ?_
  refine wp_icmp_gt (off := 64) (tgt := 109) (by decide +kernel) (by decide) (fun c1 => ?_) (fun c1 => ?_)
  · rw [if_pos c1] at H
    refine wp_aload_n (z := 0) (i := 0) (r := (some h)) 0 (by decide +kernel) rfl rfl ?_
    refine wp_getS (idx := 74) (q := (h + 66)) (by decide +kernel) fl8_74 rfl ok.1 (okr8_14 ok) ?_
    refine wp_iload_n (z := 2) (i := 2) (x := x2) 1 (by decide +kernel) rfl rfl ?_
    obtain ⟨o2, H⟩ := H
    refine wp_lald (j := (cl x2)) (by decide +kernel) (oks8_14 ok) o2 rfl ?_
    exact wp_lret (by decide +kernel) rfl (Nat.zero_le _) (Nat.zero_le _) ⟨_, _, _, rfl, rfl, H⟩
  · rw [if_neg c1] at H
    refine wp_iconst (z := 0) (v := 0) (by decide +kernel) (by decide) ?_
    refine wp_istore (i := 5) (lv' := [(5, .int 0), (0, .ref h), (2, .int x2), (3, .ref a3), (4, .int x4)]) (by decide +kernel) (by decide) rfl ?_
    exact wp_sub [1, 2, 3, 4, 0] rfl H
set_option maxRecDepth 20000 in
theorem b8_ways_51 {X : XX} {G : GG} {I : Nat → Nat → Int32} {L : Nat → Nat → Int64} {h : Nat} {x2 : Int32} {a3 : Nat} {x4 : Int32} {x5 : Int32} {Q : Int64 → (Nat → Nat → Int32) → (Nat → Nat → Int64) → Prop} (ok : OK8 G h) (ok3 : OK7 G a3) (H : if (I a3 7) ≤ x5 then (wpJ X B8_ways 42 [(0, .ref h), (2, .int x2), (3, .ref a3), (4, .int (x4 + 1))] [] G I L Q) else (vp_in x5 6 ∧ (if x4 < (I (a3 + 4) (cl x5)) then (wpJ X B8_ways 51 [(0, .ref h), (2, .int x2), (3, .ref a3), (4, .int x4), (5, .int (x5 + 1))] [] G I L Q) else (vp_in x4 21 ∧ (vp_in x5 6 ∧ (vp_in (x4 - (I (a3 + 4) (cl x5))) 21 ∧ (vp_in x4 21 ∧ (∀ L3, L3 = up2 L (h + 66) (cl x4) ((L (h + 66) (cl x4)) + (L (h + 66) (cl (x4 - (I (a3 + 4) (cl x5)))))) → wpJ X B8_ways 51 [(0, .ref h), (2, .int x2), (3, .ref a3), (4, .int x4), (5, .int (x5 + 1))] [] G I L3 Q)))))))) : wpJ X B8_ways 51 [(0, .ref h), (2, .int x2), (3, .ref a3), (4, .int x4), (5, .int x5)] [] G I L Q := by
  refine wp_iload (i := 5) (x := x5) 4 (by decide +kernel) rfl ?_
  refine wp_aload_n (z := 3) (i := 3) (r := (some a3)) 2 (by decide +kernel) rfl rfl ?_
  refine wp_getI (idx := 172) (by decide +kernel) fl8_172 rfl ok3.1 ?_
  refine wp_icmp_ge (off := 46) (tgt := 103) (by decide +kernel) (by decide) (fun c1 => ?_) (fun c1 => ?_)
  · rw [if_pos c1] at H
    refine wp_iinc (i := 4) (z := 1) (v := 1) (lv' := [(4, .int (x4 + 1)), (0, .ref h), (2, .int x2), (3, .ref a3), (5, .int x5)]) 3 (by decide +kernel) rfl (by decide) (by decide) rfl ?_
    refine wp_goto (off := -64) (tgt := 42) (by decide +kernel) (by decide) ?_
    exact wp_sub [1, 2, 3, 0] rfl H
  · rw [if_neg c1] at H
    refine wp_aload_n (z := 3) (i := 3) (r := (some a3)) 2 (by decide +kernel) rfl rfl ?_
    refine wp_getS (idx := 148) (q := (a3 + 4)) (by decide +kernel) fl8_148 rfl ok3.1 (okr7_8 ok3) ?_
    refine wp_iload (i := 5) (x := x5) 4 (by decide +kernel) rfl ?_
    obtain ⟨o8, H⟩ := H
    refine wp_iald (j := (cl x5)) (by decide +kernel) (oks7_8 ok3) o8 rfl ?_
    refine wp_iload (i := 4) (x := x4) 3 (by decide +kernel) rfl ?_
    refine wp_icmp_gt (off := 28) (tgt := 97) (by decide +kernel) (by decide) (fun c2 => ?_) (fun c2 => ?_)
    · rw [if_pos c2] at H
      refine wp_iinc (i := 5) (z := 1) (v := 1) (lv' := [(5, .int (x5 + 1)), (0, .ref h), (2, .int x2), (3, .ref a3), (4, .int x4)]) 4 (by decide +kernel) rfl (by decide) (by decide) rfl ?_
      refine wp_goto (off := -49) (tgt := 51) (by decide +kernel) (by decide) ?_
      exact wp_sub [1, 2, 3, 4, 0] rfl H
    · rw [if_neg c2] at H
      refine wp_aload_n (z := 0) (i := 0) (r := (some h)) 0 (by decide +kernel) rfl rfl ?_
      refine wp_getS (idx := 74) (q := (h + 66)) (by decide +kernel) fl8_74 rfl ok.1 (okr8_14 ok) ?_
      refine wp_iload (i := 4) (x := x4) 3 (by decide +kernel) rfl ?_
      refine wp_dup2 (by decide +kernel) rfl rfl ?_
      obtain ⟨o7, H⟩ := H
      refine wp_lald (j := (cl x4)) (by decide +kernel) (oks8_14 ok) o7 rfl ?_
      refine wp_aload_n (z := 0) (i := 0) (r := (some h)) 0 (by decide +kernel) rfl rfl ?_
      refine wp_getS (idx := 74) (q := (h + 66)) (by decide +kernel) fl8_74 rfl ok.1 (okr8_14 ok) ?_
      refine wp_iload (i := 4) (x := x4) 3 (by decide +kernel) rfl ?_
      refine wp_aload_n (z := 3) (i := 3) (r := (some a3)) 2 (by decide +kernel) rfl rfl ?_
      refine wp_getS (idx := 148) (q := (a3 + 4)) (by decide +kernel) fl8_148 rfl ok3.1 (okr7_8 ok3) ?_
      refine wp_iload (i := 5) (x := x5) 4 (by decide +kernel) rfl ?_
      obtain ⟨o6, H⟩ := H
      refine wp_iald (j := (cl x5)) (by decide +kernel) (oks7_8 ok3) o6 rfl ?_
      refine wp_isub (by decide +kernel) ?_
      obtain ⟨o5, H⟩ := H
      refine wp_lald (j := (cl (x4 - (I (a3 + 4) (cl x5))))) (by decide +kernel) (oks8_14 ok) o5 rfl ?_
      refine wp_ladd (by decide +kernel) ?_
      obtain ⟨o4, H⟩ := H
      refine wp_last (j := (cl x4)) (by decide +kernel) (oks8_14 ok) o4 rfl ?_
      refine wp_memL (fun L3 eL3 => ?_)
      replace H := H L3 eL3
      refine wp_iinc (i := 5) (z := 1) (v := 1) (lv' := [(5, .int (x5 + 1)), (0, .ref h), (2, .int x2), (3, .ref a3), (4, .int x4)]) 4 (by decide +kernel) rfl (by decide) (by decide) rfl ?_
      refine wp_goto (off := -49) (tgt := 51) (by decide +kernel) (by decide) ?_
      exact wp_sub [1, 2, 3, 4, 0] rfl H
/-! DeafWall.alikeFromBehind(LDeafWall$Wall;II)I -/
set_option maxRecDepth 20000 in
theorem b8_alikeFromBehind {X : XX} {G : GG} {I : Nat → Nat → Int32} {L : Nat → Nat → Int64} {a0 : Nat} {x1 : Int32} {x2 : Int32} {Q : Int32 → (Nat → Nat → Int32) → (Nat → Nat → Int64) → Prop} (ok0 : OK7 G a0) (H : vp_in x1 6 ∧ (vp_in x2 6 ∧ (∀ u1, u1 = (mn (I (a0 + 4) (cl x1)) (I (a0 + 4) (cl x2))) → wpI X B8_alikeFromBehind 19 [(0, .ref a0), (1, .int x1), (2, .int x2), (3, .int u1), (4, .int 0)] [] G I L Q))) : wpI X B8_alikeFromBehind 0 [(0, .ref a0), (1, .int x1), (2, .int x2)] [] G I L Q := by
  refine wp_aload_n (z := 0) (i := 0) (r := (some a0)) 0 (by decide +kernel) rfl rfl ?_
  refine wp_getS (idx := 148) (q := (a0 + 4)) (by decide +kernel) fl8_148 rfl ok0.1 (okr7_8 ok0) ?_
  refine wp_iload_n (z := 1) (i := 1) (x := x1) 1 (by decide +kernel) rfl rfl ?_
  obtain ⟨o3, H⟩ := H
  refine wp_iald (j := (cl x1)) (by decide +kernel) (oks7_8 ok0) o3 rfl ?_
  refine wp_aload_n (z := 0) (i := 0) (r := (some a0)) 0 (by decide +kernel) rfl rfl ?_
  refine wp_getS (idx := 148) (q := (a0 + 4)) (by decide +kernel) fl8_148 rfl ok0.1 (okr7_8 ok0) ?_
  refine wp_iload_n (z := 2) (i := 2) (x := x2) 2 (by decide +kernel) rfl rfl ?_
  obtain ⟨o2, H⟩ := H
  refine wp_iald (j := (cl x2)) (by decide +kernel) (oks7_8 ok0) o2 rfl ?_
  refine wp_mmin (idx := 389) (by decide +kernel) (in_g (List.mem_of_getElem? (i := 1013) (by decide +kernel)) rfl) (in_g (List.mem_of_getElem? (i := 469) (by decide +kernel)) rfl) (in_g (List.mem_of_getElem? (i := 127) (by decide +kernel)) rfl) (in_g (List.mem_of_getElem? (i := 470) (by decide +kernel)) (by decide +kernel)) (Nat.le_of_ble_eq_true rfl) (Nat.le_of_ble_eq_true rfl) (Nat.le_of_ble_eq_true rfl) (Nat.le_of_ble_eq_true rfl) ?_
  refine wp_topi (fun u1 eu1 => ?_)
  replace H := H u1 eu1
  refine wp_istore_n (z := 3) (i := 3) (lv' := [(3, .int u1), (0, .ref a0), (1, .int x1), (2, .int x2)]) (by decide +kernel) rfl (by decide) rfl ?_
  refine wp_iconst (z := 0) (v := 0) (by decide +kernel) (by decide) ?_
  refine wp_istore (i := 4) (lv' := [(4, .int 0), (3, .int u1), (0, .ref a0), (1, .int x1), (2, .int x2)]) (by decide +kernel) (by decide) rfl ?_
  exact wp_sub [2, 3, 4, 1, 0] rfl H
set_option maxRecDepth 20000 in
theorem b8_alikeFromBehind_19 {X : XX} {G : GG} {I : Nat → Nat → Int32} {L : Nat → Nat → Int64} {a0 : Nat} {x1 : Int32} {x2 : Int32} {x3 : Int32} {x4 : Int32} {Q : Int32 → (Nat → Nat → Int32) → (Nat → Nat → Int64) → Prop} (ok0 : OK7 G a0) (H : if x3 ≤ x4 then (Q x3 I L) else (vp_in x1 6 ∧ (p8_markOf I a0 x1 (((I (a0 + 4) (cl x1)) - 1) - x4) ∧ (vp_in x2 6 ∧ (p8_markOf I a0 x2 (((I (a0 + 4) (cl x2)) - 1) - x4) ∧ (if (v8_markOf I a0 x1 (((I (a0 + 4) (cl x1)) - 1) - x4)) = (v8_markOf I a0 x2 (((I (a0 + 4) (cl x2)) - 1) - x4)) then (wpI X B8_alikeFromBehind 19 [(0, .ref a0), (1, .int x1), (2, .int x2), (3, .int x3), (4, .int (x4 + 1))] [] G I L Q) else (Q x4 I L))))))) : wpI X B8_alikeFromBehind 19 [(0, .ref a0), (1, .int x1), (2, .int x2), (3, .int x3), (4, .int x4)] [] G I L Q := by
  refine wp_iload (i := 4) (x := x4) 4 (by decide +kernel) rfl ?_
  refine wp_iload_n (z := 3) (i := 3) (x := x3) 3 (by decide +kernel) rfl rfl ?_
  refine wp_icmp_ge (off := 47) (tgt := 69) (by decide +kernel) (by decide) (fun c1 => ?_) (fun c1 => ?_)
  · rw [if_pos c1] at H
    refine wp_iload_n (z := 3) (i := 3) (x := x3) 3 (by decide +kernel) rfl rfl ?_
    exact wp_iret (by decide +kernel) rfl (Nat.zero_le _) (Nat.zero_le _) ⟨_, _, _, rfl, rfl, H⟩
  · rw [if_neg c1] at H
    refine wp_aload_n (z := 0) (i := 0) (r := (some a0)) 0 (by decide +kernel) rfl rfl ?_
    refine wp_iload_n (z := 1) (i := 1) (x := x1) 1 (by decide +kernel) rfl rfl ?_
    refine wp_aload_n (z := 0) (i := 0) (r := (some a0)) 0 (by decide +kernel) rfl rfl ?_
    refine wp_getS (idx := 148) (q := (a0 + 4)) (by decide +kernel) fl8_148 rfl ok0.1 (okr7_8 ok0) ?_
    refine wp_iload_n (z := 1) (i := 1) (x := x1) 1 (by decide +kernel) rfl rfl ?_
    obtain ⟨o6, H⟩ := H
    refine wp_iald (j := (cl x1)) (by decide +kernel) (oks7_8 ok0) o6 rfl ?_
    refine wp_iconst (z := 1) (v := 1) (by decide +kernel) (by decide) ?_
    refine wp_isub (by decide +kernel) ?_
    refine wp_iload (i := 4) (x := x4) 4 (by decide +kernel) rfl ?_
    refine wp_isub (by decide +kernel) ?_
    obtain ⟨o5, H⟩ := H
    refine wp_callS (idx := 408) (B2 := B8_markOf) (As := [.ref a0, .int x1, .int (((I (a0 + 4) (cl x1)) - 1) - x4)]) (st := []) (by decide +kernel) m8_markOf ml8_408 k8_markOf (⟨Nat.le_of_ble_eq_true rfl, Nat.le_of_ble_eq_true rfl⟩ : rOK B8_alikeFromBehind B8_markOf) rfl (Nat.le_of_ble_eq_true rfl) (Nat.le_of_ble_eq_true rfl) ⟨Nat.le_of_ble_eq_true rfl, Nat.le_of_ble_eq_true rfl⟩ rfl (wp_mono (b8_markOf (Q := (fun r I' L' => r = (v8_markOf I a0 x1 (((I (a0 + 4) (cl x1)) - 1) - x4)) ∧ I = I' ∧ L = L')) ok0 o5 ⟨rfl, rfl, rfl⟩) (fun v9 M9 hq9 => ?_))
    obtain ⟨_, _, _, rfl, rfl, rfl, rfl, rfl⟩ := hq9
    show wp X B8_alikeFromBehind 41 [(0, .ref a0), (1, .int x1), (2, .int x2), (3, .int x3), (4, .int x4)] [.int (v8_markOf I a0 x1 (((I (a0 + 4) (cl x1)) - 1) - x4))] (G, I, L) 0 0 _
    refine wp_aload_n (z := 0) (i := 0) (r := (some a0)) 0 (by decide +kernel) rfl rfl ?_
    refine wp_iload_n (z := 2) (i := 2) (x := x2) 2 (by decide +kernel) rfl rfl ?_
    refine wp_aload_n (z := 0) (i := 0) (r := (some a0)) 0 (by decide +kernel) rfl rfl ?_
    refine wp_getS (idx := 148) (q := (a0 + 4)) (by decide +kernel) fl8_148 rfl ok0.1 (okr7_8 ok0) ?_
    refine wp_iload_n (z := 2) (i := 2) (x := x2) 2 (by decide +kernel) rfl rfl ?_
    obtain ⟨o4, H⟩ := H
    refine wp_iald (j := (cl x2)) (by decide +kernel) (oks7_8 ok0) o4 rfl ?_
    refine wp_iconst (z := 1) (v := 1) (by decide +kernel) (by decide) ?_
    refine wp_isub (by decide +kernel) ?_
    refine wp_iload (i := 4) (x := x4) 4 (by decide +kernel) rfl ?_
    refine wp_isub (by decide +kernel) ?_
    obtain ⟨o3, H⟩ := H
    refine wp_callS (idx := 408) (B2 := B8_markOf) (As := [.ref a0, .int x2, .int (((I (a0 + 4) (cl x2)) - 1) - x4)]) (st := [.int (v8_markOf I a0 x1 (((I (a0 + 4) (cl x1)) - 1) - x4))]) (by decide +kernel) m8_markOf ml8_408 k8_markOf (⟨Nat.le_of_ble_eq_true rfl, Nat.le_of_ble_eq_true rfl⟩ : rOK B8_alikeFromBehind B8_markOf) rfl (Nat.le_of_ble_eq_true rfl) (Nat.le_of_ble_eq_true rfl) ⟨Nat.le_of_ble_eq_true rfl, Nat.le_of_ble_eq_true rfl⟩ rfl (wp_mono (b8_markOf (Q := (fun r I' L' => r = (v8_markOf I a0 x2 (((I (a0 + 4) (cl x2)) - 1) - x4)) ∧ I = I' ∧ L = L')) ok0 o3 ⟨rfl, rfl, rfl⟩) (fun v9 M9 hq9 => ?_))
    obtain ⟨_, _, _, rfl, rfl, rfl, rfl, rfl⟩ := hq9
    show wp X B8_alikeFromBehind 57 [(0, .ref a0), (1, .int x1), (2, .int x2), (3, .int x3), (4, .int x4)] [.int (v8_markOf I a0 x2 (((I (a0 + 4) (cl x2)) - 1) - x4)), .int (v8_markOf I a0 x1 (((I (a0 + 4) (cl x1)) - 1) - x4))] (G, I, L) 0 0 _
    refine wp_icmp_eq (off := 6) (tgt := 63) (by decide +kernel) (by decide) (fun c2 => ?_) (fun c2 => ?_)
    · rw [if_pos c2] at H
      refine wp_iinc (i := 4) (z := 1) (v := 1) (lv' := [(4, .int (x4 + 1)), (0, .ref a0), (1, .int x1), (2, .int x2), (3, .int x3)]) 4 (by decide +kernel) rfl (by decide) (by decide) rfl ?_
      refine wp_goto (off := -47) (tgt := 19) (by decide +kernel) (by decide) ?_
      exact wp_sub [1, 2, 3, 4, 0] rfl H
    · rw [if_neg c2] at H
      refine wp_iload (i := 4) (x := x4) 4 (by decide +kernel) rfl ?_
      exact wp_iret (by decide +kernel) rfl (Nat.zero_le _) (Nat.zero_le _) ⟨_, _, _, rfl, rfl, H⟩
/-! DeafWall.alikeFrom(LDeafWall$Wall;IIII)I -/
set_option maxRecDepth 20000 in
theorem b8_alikeFrom {X : XX} {G : GG} {I : Nat → Nat → Int32} {L : Nat → Nat → Int64} {a0 : Nat} {x1 : Int32} {x2 : Int32} {x3 : Int32} {x4 : Int32} {Q : Int32 → (Nat → Nat → Int32) → (Nat → Nat → Int64) → Prop} (ok0 : OK7 G a0) (H : vp_in x1 6 ∧ (vp_in x3 6 ∧ (∀ u1, u1 = (mn ((I (a0 + 4) (cl x1)) - x2) ((I (a0 + 4) (cl x3)) - x4)) → wpI X B8_alikeFrom 25 [(0, .ref a0), (1, .int x1), (2, .int x2), (3, .int x3), (4, .int x4), (5, .int u1), (6, .int 0)] [] G I L Q))) : wpI X B8_alikeFrom 0 [(0, .ref a0), (1, .int x1), (2, .int x2), (3, .int x3), (4, .int x4)] [] G I L Q := by
  refine wp_aload_n (z := 0) (i := 0) (r := (some a0)) 0 (by decide +kernel) rfl rfl ?_
  refine wp_getS (idx := 148) (q := (a0 + 4)) (by decide +kernel) fl8_148 rfl ok0.1 (okr7_8 ok0) ?_
  refine wp_iload_n (z := 1) (i := 1) (x := x1) 1 (by decide +kernel) rfl rfl ?_
  obtain ⟨o3, H⟩ := H
  refine wp_iald (j := (cl x1)) (by decide +kernel) (oks7_8 ok0) o3 rfl ?_
  refine wp_iload_n (z := 2) (i := 2) (x := x2) 2 (by decide +kernel) rfl rfl ?_
  refine wp_isub (by decide +kernel) ?_
  refine wp_aload_n (z := 0) (i := 0) (r := (some a0)) 0 (by decide +kernel) rfl rfl ?_
  refine wp_getS (idx := 148) (q := (a0 + 4)) (by decide +kernel) fl8_148 rfl ok0.1 (okr7_8 ok0) ?_
  refine wp_iload_n (z := 3) (i := 3) (x := x3) 3 (by decide +kernel) rfl rfl ?_
  obtain ⟨o2, H⟩ := H
  refine wp_iald (j := (cl x3)) (by decide +kernel) (oks7_8 ok0) o2 rfl ?_
  refine wp_iload (i := 4) (x := x4) 4 (by decide +kernel) rfl ?_
  refine wp_isub (by decide +kernel) ?_
  refine wp_mmin (idx := 389) (by decide +kernel) (in_g (List.mem_of_getElem? (i := 1013) (by decide +kernel)) rfl) (in_g (List.mem_of_getElem? (i := 469) (by decide +kernel)) rfl) (in_g (List.mem_of_getElem? (i := 127) (by decide +kernel)) rfl) (in_g (List.mem_of_getElem? (i := 470) (by decide +kernel)) (by decide +kernel)) (Nat.le_of_ble_eq_true rfl) (Nat.le_of_ble_eq_true rfl) (Nat.le_of_ble_eq_true rfl) (Nat.le_of_ble_eq_true rfl) ?_
  refine wp_topi (fun u1 eu1 => ?_)
  replace H := H u1 eu1
  refine wp_istore (i := 5) (lv' := [(5, .int u1), (0, .ref a0), (1, .int x1), (2, .int x2), (3, .int x3), (4, .int x4)]) (by decide +kernel) (by decide) rfl ?_
  refine wp_iconst (z := 0) (v := 0) (by decide +kernel) (by decide) ?_
  refine wp_istore (i := 6) (lv' := [(6, .int 0), (5, .int u1), (0, .ref a0), (1, .int x1), (2, .int x2), (3, .int x3), (4, .int x4)]) (by decide +kernel) (by decide) rfl ?_
  exact wp_sub [2, 3, 4, 5, 6, 1, 0] rfl H
set_option maxRecDepth 20000 in
theorem b8_alikeFrom_25 {X : XX} {G : GG} {I : Nat → Nat → Int32} {L : Nat → Nat → Int64} {a0 : Nat} {x1 : Int32} {x2 : Int32} {x3 : Int32} {x4 : Int32} {x5 : Int32} {x6 : Int32} {Q : Int32 → (Nat → Nat → Int32) → (Nat → Nat → Int64) → Prop} (ok0 : OK7 G a0) (H : if x5 ≤ x6 then (Q x5 I L) else (p8_markOf I a0 x1 (x2 + x6) ∧ (p8_markOf I a0 x3 (x4 + x6) ∧ (if (v8_markOf I a0 x1 (x2 + x6)) = (v8_markOf I a0 x3 (x4 + x6)) then (wpI X B8_alikeFrom 25 [(0, .ref a0), (1, .int x1), (2, .int x2), (3, .int x3), (4, .int x4), (5, .int x5), (6, .int (x6 + 1))] [] G I L Q) else (Q x6 I L))))) : wpI X B8_alikeFrom 25 [(0, .ref a0), (1, .int x1), (2, .int x2), (3, .int x3), (4, .int x4), (5, .int x5), (6, .int x6)] [] G I L Q := by
  refine wp_iload (i := 6) (x := x6) 6 (by decide +kernel) rfl ?_
  refine wp_iload (i := 5) (x := x5) 5 (by decide +kernel) rfl ?_
  refine wp_icmp_ge (off := 34) (tgt := 63) (by decide +kernel) (by decide) (fun c1 => ?_) (fun c1 => ?_)
  · rw [if_pos c1] at H
    refine wp_iload (i := 5) (x := x5) 5 (by decide +kernel) rfl ?_
    exact wp_iret (by decide +kernel) rfl (Nat.zero_le _) (Nat.zero_le _) ⟨_, _, _, rfl, rfl, H⟩
  · rw [if_neg c1] at H
    refine wp_aload_n (z := 0) (i := 0) (r := (some a0)) 0 (by decide +kernel) rfl rfl ?_
    refine wp_iload_n (z := 1) (i := 1) (x := x1) 1 (by decide +kernel) rfl rfl ?_
    refine wp_iload_n (z := 2) (i := 2) (x := x2) 2 (by decide +kernel) rfl rfl ?_
    refine wp_iload (i := 6) (x := x6) 6 (by decide +kernel) rfl ?_
    refine wp_iadd (by decide +kernel) ?_
    obtain ⟨o4, H⟩ := H
    refine wp_callS (idx := 408) (B2 := B8_markOf) (As := [.ref a0, .int x1, .int (x2 + x6)]) (st := []) (by decide +kernel) m8_markOf ml8_408 k8_markOf (⟨Nat.le_of_ble_eq_true rfl, Nat.le_of_ble_eq_true rfl⟩ : rOK B8_alikeFrom B8_markOf) rfl (Nat.le_of_ble_eq_true rfl) (Nat.le_of_ble_eq_true rfl) ⟨Nat.le_of_ble_eq_true rfl, Nat.le_of_ble_eq_true rfl⟩ rfl (wp_mono (b8_markOf (Q := (fun r I' L' => r = (v8_markOf I a0 x1 (x2 + x6)) ∧ I = I' ∧ L = L')) ok0 o4 ⟨rfl, rfl, rfl⟩) (fun v9 M9 hq9 => ?_))
    obtain ⟨_, _, _, rfl, rfl, rfl, rfl, rfl⟩ := hq9
    show wp X B8_alikeFrom 41 [(0, .ref a0), (1, .int x1), (2, .int x2), (3, .int x3), (4, .int x4), (5, .int x5), (6, .int x6)] [.int (v8_markOf I a0 x1 (x2 + x6))] (G, I, L) 0 0 _
    refine wp_aload_n (z := 0) (i := 0) (r := (some a0)) 0 (by decide +kernel) rfl rfl ?_
    refine wp_iload_n (z := 3) (i := 3) (x := x3) 3 (by decide +kernel) rfl rfl ?_
    refine wp_iload (i := 4) (x := x4) 4 (by decide +kernel) rfl ?_
    refine wp_iload (i := 6) (x := x6) 6 (by decide +kernel) rfl ?_
    refine wp_iadd (by decide +kernel) ?_
    obtain ⟨o3, H⟩ := H
    refine wp_callS (idx := 408) (B2 := B8_markOf) (As := [.ref a0, .int x3, .int (x4 + x6)]) (st := [.int (v8_markOf I a0 x1 (x2 + x6))]) (by decide +kernel) m8_markOf ml8_408 k8_markOf (⟨Nat.le_of_ble_eq_true rfl, Nat.le_of_ble_eq_true rfl⟩ : rOK B8_alikeFrom B8_markOf) rfl (Nat.le_of_ble_eq_true rfl) (Nat.le_of_ble_eq_true rfl) ⟨Nat.le_of_ble_eq_true rfl, Nat.le_of_ble_eq_true rfl⟩ rfl (wp_mono (b8_markOf (Q := (fun r I' L' => r = (v8_markOf I a0 x3 (x4 + x6)) ∧ I = I' ∧ L = L')) ok0 o3 ⟨rfl, rfl, rfl⟩) (fun v9 M9 hq9 => ?_))
    obtain ⟨_, _, _, rfl, rfl, rfl, rfl, rfl⟩ := hq9
    show wp X B8_alikeFrom 51 [(0, .ref a0), (1, .int x1), (2, .int x2), (3, .int x3), (4, .int x4), (5, .int x5), (6, .int x6)] [.int (v8_markOf I a0 x3 (x4 + x6)), .int (v8_markOf I a0 x1 (x2 + x6))] (G, I, L) 0 0 _
    refine wp_icmp_eq (off := 6) (tgt := 57) (by decide +kernel) (by decide) (fun c2 => ?_) (fun c2 => ?_)
    · rw [if_pos c2] at H
      refine wp_iinc (i := 6) (z := 1) (v := 1) (lv' := [(6, .int (x6 + 1)), (0, .ref a0), (1, .int x1), (2, .int x2), (3, .int x3), (4, .int x4), (5, .int x5)]) 6 (by decide +kernel) rfl (by decide) (by decide) rfl ?_
      refine wp_goto (off := -35) (tgt := 25) (by decide +kernel) (by decide) ?_
      exact wp_sub [1, 2, 3, 4, 5, 6, 0] rfl H
    · rw [if_neg c2] at H
      refine wp_iload (i := 6) (x := x6) 6 (by decide +kernel) rfl ?_
      exact wp_iret (by decide +kernel) rfl (Nat.zero_le _) (Nat.zero_le _) ⟨_, _, _, rfl, rfl, H⟩
/-! DeafWall.longestShared(LDeafWall$Wall;II)I -/
set_option maxRecDepth 20000 in
theorem b8_longestShared {X : XX} {G : GG} {I : Nat → Nat → Int32} {L : Nat → Nat → Int64} {a0 : Nat} {x1 : Int32} {x2 : Int32} {Q : Int32 → (Nat → Nat → Int32) → (Nat → Nat → Int64) → Prop} (ok0 : OK7 G a0) (H : wpI X B8_longestShared 5 [(0, .ref a0), (1, .int x1), (2, .int x2), (3, .int 0), (4, .int 0)] [] G I L Q) : wpI X B8_longestShared 0 [(0, .ref a0), (1, .int x1), (2, .int x2)] [] G I L Q := by
  refine wp_iconst (z := 0) (v := 0) (by decide +kernel) (by decide) ?_
  refine wp_istore_n (z := 3) (i := 3) (lv' := [(3, .int 0), (0, .ref a0), (1, .int x1), (2, .int x2)]) (by decide +kernel) rfl (by decide) rfl ?_
  refine wp_iconst (z := 0) (v := 0) (by decide +kernel) (by decide) ?_
  refine wp_istore (i := 4) (lv' := [(4, .int 0), (3, .int 0), (0, .ref a0), (1, .int x1), (2, .int x2)]) (by decide +kernel) (by decide) rfl ?_
  exact wp_sub [2, 3, 4, 1, 0] rfl H
set_option maxRecDepth 20000 in
theorem b8_longestShared_5 {X : XX} {G : GG} {I : Nat → Nat → Int32} {L : Nat → Nat → Int64} {a0 : Nat} {x1 : Int32} {x2 : Int32} {x3 : Int32} {x4 : Int32} {Q : Int32 → (Nat → Nat → Int32) → (Nat → Nat → Int64) → Prop} (ok0 : OK7 G a0) (H : vp_in x1 6 ∧ (if (I (a0 + 4) (cl x1)) ≤ x4 then (Q x3 I L) else (wpI X B8_longestShared 19 [(0, .ref a0), (1, .int x1), (2, .int x2), (3, .int x3), (4, .int x4), (5, .int 0)] [] G I L Q))) : wpI X B8_longestShared 5 [(0, .ref a0), (1, .int x1), (2, .int x2), (3, .int x3), (4, .int x4)] [] G I L Q := by
  refine wp_iload (i := 4) (x := x4) 4 (by decide +kernel) rfl ?_
  refine wp_aload_n (z := 0) (i := 0) (r := (some a0)) 0 (by decide +kernel) rfl rfl ?_
  refine wp_getS (idx := 148) (q := (a0 + 4)) (by decide +kernel) fl8_148 rfl ok0.1 (okr7_8 ok0) ?_
  refine wp_iload_n (z := 1) (i := 1) (x := x1) 1 (by decide +kernel) rfl rfl ?_
  obtain ⟨o2, H⟩ := H
  refine wp_iald (j := (cl x1)) (by decide +kernel) (oks7_8 ok0) o2 rfl ?_
  refine wp_icmp_ge (off := 44) (tgt := 57) (by decide +kernel) (by decide) (fun c1 => ?_) (fun c1 => ?_)
  · rw [if_pos c1] at H
    refine wp_iload_n (z := 3) (i := 3) (x := x3) 3 (by decide +kernel) rfl rfl ?_
    exact wp_iret (by decide +kernel) rfl (Nat.zero_le _) (Nat.zero_le _) ⟨_, _, _, rfl, rfl, H⟩
  · rw [if_neg c1] at H
    refine wp_iconst (z := 0) (v := 0) (by decide +kernel) (by decide) ?_
    refine wp_istore (i := 5) (lv' := [(5, .int 0), (0, .ref a0), (1, .int x1), (2, .int x2), (3, .int x3), (4, .int x4)]) (by decide +kernel) (by decide) rfl ?_
    exact wp_sub [1, 2, 3, 4, 5, 0] rfl H
set_option maxRecDepth 20000 in
theorem b8_longestShared_19 {X : XX} {G : GG} {I : Nat → Nat → Int32} {L : Nat → Nat → Int64} {a0 : Nat} {x1 : Int32} {x2 : Int32} {x3 : Int32} {x4 : Int32} {x5 : Int32} {Q : Int32 → (Nat → Nat → Int32) → (Nat → Nat → Int64) → Prop} (ok0 : OK7 G a0) (H : vp_in x2 6 ∧ (if (I (a0 + 4) (cl x2)) ≤ x5 then (wpI X B8_longestShared 5 [(0, .ref a0), (1, .int x1), (2, .int x2), (3, .int x3), (4, .int (x4 + 1))] [] G I L Q) else (wpI X B8_alikeFrom 0 [(0, .ref a0), (1, .int x1), (2, .int x4), (3, .int x2), (4, .int x5)] [] G I L (fun r4 I2 L3 => wpI X B8_longestShared 19 [(0, .ref a0), (1, .int x1), (2, .int x2), (3, .int (mx x3 r4)), (4, .int x4), (5, .int (x5 + 1))] [] G I2 L3 Q)))) : wpI X B8_longestShared 19 [(0, .ref a0), (1, .int x1), (2, .int x2), (3, .int x3), (4, .int x4), (5, .int x5)] [] G I L Q := by
  refine wp_iload (i := 5) (x := x5) 5 (by decide +kernel) rfl ?_
  refine wp_aload_n (z := 0) (i := 0) (r := (some a0)) 0 (by decide +kernel) rfl rfl ?_
  refine wp_getS (idx := 148) (q := (a0 + 4)) (by decide +kernel) fl8_148 rfl ok0.1 (okr7_8 ok0) ?_
  refine wp_iload_n (z := 2) (i := 2) (x := x2) 2 (by decide +kernel) rfl rfl ?_
  obtain ⟨o5, H⟩ := H
  refine wp_iald (j := (cl x2)) (by decide +kernel) (oks7_8 ok0) o5 rfl ?_
  refine wp_icmp_ge (off := 24) (tgt := 51) (by decide +kernel) (by decide) (fun c1 => ?_) (fun c1 => ?_)
  · rw [if_pos c1] at H
    refine wp_iinc (i := 4) (z := 1) (v := 1) (lv' := [(4, .int (x4 + 1)), (0, .ref a0), (1, .int x1), (2, .int x2), (3, .int x3), (5, .int x5)]) 4 (by decide +kernel) rfl (by decide) (by decide) rfl ?_
    refine wp_goto (off := -49) (tgt := 5) (by decide +kernel) (by decide) ?_
    exact wp_sub [1, 2, 3, 4, 0] rfl H
  · rw [if_neg c1] at H
    refine wp_iload_n (z := 3) (i := 3) (x := x3) 3 (by decide +kernel) rfl rfl ?_
    refine wp_aload_n (z := 0) (i := 0) (r := (some a0)) 0 (by decide +kernel) rfl rfl ?_
    refine wp_iload_n (z := 1) (i := 1) (x := x1) 1 (by decide +kernel) rfl rfl ?_
    refine wp_iload (i := 4) (x := x4) 4 (by decide +kernel) rfl ?_
    refine wp_iload_n (z := 2) (i := 2) (x := x2) 2 (by decide +kernel) rfl rfl ?_
    refine wp_iload (i := 5) (x := x5) 5 (by decide +kernel) rfl ?_
    refine wp_callS (idx := 398) (B2 := B8_alikeFrom) (As := [.ref a0, .int x1, .int x4, .int x2, .int x5]) (st := [.int x3]) (by decide +kernel) m8_alikeFrom ml8_398 k8_alikeFrom (⟨Nat.le_of_ble_eq_true rfl, Nat.le_of_ble_eq_true rfl⟩ : rOK B8_longestShared B8_alikeFrom) rfl (Nat.le_of_ble_eq_true rfl) (Nat.le_of_ble_eq_true rfl) ⟨Nat.le_of_ble_eq_true rfl, Nat.le_of_ble_eq_true rfl⟩ rfl (wp_mono H (fun v9 M9 hq9 => ?_))
    clear H
    obtain ⟨r4, I2, L3, rfl, rfl, H⟩ := hq9
    show wp X B8_longestShared 41 [(0, .ref a0), (1, .int x1), (2, .int x2), (3, .int x3), (4, .int x4), (5, .int x5)] [.int r4, .int x3] (G, I2, L3) 0 0 _
    refine wp_mmax (idx := 333) (by decide +kernel) (in_g (List.mem_of_getElem? (i := 749) (by decide +kernel)) rfl) (in_g (List.mem_of_getElem? (i := 646) (by decide +kernel)) rfl) (in_g (List.mem_of_getElem? (i := 127) (by decide +kernel)) rfl) (in_g (List.mem_of_getElem? (i := 647) (by decide +kernel)) (by decide +kernel)) (Nat.le_of_ble_eq_true rfl) (Nat.le_of_ble_eq_true rfl) (Nat.le_of_ble_eq_true rfl) (Nat.le_of_ble_eq_true rfl) ?_
    refine wp_istore_n (z := 3) (i := 3) (lv' := [(3, .int (mx x3 r4)), (0, .ref a0), (1, .int x1), (2, .int x2), (4, .int x4), (5, .int x5)]) (by decide +kernel) rfl (by decide) rfl ?_
    refine wp_iinc (i := 5) (z := 1) (v := 1) (lv' := [(5, .int (x5 + 1)), (3, .int (mx x3 r4)), (0, .ref a0), (1, .int x1), (2, .int x2), (4, .int x4)]) 5 (by decide +kernel) rfl (by decide) (by decide) rfl ?_
    refine wp_goto (off := -29) (tgt := 19) (by decide +kernel) (by decide) ?_
    exact wp_sub [2, 3, 4, 1, 5, 0] rfl H
/-! DeafWall.isTurned(LDeafWall$Wall;II)Z -/
set_option maxRecDepth 20000 in
theorem b8_isTurned {X : XX} {G : GG} {I : Nat → Nat → Int32} {L : Nat → Nat → Int64} {a0 : Nat} {x1 : Int32} {x2 : Int32} {Q : Int32 → (Nat → Nat → Int32) → (Nat → Nat → Int64) → Prop} (ok0 : OK7 G a0) (H : vp_in x1 6 ∧ (∀ u1, u1 = (I (a0 + 4) (cl x1)) → vp_in x2 6 ∧ (if u1 = (I (a0 + 4) (cl x2)) then (wpI X B8_isTurned 22 [(0, .ref a0), (1, .int x1), (2, .int x2), (3, .int u1), (4, .int 0)] [] G I L Q) else (Q 0 I L)))) : wpI X B8_isTurned 0 [(0, .ref a0), (1, .int x1), (2, .int x2)] [] G I L Q := by
  refine wp_aload_n (z := 0) (i := 0) (r := (some a0)) 0 (by decide +kernel) rfl rfl ?_
  refine wp_getS (idx := 148) (q := (a0 + 4)) (by decide +kernel) fl8_148 rfl ok0.1 (okr7_8 ok0) ?_
  refine wp_iload_n (z := 1) (i := 1) (x := x1) 1 (by decide +kernel) rfl rfl ?_
  obtain ⟨o4, H⟩ := H
  refine wp_iald (j := (cl x1)) (by decide +kernel) (oks7_8 ok0) o4 rfl ?_
  refine wp_topi (fun u1 eu1 => ?_)
  replace H := H u1 eu1
  refine wp_istore_n (z := 3) (i := 3) (lv' := [(3, .int u1), (0, .ref a0), (1, .int x1), (2, .int x2)]) (by decide +kernel) rfl (by decide) rfl ?_
  refine wp_iload_n (z := 3) (i := 3) (x := u1) 0 (by decide +kernel) rfl rfl ?_
  refine wp_aload_n (z := 0) (i := 0) (r := (some a0)) 1 (by decide +kernel) rfl rfl ?_
  refine wp_getS (idx := 148) (q := (a0 + 4)) (by decide +kernel) fl8_148 rfl ok0.1 (okr7_8 ok0) ?_
  refine wp_iload_n (z := 2) (i := 2) (x := x2) 3 (by decide +kernel) rfl rfl ?_
  obtain ⟨o3, H⟩ := H
  refine wp_iald (j := (cl x2)) (by decide +kernel) (oks7_8 ok0) o3 rfl ?_
  refine wp_icmp_eq (off := 5) (tgt := 19) (by decide +kernel) (by decide) (fun c2 => ?_) (fun c2 => ?_)
  · rw [if_pos c2] at H
    refine wp_iconst (z := 0) (v := 0) (by decide +kernel) (by decide) ?_
    refine wp_istore (i := 4) (lv' := [(4, .int 0), (3, .int u1), (0, .ref a0), (1, .int x1), (2, .int x2)]) (by decide +kernel) (by decide) rfl ?_
    exact wp_sub [2, 3, 4, 1, 0] rfl H
  · rw [if_neg c2] at H
    refine wp_iconst (z := 0) (v := 0) (by decide +kernel) (by decide) ?_
    exact wp_zret (by decide +kernel) rfl (by decide) (Nat.zero_le _) (Nat.zero_le _) ⟨_, _, _, rfl, rfl, H⟩
set_option maxRecDepth 20000 in
theorem b8_isTurned_22 {X : XX} {G : GG} {I : Nat → Nat → Int32} {L : Nat → Nat → Int64} {a0 : Nat} {x1 : Int32} {x2 : Int32} {x3 : Int32} {x4 : Int32} {Q : Int32 → (Nat → Nat → Int32) → (Nat → Nat → Int64) → Prop} (ok0 : OK7 G a0) (H : if x3 ≤ x4 then (Q 1 I L) else (p8_markOf I a0 x1 x4 ∧ (p8_markOf I a0 x2 ((x3 - 1) - x4) ∧ (if (v8_markOf I a0 x1 x4) = (v8_markOf I a0 x2 ((x3 - 1) - x4)) then (wpI X B8_isTurned 22 [(0, .ref a0), (1, .int x1), (2, .int x2), (3, .int x3), (4, .int (x4 + 1))] [] G I L Q) else (Q 0 I L))))) : wpI X B8_isTurned 22 [(0, .ref a0), (1, .int x1), (2, .int x2), (3, .int x3), (4, .int x4)] [] G I L Q := by
  refine wp_iload (i := 4) (x := x4) 4 (by decide +kernel) rfl ?_
  refine wp_iload_n (z := 3) (i := 3) (x := x3) 3 (by decide +kernel) rfl rfl ?_
  refine wp_icmp_ge (off := 32) (tgt := 57) (by decide +kernel) (by decide) (fun c1 => ?_) (fun c1 => ?_)
  · rw [if_pos c1] at H
    refine wp_iconst (z := 1) (v := 1) (by decide +kernel) (by decide) ?_
    exact wp_zret (by decide +kernel) rfl (by decide) (Nat.zero_le _) (Nat.zero_le _) ⟨_, _, _, rfl, rfl, H⟩
  · rw [if_neg c1] at H
    refine wp_aload_n (z := 0) (i := 0) (r := (some a0)) 0 (by decide +kernel) rfl rfl ?_
    refine wp_iload_n (z := 1) (i := 1) (x := x1) 1 (by decide +kernel) rfl rfl ?_
    refine wp_iload (i := 4) (x := x4) 4 (by decide +kernel) rfl ?_
    obtain ⟨o4, H⟩ := H
    refine wp_callS (idx := 408) (B2 := B8_markOf) (As := [.ref a0, .int x1, .int x4]) (st := []) (by decide +kernel) m8_markOf ml8_408 k8_markOf (⟨Nat.le_of_ble_eq_true rfl, Nat.le_of_ble_eq_true rfl⟩ : rOK B8_isTurned B8_markOf) rfl (Nat.le_of_ble_eq_true rfl) (Nat.le_of_ble_eq_true rfl) ⟨Nat.le_of_ble_eq_true rfl, Nat.le_of_ble_eq_true rfl⟩ rfl (wp_mono (b8_markOf (Q := (fun r I' L' => r = (v8_markOf I a0 x1 x4) ∧ I = I' ∧ L = L')) ok0 o4 ⟨rfl, rfl, rfl⟩) (fun v9 M9 hq9 => ?_))
    obtain ⟨_, _, _, rfl, rfl, rfl, rfl, rfl⟩ := hq9
    show wp X B8_isTurned 35 [(0, .ref a0), (1, .int x1), (2, .int x2), (3, .int x3), (4, .int x4)] [.int (v8_markOf I a0 x1 x4)] (G, I, L) 0 0 _
    refine wp_aload_n (z := 0) (i := 0) (r := (some a0)) 0 (by decide +kernel) rfl rfl ?_
    refine wp_iload_n (z := 2) (i := 2) (x := x2) 2 (by decide +kernel) rfl rfl ?_
    refine wp_iload_n (z := 3) (i := 3) (x := x3) 3 (by decide +kernel) rfl rfl ?_
    refine wp_iconst (z := 1) (v := 1) (by decide +kernel) (by decide) ?_
    refine wp_isub (by decide +kernel) ?_
    refine wp_iload (i := 4) (x := x4) 4 (by decide +kernel) rfl ?_
    refine wp_isub (by decide +kernel) ?_
    obtain ⟨o3, H⟩ := H
    refine wp_callS (idx := 408) (B2 := B8_markOf) (As := [.ref a0, .int x2, .int ((x3 - 1) - x4)]) (st := [.int (v8_markOf I a0 x1 x4)]) (by decide +kernel) m8_markOf ml8_408 k8_markOf (⟨Nat.le_of_ble_eq_true rfl, Nat.le_of_ble_eq_true rfl⟩ : rOK B8_isTurned B8_markOf) rfl (Nat.le_of_ble_eq_true rfl) (Nat.le_of_ble_eq_true rfl) ⟨Nat.le_of_ble_eq_true rfl, Nat.le_of_ble_eq_true rfl⟩ rfl (wp_mono (b8_markOf (Q := (fun r I' L' => r = (v8_markOf I a0 x2 ((x3 - 1) - x4)) ∧ I = I' ∧ L = L')) ok0 o3 ⟨rfl, rfl, rfl⟩) (fun v9 M9 hq9 => ?_))
    obtain ⟨_, _, _, rfl, rfl, rfl, rfl, rfl⟩ := hq9
    show wp X B8_isTurned 46 [(0, .ref a0), (1, .int x1), (2, .int x2), (3, .int x3), (4, .int x4)] [.int (v8_markOf I a0 x2 ((x3 - 1) - x4)), .int (v8_markOf I a0 x1 x4)] (G, I, L) 0 0 _
    refine wp_icmp_eq (off := 5) (tgt := 51) (by decide +kernel) (by decide) (fun c2 => ?_) (fun c2 => ?_)
    · rw [if_pos c2] at H
      refine wp_iinc (i := 4) (z := 1) (v := 1) (lv' := [(4, .int (x4 + 1)), (0, .ref a0), (1, .int x1), (2, .int x2), (3, .int x3)]) 4 (by decide +kernel) rfl (by decide) (by decide) rfl ?_
      refine wp_goto (off := -32) (tgt := 22) (by decide +kernel) (by decide) ?_
      exact wp_sub [1, 2, 3, 4, 0] rfl H
    · rw [if_neg c2] at H
      refine wp_iconst (z := 0) (v := 0) (by decide +kernel) (by decide) ?_
      exact wp_zret (by decide +kernel) rfl (by decide) (Nat.zero_le _) (Nat.zero_le _) ⟨_, _, _, rfl, rfl, H⟩
/-! DeafWall.rhyme(IIII)I -/
set_option maxRecDepth 20000 in
theorem b8_rhyme {X : XX} {G : GG} {I : Nat → Nat → Int32} {L : Nat → Nat → Int64} {h : Nat} {x1 : Int32} {x2 : Int32} {x3 : Int32} {x4 : Int32} {Q : Int32 → (Nat → Nat → Int32) → (Nat → Nat → Int64) → Prop} (ok : OK8 G h) (H : wpR X B8_wallAt 0 [(0, .ref h), (1, .int x1)] [] G I L (fun r3 I1 L2 => (r3 = none → Q (-1) I1 L2) ∧ (∀ q5, r3 = some q5 → OK7 G q5 ∧ (if (v7_hasTale I1 q5 x2) = (0 : Int32) then (Q (-1) I1 L2) else (if (v7_hasTale I1 q5 x3) = (0 : Int32) then (Q (-1) I1 L2) else (if x4 = 0 then (wpI X B8_alikeFromBehind 0 [(0, .ref q5), (1, .int x2), (2, .int x3)] [] G I1 L2 (fun r12 I10 L11 => Q r12 I10 L11)) else (if x4 = 1 then (wpI X B8_alikeFrom 0 [(0, .ref q5), (1, .int x2), (2, .int 0), (3, .int x3), (4, .int 0)] [] G I1 L2 (fun r16 I14 L15 => Q r16 I14 L15)) else (if x4 = 2 then (wpI X B8_longestShared 0 [(0, .ref q5), (1, .int x2), (2, .int x3)] [] G I1 L2 (fun r20 I18 L19 => vp_in x2 6 ∧ (if r20 = (I18 (q5 + 4) (cl x2)) then (Q 1 I18 L19) else (Q 0 I18 L19)))) else (if x4 = 3 then (wpI X B8_longestShared 0 [(0, .ref q5), (1, .int x2), (2, .int x3)] [] G I1 L2 (fun r26 I24 L25 => Q r26 I24 L25)) else (if x4 = 4 then (wpI X B8_isTurned 0 [(0, .ref q5), (1, .int x2), (2, .int x3)] [] G I1 L2 (fun r30 I28 L29 => if r30 = (0 : Int32) then (Q 0 I28 L29) else (Q 1 I28 L29))) else (Q (-1) I1 L2))))))))))) : wpI X B8_rhyme 0 [(0, .ref h), (1, .int x1), (2, .int x2), (3, .int x3), (4, .int x4)] [] G I L Q := by
  refine wp_aload_n (z := 0) (i := 0) (r := (some h)) 0 (by decide +kernel) rfl rfl ?_
  refine wp_iload_n (z := 1) (i := 1) (x := x1) 1 (by decide +kernel) rfl rfl ?_
  refine wp_callV (idx := 129) (B2 := B8_wallAt) (As := [.int x1]) (a := h) (st := []) (by decide +kernel) m8_wallAt ml8_129 k8_wallAt e8_wallAt ck8 ok.1 (⟨Nat.le_of_ble_eq_true rfl, Nat.le_of_ble_eq_true rfl⟩ : rOK B8_rhyme B8_wallAt) rfl (Nat.le_of_ble_eq_true rfl) (Nat.le_of_ble_eq_true rfl) ⟨Nat.le_of_ble_eq_true rfl, Nat.le_of_ble_eq_true rfl⟩ rfl (wp_mono H (fun v9 M9 hq9 => ?_))
  clear H
  obtain ⟨r3, I1, L2, rfl, rfl, H⟩ := hq9
  show wp X B8_rhyme 5 [(0, .ref h), (1, .int x1), (2, .int x2), (3, .int x3), (4, .int x4)] [va_rf r3] (G, I1, L2) 0 0 _
  refine wp_astore (i := 5) (lv' := [(5, va_rf r3), (0, .ref h), (1, .int x1), (2, .int x2), (3, .int x3), (4, .int x4)]) (r := r3) (by decide +kernel) (by decide) (by cases r3 <;> rfl) ?_
  refine wp_aload (i := 5) (r := r3) 0 (by decide +kernel) rfl ?_
  refine wp_ifnull (off := 21) (tgt := 30) (r := r3) (by decide +kernel) (by decide) (fun c4 => ?_) (fun q5 c4 => ?_)
  · replace H := H.1 c4
    subst c4
    show wp X B8_rhyme 30 [(5, .null), (0, .ref h), (1, .int x1), (2, .int x2), (3, .int x3), (4, .int x4)] [] (G, I1, L2) 0 0 _
    refine wp_iconst (z := -1) (v := (-1)) (by decide +kernel) (by decide) ?_
    exact wp_iret (by decide +kernel) rfl (Nat.zero_le _) (Nat.zero_le _) ⟨_, _, _, rfl, rfl, H⟩
  · replace H := H.2 q5 c4
    subst c4
    show wp X B8_rhyme 12 [(5, .ref q5), (0, .ref h), (1, .int x1), (2, .int x2), (3, .int x3), (4, .int x4)] [] (G, I1, L2) 0 0 _
    refine wp_aload (i := 5) (r := (some q5)) 0 (by decide +kernel) rfl ?_
    refine wp_iload_n (z := 2) (i := 2) (x := x2) 3 (by decide +kernel) rfl rfl ?_
    obtain ⟨f6, H⟩ := H
    refine wp_callV (idx := 142) (B2 := B7_hasTale) (As := [.int x2]) (a := q5) (st := []) (by decide +kernel) m7_hasTale ml8_142 k7_hasTale e7_hasTale ck7 f6.1 (⟨Nat.le_of_ble_eq_true rfl, Nat.le_of_ble_eq_true rfl⟩ : rOK B8_rhyme B7_hasTale) rfl (Nat.le_of_ble_eq_true rfl) (Nat.le_of_ble_eq_true rfl) ⟨Nat.le_of_ble_eq_true rfl, Nat.le_of_ble_eq_true rfl⟩ rfl (wp_mono (b7_hasTale (Q := (fun r I' L' => r = (v7_hasTale I1 q5 x2) ∧ I1 = I' ∧ L2 = L')) f6 ⟨rfl, rfl, rfl⟩) (fun v9 M9 hq9 => ?_))
    obtain ⟨_, _, _, rfl, rfl, rfl, rfl, rfl⟩ := hq9
    show wp X B8_rhyme 18 [(5, .ref q5), (0, .ref h), (1, .int x1), (2, .int x2), (3, .int x3), (4, .int x4)] [.int (v7_hasTale I1 q5 x2)] (G, I1, L2) 0 0 _
    refine wp_if_eq (off := 12) (tgt := 30) (by decide +kernel) (by decide) (fun c7 => ?_) (fun c7 => ?_)
    · rw [if_pos c7] at H
      refine wp_iconst (z := -1) (v := (-1)) (by decide +kernel) (by decide) ?_
      exact wp_iret (by decide +kernel) rfl (Nat.zero_le _) (Nat.zero_le _) ⟨_, _, _, rfl, rfl, H⟩
    · rw [if_neg c7] at H
      refine wp_aload (i := 5) (r := (some q5)) 0 (by decide +kernel) rfl ?_
      refine wp_iload_n (z := 3) (i := 3) (x := x3) 4 (by decide +kernel) rfl rfl ?_
      refine wp_callV (idx := 142) (B2 := B7_hasTale) (As := [.int x3]) (a := q5) (st := []) (by decide +kernel) m7_hasTale ml8_142 k7_hasTale e7_hasTale ck7 f6.1 (⟨Nat.le_of_ble_eq_true rfl, Nat.le_of_ble_eq_true rfl⟩ : rOK B8_rhyme B7_hasTale) rfl (Nat.le_of_ble_eq_true rfl) (Nat.le_of_ble_eq_true rfl) ⟨Nat.le_of_ble_eq_true rfl, Nat.le_of_ble_eq_true rfl⟩ rfl (wp_mono (b7_hasTale (Q := (fun r I' L' => r = (v7_hasTale I1 q5 x3) ∧ I1 = I' ∧ L2 = L')) f6 ⟨rfl, rfl, rfl⟩) (fun v9 M9 hq9 => ?_))
      obtain ⟨_, _, _, rfl, rfl, rfl, rfl, rfl⟩ := hq9
      show wp X B8_rhyme 27 [(5, .ref q5), (0, .ref h), (1, .int x1), (2, .int x2), (3, .int x3), (4, .int x4)] [.int (v7_hasTale I1 q5 x3)] (G, I1, L2) 0 0 _
      refine wp_if_ne (off := 5) (tgt := 32) (by decide +kernel) (by decide) (fun c8 => ?_) (fun c8 => ?_)
      · rw [if_neg c8] at H
        refine wp_iload (i := 4) (x := x4) 5 (by decide +kernel) rfl ?_
        by_cases c9 : x4 = 0
        · rw [if_pos c9] at H
          refine wp_tableIn (dflt := 99) (lo := 0) (hi := 4) (offs := #[34, 42, 52, 75, 83]) (len := 34) (off := 34) (tgt := 68) (by decide +kernel) (by rw [c9]; decide) (by rw [c9]; decide) (by rw [c9]; rfl) (by decide) ?_
          refine wp_aload (i := 5) (r := (some q5)) 0 (by decide +kernel) rfl ?_
          refine wp_iload_n (z := 2) (i := 2) (x := x2) 3 (by decide +kernel) rfl rfl ?_
          refine wp_iload_n (z := 3) (i := 3) (x := x3) 4 (by decide +kernel) rfl rfl ?_
          refine wp_callS (idx := 395) (B2 := B8_alikeFromBehind) (As := [.ref q5, .int x2, .int x3]) (st := []) (by decide +kernel) m8_alikeFromBehind ml8_395 k8_alikeFromBehind (⟨Nat.le_of_ble_eq_true rfl, Nat.le_of_ble_eq_true rfl⟩ : rOK B8_rhyme B8_alikeFromBehind) rfl (Nat.le_of_ble_eq_true rfl) (Nat.le_of_ble_eq_true rfl) ⟨Nat.le_of_ble_eq_true rfl, Nat.le_of_ble_eq_true rfl⟩ rfl (wp_mono H (fun v9 M9 hq9 => ?_))
          clear H
          obtain ⟨r12, I10, L11, rfl, rfl, H⟩ := hq9
          show wp X B8_rhyme 75 [(5, .ref q5), (0, .ref h), (1, .int x1), (2, .int x2), (3, .int x3), (4, .int x4)] [.int r12] (G, I10, L11) 0 0 _
          exact wp_iret (by decide +kernel) rfl (Nat.zero_le _) (Nat.zero_le _) ⟨_, _, _, rfl, rfl, H⟩
        rw [if_neg c9] at H
        by_cases c13 : x4 = 1
        · rw [if_pos c13] at H
          refine wp_tableIn (dflt := 99) (lo := 0) (hi := 4) (offs := #[34, 42, 52, 75, 83]) (len := 34) (off := 42) (tgt := 76) (by decide +kernel) (by rw [c13]; decide) (by rw [c13]; decide) (by rw [c13]; rfl) (by decide) ?_
          refine wp_aload (i := 5) (r := (some q5)) 0 (by decide +kernel) rfl ?_
          refine wp_iload_n (z := 2) (i := 2) (x := x2) 3 (by decide +kernel) rfl rfl ?_
          refine wp_iconst (z := 0) (v := 0) (by decide +kernel) (by decide) ?_
          refine wp_iload_n (z := 3) (i := 3) (x := x3) 4 (by decide +kernel) rfl rfl ?_
          refine wp_iconst (z := 0) (v := 0) (by decide +kernel) (by decide) ?_
          refine wp_callS (idx := 398) (B2 := B8_alikeFrom) (As := [.ref q5, .int x2, .int 0, .int x3, .int 0]) (st := []) (by decide +kernel) m8_alikeFrom ml8_398 k8_alikeFrom (⟨Nat.le_of_ble_eq_true rfl, Nat.le_of_ble_eq_true rfl⟩ : rOK B8_rhyme B8_alikeFrom) rfl (Nat.le_of_ble_eq_true rfl) (Nat.le_of_ble_eq_true rfl) ⟨Nat.le_of_ble_eq_true rfl, Nat.le_of_ble_eq_true rfl⟩ rfl (wp_mono H (fun v9 M9 hq9 => ?_))
          clear H
          obtain ⟨r16, I14, L15, rfl, rfl, H⟩ := hq9
          show wp X B8_rhyme 85 [(5, .ref q5), (0, .ref h), (1, .int x1), (2, .int x2), (3, .int x3), (4, .int x4)] [.int r16] (G, I14, L15) 0 0 _
          exact wp_iret (by decide +kernel) rfl (Nat.zero_le _) (Nat.zero_le _) ⟨_, _, _, rfl, rfl, H⟩
        rw [if_neg c13] at H
        by_cases c17 : x4 = 2
        · rw [if_pos c17] at H
          refine wp_tableIn (dflt := 99) (lo := 0) (hi := 4) (offs := #[34, 42, 52, 75, 83]) (len := 34) (off := 52) (tgt := 86) (by decide +kernel) (by rw [c17]; decide) (by rw [c17]; decide) (by rw [c17]; rfl) (by decide) ?_
          refine wp_aload (i := 5) (r := (some q5)) 0 (by decide +kernel) rfl ?_
          refine wp_iload_n (z := 2) (i := 2) (x := x2) 3 (by decide +kernel) rfl rfl ?_
          refine wp_iload_n (z := 3) (i := 3) (x := x3) 4 (by decide +kernel) rfl rfl ?_
          refine wp_callS (idx := 402) (B2 := B8_longestShared) (As := [.ref q5, .int x2, .int x3]) (st := []) (by decide +kernel) m8_longestShared ml8_402 k8_longestShared (⟨Nat.le_of_ble_eq_true rfl, Nat.le_of_ble_eq_true rfl⟩ : rOK B8_rhyme B8_longestShared) rfl (Nat.le_of_ble_eq_true rfl) (Nat.le_of_ble_eq_true rfl) ⟨Nat.le_of_ble_eq_true rfl, Nat.le_of_ble_eq_true rfl⟩ rfl (wp_mono H (fun v9 M9 hq9 => ?_))
          clear H
          obtain ⟨r20, I18, L19, rfl, rfl, H⟩ := hq9
          show wp X B8_rhyme 93 [(5, .ref q5), (0, .ref h), (1, .int x1), (2, .int x2), (3, .int x3), (4, .int x4)] [.int r20] (G, I18, L19) 0 0 _
          refine wp_aload (i := 5) (r := (some q5)) 0 (by decide +kernel) rfl ?_
          refine wp_getS (idx := 148) (q := (q5 + 4)) (by decide +kernel) fl8_148 rfl f6.1 (okr7_8 f6) ?_
          refine wp_iload_n (z := 2) (i := 2) (x := x2) 3 (by decide +kernel) rfl rfl ?_
          obtain ⟨o22, H⟩ := H
          refine wp_iald (j := (cl x2)) (by decide +kernel) (oks7_8 f6) o22 rfl ?_
          refine wp_icmp_ne (off := 7) (tgt := 107) (by decide +kernel) (by decide) (fun c21 => ?_) (fun c21 => ?_)
          · rw [if_neg c21] at H
            refine wp_iconst (z := 0) (v := 0) (by decide +kernel) (by decide) ?_
            exact wp_iret (by decide +kernel) rfl (Nat.zero_le _) (Nat.zero_le _) ⟨_, _, _, rfl, rfl, H⟩
          · rw [if_pos c21] at H
            refine wp_iconst (z := 1) (v := 1) (by decide +kernel) (by decide) ?_
            refine wp_goto (off := 4) (tgt := 108) (by decide +kernel) (by decide) ?_
            exact wp_iret (by decide +kernel) rfl (Nat.zero_le _) (Nat.zero_le _) ⟨_, _, _, rfl, rfl, H⟩
        rw [if_neg c17] at H
        by_cases c23 : x4 = 3
        · rw [if_pos c23] at H
          refine wp_tableIn (dflt := 99) (lo := 0) (hi := 4) (offs := #[34, 42, 52, 75, 83]) (len := 34) (off := 75) (tgt := 109) (by decide +kernel) (by rw [c23]; decide) (by rw [c23]; decide) (by rw [c23]; rfl) (by decide) ?_
          refine wp_aload (i := 5) (r := (some q5)) 0 (by decide +kernel) rfl ?_
          refine wp_iload_n (z := 2) (i := 2) (x := x2) 3 (by decide +kernel) rfl rfl ?_
          refine wp_iload_n (z := 3) (i := 3) (x := x3) 4 (by decide +kernel) rfl rfl ?_
          refine wp_callS (idx := 402) (B2 := B8_longestShared) (As := [.ref q5, .int x2, .int x3]) (st := []) (by decide +kernel) m8_longestShared ml8_402 k8_longestShared (⟨Nat.le_of_ble_eq_true rfl, Nat.le_of_ble_eq_true rfl⟩ : rOK B8_rhyme B8_longestShared) rfl (Nat.le_of_ble_eq_true rfl) (Nat.le_of_ble_eq_true rfl) ⟨Nat.le_of_ble_eq_true rfl, Nat.le_of_ble_eq_true rfl⟩ rfl (wp_mono H (fun v9 M9 hq9 => ?_))
          clear H
          obtain ⟨r26, I24, L25, rfl, rfl, H⟩ := hq9
          show wp X B8_rhyme 116 [(5, .ref q5), (0, .ref h), (1, .int x1), (2, .int x2), (3, .int x3), (4, .int x4)] [.int r26] (G, I24, L25) 0 0 _
          exact wp_iret (by decide +kernel) rfl (Nat.zero_le _) (Nat.zero_le _) ⟨_, _, _, rfl, rfl, H⟩
        rw [if_neg c23] at H
        by_cases c27 : x4 = 4
        · rw [if_pos c27] at H
          refine wp_tableIn (dflt := 99) (lo := 0) (hi := 4) (offs := #[34, 42, 52, 75, 83]) (len := 34) (off := 83) (tgt := 117) (by decide +kernel) (by rw [c27]; decide) (by rw [c27]; decide) (by rw [c27]; rfl) (by decide) ?_
          refine wp_aload (i := 5) (r := (some q5)) 0 (by decide +kernel) rfl ?_
          refine wp_iload_n (z := 2) (i := 2) (x := x2) 3 (by decide +kernel) rfl rfl ?_
          refine wp_iload_n (z := 3) (i := 3) (x := x3) 4 (by decide +kernel) rfl rfl ?_
          refine wp_callS (idx := 405) (B2 := B8_isTurned) (As := [.ref q5, .int x2, .int x3]) (st := []) (by decide +kernel) m8_isTurned ml8_405 k8_isTurned (⟨Nat.le_of_ble_eq_true rfl, Nat.le_of_ble_eq_true rfl⟩ : rOK B8_rhyme B8_isTurned) rfl (Nat.le_of_ble_eq_true rfl) (Nat.le_of_ble_eq_true rfl) ⟨Nat.le_of_ble_eq_true rfl, Nat.le_of_ble_eq_true rfl⟩ rfl (wp_mono H (fun v9 M9 hq9 => ?_))
          clear H
          obtain ⟨r30, I28, L29, rfl, rfl, H⟩ := hq9
          show wp X B8_rhyme 124 [(5, .ref q5), (0, .ref h), (1, .int x1), (2, .int x2), (3, .int x3), (4, .int x4)] [.int r30] (G, I28, L29) 0 0 _
          refine wp_if_eq (off := 7) (tgt := 131) (by decide +kernel) (by decide) (fun c31 => ?_) (fun c31 => ?_)
          · rw [if_pos c31] at H
            refine wp_iconst (z := 0) (v := 0) (by decide +kernel) (by decide) ?_
            exact wp_iret (by decide +kernel) rfl (Nat.zero_le _) (Nat.zero_le _) ⟨_, _, _, rfl, rfl, H⟩
          · rw [if_neg c31] at H
            refine wp_iconst (z := 1) (v := 1) (by decide +kernel) (by decide) ?_
            refine wp_goto (off := 4) (tgt := 132) (by decide +kernel) (by decide) ?_
            exact wp_iret (by decide +kernel) rfl (Nat.zero_le _) (Nat.zero_le _) ⟨_, _, _, rfl, rfl, H⟩
        rw [if_neg c27] at H
        have qc9 := sw_ne c9 (z := 0) (by decide)
        have qc13 := sw_ne c13 (z := 1) (by decide)
        have qc17 := sw_ne c17 (z := 2) (by decide)
        have qc23 := sw_ne c23 (z := 3) (by decide)
        have qc27 := sw_ne c27 (z := 4) (by decide)
        refine wp_tableOut (dflt := 99) (lo := 0) (hi := 4) (offs := #[34, 42, 52, 75, 83]) (len := 34) (tgt := 133) (by decide +kernel) (by omega) (by decide) ?_
        refine wp_iconst (z := -1) (v := (-1)) (by decide +kernel) (by decide) ?_
        exact wp_iret (by decide +kernel) rfl (Nat.zero_le _) (Nat.zero_le _) ⟨_, _, _, rfl, rfl, H⟩
      · rw [if_pos c8] at H
        refine wp_iconst (z := -1) (v := (-1)) (by decide +kernel) (by decide) ?_
        exact wp_iret (by decide +kernel) rfl (Nat.zero_le _) (Nat.zero_le _) ⟨_, _, _, rfl, rfl, H⟩
/-! DeafWall.factsAreSo(LDeafWall$Wall;LDeafWall$Lines;I)Z -/
set_option maxRecDepth 20000 in
theorem b8_factsAreSo {X : XX} {G : GG} {I : Nat → Nat → Int32} {L : Nat → Nat → Int64} {h : Nat} {a1 : Nat} {a2 : Nat} {na2 : Nat} {x3 : Int32} {Q : Int32 → (Nat → Nat → Int32) → (Nat → Nat → Int64) → Prop} (ok : OK8 G h) (ok1 : OK7 G a1) (ok2 : OK2 G a2 na2) (H : wpI X B8_factsAreSo 3 [(0, .ref h), (1, .ref a1), (2, .ref a2), (3, .int x3), (4, .int 0)] [] G I L Q) : wpI X B8_factsAreSo 0 [(0, .ref h), (1, .ref a1), (2, .ref a2), (3, .int x3)] [] G I L Q := by
  refine wp_iconst (z := 0) (v := 0) (by decide +kernel) (by decide) ?_
  refine wp_istore (i := 4) (lv' := [(4, .int 0), (0, .ref h), (1, .ref a1), (2, .ref a2), (3, .int x3)]) (by decide +kernel) (by decide) rfl ?_
  exact wp_sub [1, 2, 3, 4, 0] rfl H
set_option maxRecDepth 20000 in
theorem b8_factsAreSo_3 {X : XX} {G : GG} {I : Nat → Nat → Int32} {L : Nat → Nat → Int64} {h : Nat} {a1 : Nat} {a2 : Nat} {na2 : Nat} {x3 : Int32} {x4 : Int32} {Q : Int32 → (Nat → Nat → Int32) → (Nat → Nat → Int64) → Prop} (ok : OK8 G h) (ok1 : OK7 G a1) (ok2 : OK2 G a2 na2) (H : if (I a2 0) ≤ x4 then (Q 1 I L) else (vp_in x4 na2 ∧ (if (v7_hasFeeler I a1 (I (a2 + 2) (cl x4))) = (0 : Int32) then (Q 0 I L) else (vp_in x4 na2 ∧ (vp_in (I (a2 + 2) (cl x4)) 6 ∧ (wpI X B8_feltBy 0 [(0, .int (I (h + 58) (cl (I (a2 + 2) (cl x4))))), (1, .int x3)] [] G I L (fun r5 I3 L4 => vp_in x4 na2 ∧ (if ((r5 >>> ((I3 (a2 + 3) (cl x4)) &&& 31)) &&& 1) = 1 then (vp_in x4 na2 ∧ (if (I3 (a2 + 1) (cl x4)) = (0 : Int32) then (wpI X B8_factsAreSo 3 [(0, .ref h), (1, .ref a1), (2, .ref a2), (3, .int x3), (4, .int (x4 + 1))] [] G I3 L4 Q) else (Q 0 I3 L4))) else (vp_in x4 na2 ∧ (if (I3 (a2 + 1) (cl x4)) = (0 : Int32) then (Q 0 I3 L4) else (wpI X B8_factsAreSo 3 [(0, .ref h), (1, .ref a1), (2, .ref a2), (3, .int x3), (4, .int (x4 + 1))] [] G I3 L4 Q))))))))))) : wpI X B8_factsAreSo 3 [(0, .ref h), (1, .ref a1), (2, .ref a2), (3, .int x3), (4, .int x4)] [] G I L Q := by
  refine wp_iload (i := 4) (x := x4) 4 (by decide +kernel) rfl ?_
  refine wp_aload_n (z := 2) (i := 2) (r := (some a2)) 2 (by decide +kernel) rfl rfl ?_
  refine wp_getI (idx := 183) (by decide +kernel) fl8_183 rfl ok2.1 ?_
  refine wp_icmp_ge (off := 84) (tgt := 93) (by decide +kernel) (by decide) (fun c1 => ?_) (fun c1 => ?_)
  · rw [if_pos c1] at H
    refine wp_iconst (z := 1) (v := 1) (by decide +kernel) (by decide) ?_
    exact wp_zret (by decide +kernel) rfl (by decide) (Nat.zero_le _) (Nat.zero_le _) ⟨_, _, _, rfl, rfl, H⟩
  · rw [if_neg c1] at H
    refine wp_aload_n (z := 1) (i := 1) (r := (some a1)) 1 (by decide +kernel) rfl rfl ?_
    refine wp_aload_n (z := 2) (i := 2) (r := (some a2)) 2 (by decide +kernel) rfl rfl ?_
    refine wp_getS (idx := 191) (q := (a2 + 2)) (by decide +kernel) fl8_191 rfl ok2.1 (okr2_2 ok2) ?_
    refine wp_iload (i := 4) (x := x4) 4 (by decide +kernel) rfl ?_
    obtain ⟨o19, H⟩ := H
    refine wp_iald (j := (cl x4)) (by decide +kernel) (oks2_2 ok2) o19 rfl ?_
    refine wp_callV (idx := 151) (B2 := B7_hasFeeler) (As := [.int (I (a2 + 2) (cl x4))]) (a := a1) (st := []) (by decide +kernel) m7_hasFeeler ml8_151 k7_hasFeeler e7_hasFeeler ck7 ok1.1 (⟨Nat.le_of_ble_eq_true rfl, Nat.le_of_ble_eq_true rfl⟩ : rOK B8_factsAreSo B7_hasFeeler) rfl (Nat.le_of_ble_eq_true rfl) (Nat.le_of_ble_eq_true rfl) ⟨Nat.le_of_ble_eq_true rfl, Nat.le_of_ble_eq_true rfl⟩ rfl (wp_mono (b7_hasFeeler (Q := (fun r I' L' => r = (v7_hasFeeler I a1 (I (a2 + 2) (cl x4))) ∧ I = I' ∧ L = L')) ok1 ⟨rfl, rfl, rfl⟩) (fun v9 M9 hq9 => ?_))
    obtain ⟨_, _, _, rfl, rfl, rfl, rfl, rfl⟩ := hq9
    show wp X B8_factsAreSo 23 [(0, .ref h), (1, .ref a1), (2, .ref a2), (3, .int x3), (4, .int x4)] [.int (v7_hasFeeler I a1 (I (a2 + 2) (cl x4)))] (G, I, L) 0 0 _
    refine wp_if_ne (off := 5) (tgt := 28) (by decide +kernel) (by decide) (fun c2 => ?_) (fun c2 => ?_)
    · rw [if_neg c2] at H
      refine wp_aload_n (z := 0) (i := 0) (r := (some h)) 0 (by decide +kernel) rfl rfl ?_
      refine wp_getS (idx := 48) (q := (h + 58)) (by decide +kernel) fl8_48 rfl ok.1 (okr8_6 ok) ?_
      refine wp_aload_n (z := 2) (i := 2) (r := (some a2)) 2 (by decide +kernel) rfl rfl ?_
      refine wp_getS (idx := 191) (q := (a2 + 2)) (by decide +kernel) fl8_191 rfl ok2.1 (okr2_2 ok2) ?_
      refine wp_iload (i := 4) (x := x4) 4 (by decide +kernel) rfl ?_
      obtain ⟨o17, H⟩ := H
      refine wp_iald (j := (cl x4)) (by decide +kernel) (oks2_2 ok2) o17 rfl ?_
      obtain ⟨o16, H⟩ := H
      refine wp_iald (j := (cl (I (a2 + 2) (cl x4)))) (by decide +kernel) (oks8_6 ok) o16 rfl ?_
      refine wp_iload_n (z := 3) (i := 3) (x := x3) 3 (by decide +kernel) rfl rfl ?_
      refine wp_callS (idx := 272) (B2 := B8_feltBy) (As := [.int (I (h + 58) (cl (I (a2 + 2) (cl x4)))), .int x3]) (st := []) (by decide +kernel) m8_feltBy ml8_272 k8_feltBy (⟨Nat.le_of_ble_eq_true rfl, Nat.le_of_ble_eq_true rfl⟩ : rOK B8_factsAreSo B8_feltBy) rfl (Nat.le_of_ble_eq_true rfl) (Nat.le_of_ble_eq_true rfl) ⟨Nat.le_of_ble_eq_true rfl, Nat.le_of_ble_eq_true rfl⟩ rfl (wp_mono H (fun v9 M9 hq9 => ?_))
      clear H
      obtain ⟨r5, I3, L4, rfl, rfl, H⟩ := hq9
      show wp X B8_factsAreSo 44 [(0, .ref h), (1, .ref a1), (2, .ref a2), (3, .int x3), (4, .int x4)] [.int r5] (G, I3, L4) 0 0 _
      refine wp_aload_n (z := 2) (i := 2) (r := (some a2)) 2 (by decide +kernel) rfl rfl ?_
      refine wp_getS (idx := 194) (q := (a2 + 3)) (by decide +kernel) fl8_194 rfl ok2.1 (okr2_3 ok2) ?_
      refine wp_iload (i := 4) (x := x4) 4 (by decide +kernel) rfl ?_
      obtain ⟨o15, H⟩ := H
      refine wp_iald (j := (cl x4)) (by decide +kernel) (oks2_3 ok2) o15 rfl ?_
      refine wp_ishr (by decide +kernel) ?_
      refine wp_iconst (z := 1) (v := 1) (by decide +kernel) (by decide) ?_
      refine wp_iand (by decide +kernel) ?_
      refine wp_iconst (z := 1) (v := 1) (by decide +kernel) (by decide) ?_
      refine wp_icmp_ne (off := 7) (tgt := 62) (by decide +kernel) (by decide) (fun c6 => ?_) (fun c6 => ?_)
      · rw [if_neg c6] at H
        refine wp_iconst (z := 0) (v := 0) (by decide +kernel) (by decide) ?_
        refine wp_istore (i := 5) (lv' := [(5, .int 0), (0, .ref h), (1, .ref a1), (2, .ref a2), (3, .int x3), (4, .int x4)]) (by decide +kernel) (by decide) rfl ?_
        refine wp_iload (i := 5) (x := 0) 0 (by decide +kernel) rfl ?_
        refine wp_aload_n (z := 2) (i := 2) (r := (some a2)) 3 (by decide +kernel) rfl rfl ?_
        refine wp_getS (idx := 188) (q := (a2 + 1)) (by decide +kernel) fl8_188 rfl ok2.1 (okr2_1 ok2) ?_
        refine wp_iload (i := 4) (x := x4) 5 (by decide +kernel) rfl ?_
        obtain ⟨o10, H⟩ := H
        refine wp_iald (j := (cl x4)) (by decide +kernel) (oks2_1 ok2) o10 rfl ?_
        refine wp_if_ne (off := 7) (tgt := 81) (by decide +kernel) (by decide) (fun c7 => ?_) (fun c7 => ?_)
        · rw [if_neg c7] at H
          refine wp_iconst (z := 0) (v := 0) (by decide +kernel) (by decide) ?_
          refine wp_icmp_eq (off := 5) (tgt := 87) (by decide +kernel) (by decide) (fun _ => ?_) (fun c9 => absurd c9 (by decide))
          refine wp_iinc (i := 4) (z := 1) (v := 1) (lv' := [(4, .int (x4 + 1)), (5, .int 0), (0, .ref h), (1, .ref a1), (2, .ref a2), (3, .int x3)]) 5 (by decide +kernel) rfl (by decide) (by decide) rfl ?_
          refine wp_goto (off := -87) (tgt := 3) (by decide +kernel) (by decide) ?_
          exact wp_sub [2, 3, 4, 5, 0] rfl H
        · rw [if_pos c7] at H
          refine wp_iconst (z := 1) (v := 1) (by decide +kernel) (by decide) ?_
          refine wp_goto (off := 4) (tgt := 82) (by decide +kernel) (by decide) ?_
          refine wp_icmp_eq (off := 5) (tgt := 87) (by decide +kernel) (by decide) (fun c9 => absurd c9 (by decide)) (fun _ => ?_)
          refine wp_iconst (z := 0) (v := 0) (by decide +kernel) (by decide) ?_
          exact wp_zret (by decide +kernel) rfl (by decide) (Nat.zero_le _) (Nat.zero_le _) ⟨_, _, _, rfl, rfl, H⟩
      · rw [if_pos c6] at H
        refine wp_iconst (z := 1) (v := 1) (by decide +kernel) (by decide) ?_
        refine wp_goto (off := 4) (tgt := 63) (by decide +kernel) (by decide) ?_
        refine wp_istore (i := 5) (lv' := [(5, .int 1), (0, .ref h), (1, .ref a1), (2, .ref a2), (3, .int x3), (4, .int x4)]) (by decide +kernel) (by decide) rfl ?_
        refine wp_iload (i := 5) (x := 1) 0 (by decide +kernel) rfl ?_
        refine wp_aload_n (z := 2) (i := 2) (r := (some a2)) 3 (by decide +kernel) rfl rfl ?_
        refine wp_getS (idx := 188) (q := (a2 + 1)) (by decide +kernel) fl8_188 rfl ok2.1 (okr2_1 ok2) ?_
        refine wp_iload (i := 4) (x := x4) 5 (by decide +kernel) rfl ?_
        obtain ⟨o14, H⟩ := H
        refine wp_iald (j := (cl x4)) (by decide +kernel) (oks2_1 ok2) o14 rfl ?_
        refine wp_if_ne (off := 7) (tgt := 81) (by decide +kernel) (by decide) (fun c11 => ?_) (fun c11 => ?_)
        · rw [if_neg c11] at H
          refine wp_iconst (z := 0) (v := 0) (by decide +kernel) (by decide) ?_
          refine wp_icmp_eq (off := 5) (tgt := 87) (by decide +kernel) (by decide) (fun c9 => absurd c9 (by decide)) (fun _ => ?_)
          refine wp_iconst (z := 0) (v := 0) (by decide +kernel) (by decide) ?_
          exact wp_zret (by decide +kernel) rfl (by decide) (Nat.zero_le _) (Nat.zero_le _) ⟨_, _, _, rfl, rfl, H⟩
        · rw [if_pos c11] at H
          refine wp_iconst (z := 1) (v := 1) (by decide +kernel) (by decide) ?_
          refine wp_goto (off := 4) (tgt := 82) (by decide +kernel) (by decide) ?_
          refine wp_icmp_eq (off := 5) (tgt := 87) (by decide +kernel) (by decide) (fun _ => ?_) (fun c9 => absurd c9 (by decide))
          refine wp_iinc (i := 4) (z := 1) (v := 1) (lv' := [(4, .int (x4 + 1)), (5, .int 1), (0, .ref h), (1, .ref a1), (2, .ref a2), (3, .int x3)]) 5 (by decide +kernel) rfl (by decide) (by decide) rfl ?_
          refine wp_goto (off := -87) (tgt := 3) (by decide +kernel) (by decide) ?_
          exact wp_sub [2, 3, 4, 5, 0] rfl H
    · rw [if_pos c2] at H
      refine wp_iconst (z := 0) (v := 0) (by decide +kernel) (by decide) ?_
      exact wp_zret (by decide +kernel) rfl (by decide) (Nat.zero_le _) (Nat.zero_le _) ⟨_, _, _, rfl, rfl, H⟩
