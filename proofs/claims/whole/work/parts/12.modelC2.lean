/-! DeafWallModel.beat(I)V -/
set_option maxRecDepth 20000 in
theorem b9_beat {X : XX} {G : GG} {I : Nat → Nat → Int32} {L : Nat → Nat → Int64} {h : Nat} {x1 : Int32} {Q : (Nat → Nat → Int32) → (Nat → Nat → Int64) → Prop} (ok : OK9 G h) (H : ∀ I1, I1 = up2 I h 21 ((I h 21) + x1) → wpV X B9_beat 12 [(0, .ref h), (1, .int x1), (2, .int 0)] [] G I1 L Q) : wpV X B9_beat 0 [(0, .ref h), (1, .int x1)] [] G I L Q := by
  refine wp_aload_n (z := 0) (i := 0) (r := (some h)) 0 (by decide +kernel) rfl rfl ?_
  refine wp_dup (by decide +kernel) rfl ?_
  refine wp_getI (idx := 232) (by decide +kernel) fl9_232 rfl ok.1 ?_
  refine wp_iload_n (z := 1) (i := 1) (x := x1) 1 (by decide +kernel) rfl rfl ?_
  refine wp_iadd (by decide +kernel) ?_
  refine wp_putI (idx := 232) (by decide +kernel) fl9_232 rfl ok.1 ?_
  refine wp_memI (fun I1 eI1 => ?_)
  replace H := H I1 eI1
  refine wp_iconst (z := 0) (v := 0) (by decide +kernel) (by decide) ?_
  refine wp_istore_n (z := 2) (i := 2) (lv' := [(2, .int 0), (0, .ref h), (1, .int x1)]) (by decide +kernel) rfl (by decide) rfl ?_
  exact wp_sub [1, 2, 0] rfl H
set_option maxRecDepth 20000 in
theorem b9_beat_12 {X : XX} {G : GG} {I : Nat → Nat → Int32} {L : Nat → Nat → Int64} {h : Nat} {x1 : Int32} {x2 : Int32} {Q : (Nat → Nat → Int32) → (Nat → Nat → Int64) → Prop} (ok : OK9 G h) (H : if (I h 13) ≤ x2 then (wpV X B9_beat 40 [(0, .ref h), (1, .int x1), (2, .int 0)] [] G I L Q) else (vp_in x2 32 ∧ (vp_in x2 32 ∧ (∀ I2, I2 = up2 I (h + 6) (cl x2) (I (h + 5) (cl x2)) → wpV X B9_beat 12 [(0, .ref h), (1, .int x1), (2, .int (x2 + 1))] [] G I2 L Q)))) : wpV X B9_beat 12 [(0, .ref h), (1, .int x1), (2, .int x2)] [] G I L Q := by
  refine wp_iload_n (z := 2) (i := 2) (x := x2) 2 (by decide +kernel) rfl rfl ?_
  refine wp_aload_n (z := 0) (i := 0) (r := (some h)) 0 (by decide +kernel) rfl rfl ?_
  refine wp_getI (idx := 184) (by decide +kernel) fl9_184 rfl ok.1 ?_
  refine wp_icmp_ge (off := 21) (tgt := 38) (by decide +kernel) (by decide) (fun c1 => ?_) (fun c1 => ?_)
  · rw [if_pos c1] at H
    refine wp_iconst (z := 0) (v := 0) (by decide +kernel) (by decide) ?_
    refine wp_istore_n (z := 2) (i := 2) (lv' := [(2, .int 0), (0, .ref h), (1, .int x1)]) (by decide +kernel) rfl (by decide) rfl ?_
    exact wp_sub [1, 2, 0] rfl H
  · rw [if_neg c1] at H
    refine wp_aload_n (z := 0) (i := 0) (r := (some h)) 0 (by decide +kernel) rfl rfl ?_
    refine wp_getS (idx := 26) (q := (h + 6)) (by decide +kernel) fl9_26 rfl ok.1 (okr9_25 ok) ?_
    refine wp_iload_n (z := 2) (i := 2) (x := x2) 2 (by decide +kernel) rfl rfl ?_
    refine wp_aload_n (z := 0) (i := 0) (r := (some h)) 0 (by decide +kernel) rfl rfl ?_
    refine wp_getS (idx := 23) (q := (h + 5)) (by decide +kernel) fl9_23 rfl ok.1 (okr9_24 ok) ?_
    refine wp_iload_n (z := 2) (i := 2) (x := x2) 2 (by decide +kernel) rfl rfl ?_
    obtain ⟨o4, H⟩ := H
    refine wp_iald (j := (cl x2)) (by decide +kernel) (oks9_24 ok) o4 rfl ?_
    obtain ⟨o3, H⟩ := H
    refine wp_iast (j := (cl x2)) (by decide +kernel) (oks9_25 ok) o3 rfl ?_
    refine wp_memI (fun I2 eI2 => ?_)
    replace H := H I2 eI2
    refine wp_iinc (i := 2) (z := 1) (v := 1) (lv' := [(2, .int (x2 + 1)), (0, .ref h), (1, .int x1)]) 2 (by decide +kernel) rfl (by decide) (by decide) rfl ?_
    refine wp_goto (off := -23) (tgt := 12) (by decide +kernel) (by decide) ?_
    exact wp_sub [1, 2, 0] rfl H
set_option maxRecDepth 20000 in
theorem b9_beat_40 {X : XX} {G : GG} {I : Nat → Nat → Int32} {L : Nat → Nat → Int64} {h : Nat} {x1 : Int32} {x2 : Int32} {Q : (Nat → Nat → Int32) → (Nat → Nat → Int64) → Prop} (ok : OK9 G h) (H : if (I h 13) ≤ x2 then (wpV X B9_beat 103 [(0, .ref h), (2, .int 0), (3, .int 0)] [] G I L Q) else (wpI X B9_comes 0 [(0, .ref h), (1, .int x2)] [] G I L (fun r4 I2 L3 => if x2 = (I2 h 14) then (if x1 ≤ r4 then (vp_in x2 32 ∧ (∀ I11, I11 = up2 I2 (h + 5) (cl x2) r4 → vp_in x2 32 ∧ (∀ I12, I12 = up2 I11 h 22 ((I11 h 22) + (I11 (h + 5) (cl x2))) → wpV X B9_beat 40 [(0, .ref h), (1, .int x1), (2, .int (x2 + 1))] [] G I12 L3 Q))) else (vp_in x2 32 ∧ (∀ I15, I15 = up2 I2 (h + 5) (cl x2) x1 → vp_in x2 32 ∧ (∀ I16, I16 = up2 I15 h 22 ((I15 h 22) + (I15 (h + 5) (cl x2))) → wpV X B9_beat 40 [(0, .ref h), (1, .int x1), (2, .int (x2 + 1))] [] G I16 L3 Q)))) else (vp_in x2 32 ∧ (∀ I6, I6 = up2 I2 (h + 5) (cl x2) r4 → vp_in x2 32 ∧ (∀ I7, I7 = up2 I6 h 22 ((I6 h 22) + (I6 (h + 5) (cl x2))) → wpV X B9_beat 40 [(0, .ref h), (1, .int x1), (2, .int (x2 + 1))] [] G I7 L3 Q)))))) : wpV X B9_beat 40 [(0, .ref h), (1, .int x1), (2, .int x2)] [] G I L Q := by
  refine wp_iload_n (z := 2) (i := 2) (x := x2) 2 (by decide +kernel) rfl rfl ?_
  refine wp_aload_n (z := 0) (i := 0) (r := (some h)) 0 (by decide +kernel) rfl rfl ?_
  refine wp_getI (idx := 184) (by decide +kernel) fl9_184 rfl ok.1 ?_
  refine wp_icmp_ge (off := 54) (tgt := 99) (by decide +kernel) (by decide) (fun c1 => ?_) (fun c1 => ?_)
  · rw [if_pos c1] at H
    refine wp_iconst (z := 0) (v := 0) (by decide +kernel) (by decide) ?_
    refine wp_istore_n (z := 2) (i := 2) (lv' := [(2, .int 0), (0, .ref h), (1, .int x1)]) (by decide +kernel) rfl (by decide) rfl ?_
    refine wp_iconst (z := 0) (v := 0) (by decide +kernel) (by decide) ?_
    refine wp_istore_n (z := 3) (i := 3) (lv' := [(3, .int 0), (2, .int 0), (0, .ref h), (1, .int x1)]) (by decide +kernel) rfl (by decide) rfl ?_
    exact wp_sub [2, 1, 0] rfl H
  · rw [if_neg c1] at H
    refine wp_aload_n (z := 0) (i := 0) (r := (some h)) 0 (by decide +kernel) rfl rfl ?_
    refine wp_iload_n (z := 2) (i := 2) (x := x2) 2 (by decide +kernel) rfl rfl ?_
    refine wp_callV (idx := 244) (B2 := B9_comes) (As := [.int x2]) (a := h) (st := []) (by decide +kernel) m9_comes ml9_244 k9_comes e9_comes ck9 ok.1 (⟨Nat.le_of_ble_eq_true rfl, Nat.le_of_ble_eq_true rfl⟩ : rOK B9_beat B9_comes) rfl (Nat.le_of_ble_eq_true rfl) (Nat.le_of_ble_eq_true rfl) ⟨Nat.le_of_ble_eq_true rfl, Nat.le_of_ble_eq_true rfl⟩ rfl (wp_mono H (fun v9 M9 hq9 => ?_))
    clear H
    obtain ⟨r4, I2, L3, rfl, rfl, H⟩ := hq9
    show wp X B9_beat 53 [(0, .ref h), (1, .int x1), (2, .int x2)] [.int r4] (G, I2, L3) 0 0 _
    refine wp_istore_n (z := 3) (i := 3) (lv' := [(3, .int r4), (0, .ref h), (1, .int x1), (2, .int x2)]) (by decide +kernel) rfl (by decide) rfl ?_
    refine wp_aload_n (z := 0) (i := 0) (r := (some h)) 1 (by decide +kernel) rfl rfl ?_
    refine wp_getS (idx := 23) (q := (h + 5)) (by decide +kernel) fl9_23 rfl ok.1 (okr9_24 ok) ?_
    refine wp_iload_n (z := 2) (i := 2) (x := x2) 3 (by decide +kernel) rfl rfl ?_
    refine wp_iload_n (z := 2) (i := 2) (x := x2) 3 (by decide +kernel) rfl rfl ?_
    refine wp_aload_n (z := 0) (i := 0) (r := (some h)) 1 (by decide +kernel) rfl rfl ?_
    refine wp_getI (idx := 187) (by decide +kernel) fl9_187 rfl ok.1 ?_
    refine wp_icmp_ne (off := 12) (tgt := 76) (by decide +kernel) (by decide) (fun c5 => ?_) (fun c5 => ?_)
    · rw [if_neg c5] at H
      refine wp_iload_n (z := 3) (i := 3) (x := r4) 0 (by decide +kernel) rfl rfl ?_
      obtain ⟨o9, H⟩ := H
      refine wp_iast (j := (cl x2)) (by decide +kernel) (oks9_24 ok) o9 rfl ?_
      refine wp_memI (fun I6 eI6 => ?_)
      replace H := H I6 eI6
      refine wp_aload_n (z := 0) (i := 0) (r := (some h)) 1 (by decide +kernel) rfl rfl ?_
      refine wp_dup (by decide +kernel) rfl ?_
      refine wp_getI (idx := 235) (by decide +kernel) fl9_235 rfl ok.1 ?_
      refine wp_aload_n (z := 0) (i := 0) (r := (some h)) 1 (by decide +kernel) rfl rfl ?_
      refine wp_getS (idx := 23) (q := (h + 5)) (by decide +kernel) fl9_23 rfl ok.1 (okr9_24 ok) ?_
      refine wp_iload_n (z := 2) (i := 2) (x := x2) 3 (by decide +kernel) rfl rfl ?_
      obtain ⟨o8, H⟩ := H
      refine wp_iald (j := (cl x2)) (by decide +kernel) (oks9_24 ok) o8 rfl ?_
      refine wp_iadd (by decide +kernel) ?_
      refine wp_putI (idx := 235) (by decide +kernel) fl9_235 rfl ok.1 ?_
      refine wp_memI (fun I7 eI7 => ?_)
      replace H := H I7 eI7
      refine wp_iinc (i := 2) (z := 1) (v := 1) (lv' := [(2, .int (x2 + 1)), (3, .int r4), (0, .ref h), (1, .int x1)]) 3 (by decide +kernel) rfl (by decide) (by decide) rfl ?_
      refine wp_goto (off := -56) (tgt := 40) (by decide +kernel) (by decide) ?_
      exact wp_sub [2, 3, 0] rfl H
    · rw [if_pos c5] at H
      refine wp_iload_n (z := 1) (i := 1) (x := x1) 2 (by decide +kernel) rfl rfl ?_
      refine wp_iload_n (z := 3) (i := 3) (x := r4) 0 (by decide +kernel) rfl rfl ?_
      refine wp_icmp_le (off := 7) (tgt := 76) (by decide +kernel) (by decide) (fun c10 => ?_) (fun c10 => ?_)
      · rw [if_pos c10] at H
        refine wp_iload_n (z := 3) (i := 3) (x := r4) 0 (by decide +kernel) rfl rfl ?_
        obtain ⟨o14, H⟩ := H
        refine wp_iast (j := (cl x2)) (by decide +kernel) (oks9_24 ok) o14 rfl ?_
        refine wp_memI (fun I11 eI11 => ?_)
        replace H := H I11 eI11
        refine wp_aload_n (z := 0) (i := 0) (r := (some h)) 1 (by decide +kernel) rfl rfl ?_
        refine wp_dup (by decide +kernel) rfl ?_
        refine wp_getI (idx := 235) (by decide +kernel) fl9_235 rfl ok.1 ?_
        refine wp_aload_n (z := 0) (i := 0) (r := (some h)) 1 (by decide +kernel) rfl rfl ?_
        refine wp_getS (idx := 23) (q := (h + 5)) (by decide +kernel) fl9_23 rfl ok.1 (okr9_24 ok) ?_
        refine wp_iload_n (z := 2) (i := 2) (x := x2) 3 (by decide +kernel) rfl rfl ?_
        obtain ⟨o13, H⟩ := H
        refine wp_iald (j := (cl x2)) (by decide +kernel) (oks9_24 ok) o13 rfl ?_
        refine wp_iadd (by decide +kernel) ?_
        refine wp_putI (idx := 235) (by decide +kernel) fl9_235 rfl ok.1 ?_
        refine wp_memI (fun I12 eI12 => ?_)
        replace H := H I12 eI12
        refine wp_iinc (i := 2) (z := 1) (v := 1) (lv' := [(2, .int (x2 + 1)), (3, .int r4), (0, .ref h), (1, .int x1)]) 3 (by decide +kernel) rfl (by decide) (by decide) rfl ?_
        refine wp_goto (off := -56) (tgt := 40) (by decide +kernel) (by decide) ?_
        exact wp_sub [2, 3, 0] rfl H
      · rw [if_neg c10] at H
        refine wp_iload_n (z := 1) (i := 1) (x := x1) 2 (by decide +kernel) rfl rfl ?_
        refine wp_goto (off := 4) (tgt := 77) (by decide +kernel) (by decide) ?_
        obtain ⟨o18, H⟩ := H
        refine wp_iast (j := (cl x2)) (by decide +kernel) (oks9_24 ok) o18 rfl ?_
        refine wp_memI (fun I15 eI15 => ?_)
        replace H := H I15 eI15
        refine wp_aload_n (z := 0) (i := 0) (r := (some h)) 1 (by decide +kernel) rfl rfl ?_
        refine wp_dup (by decide +kernel) rfl ?_
        refine wp_getI (idx := 235) (by decide +kernel) fl9_235 rfl ok.1 ?_
        refine wp_aload_n (z := 0) (i := 0) (r := (some h)) 1 (by decide +kernel) rfl rfl ?_
        refine wp_getS (idx := 23) (q := (h + 5)) (by decide +kernel) fl9_23 rfl ok.1 (okr9_24 ok) ?_
        refine wp_iload_n (z := 2) (i := 2) (x := x2) 3 (by decide +kernel) rfl rfl ?_
        obtain ⟨o17, H⟩ := H
        refine wp_iald (j := (cl x2)) (by decide +kernel) (oks9_24 ok) o17 rfl ?_
        refine wp_iadd (by decide +kernel) ?_
        refine wp_putI (idx := 235) (by decide +kernel) fl9_235 rfl ok.1 ?_
        refine wp_memI (fun I16 eI16 => ?_)
        replace H := H I16 eI16
        refine wp_iinc (i := 2) (z := 1) (v := 1) (lv' := [(2, .int (x2 + 1)), (3, .int r4), (0, .ref h), (1, .int x1)]) 3 (by decide +kernel) rfl (by decide) (by decide) rfl ?_
        refine wp_goto (off := -56) (tgt := 40) (by decide +kernel) (by decide) ?_
        exact wp_sub [2, 3, 0] rfl H
set_option maxRecDepth 20000 in
theorem b9_beat_103 {X : XX} {G : GG} {I : Nat → Nat → Int32} {L : Nat → Nat → Int64} {h : Nat} {x2 : Int32} {x3 : Int32} {Q : (Nat → Nat → Int32) → (Nat → Nat → Int64) → Prop} (ok : OK9 G h) (H : if (I h 15) ≤ x3 then (vp_in (I h 17) 64 ∧ (∀ I2, I2 = up2 I (h + 11) (cl (I h 17)) x2 → ∀ I3, I3 = up2 I2 h 17 ((I2 h 17) + 1) → wpV X B9_beat 238 [(0, .ref h), (3, .int 0)] [] G I3 L Q)) else (if (((I h 18) >>> (x3 &&& 31)) &&& 1) = (0 : Int32) then (vp_in x3 6 ∧ (vp_in (I (h + 7) (cl x3)) 32 ∧ (p9_tenderOf I h x3 ∧ (if (I (h + 5) (cl (I (h + 7) (cl x3)))) < (v9_tenderOf I h x3) then (wpV X B9_beat 145 [(0, .ref h), (2, .int x2), (3, .int x3)] [] G I L Q) else (wpV X B9_beat 146 [(0, .ref h), (2, .int x2), (3, .int x3)] [.int 1] G I L Q))))) else (wpV X B9_beat 145 [(0, .ref h), (2, .int x2), (3, .int x3)] [] G I L Q))) : wpV X B9_beat 103 [(0, .ref h), (2, .int x2), (3, .int x3)] [] G I L Q := by
  refine wp_iload_n (z := 3) (i := 3) (x := x3) 2 (by decide +kernel) rfl rfl ?_
  refine wp_aload_n (z := 0) (i := 0) (r := (some h)) 0 (by decide +kernel) rfl rfl ?_
  refine wp_getI (idx := 190) (by decide +kernel) fl9_190 rfl ok.1 ?_
  refine wp_icmp_ge (off := 108) (tgt := 216) (by decide +kernel) (by decide) (fun c1 => ?_) (fun c1 => ?_)
  · rw [if_pos c1] at H
    refine wp_aload_n (z := 0) (i := 0) (r := (some h)) 0 (by decide +kernel) rfl rfl ?_
    refine wp_getS (idx := 41) (q := (h + 11)) (by decide +kernel) fl9_41 rfl ok.1 (okr9_30 ok) ?_
    refine wp_aload_n (z := 0) (i := 0) (r := (some h)) 0 (by decide +kernel) rfl rfl ?_
    refine wp_getI (idx := 220) (by decide +kernel) fl9_220 rfl ok.1 ?_
    refine wp_iload_n (z := 2) (i := 2) (x := x2) 1 (by decide +kernel) rfl rfl ?_
    obtain ⟨o4, H⟩ := H
    refine wp_iast (j := (cl (I h 17))) (by decide +kernel) (oks9_30 ok) o4 rfl ?_
    refine wp_memI (fun I2 eI2 => ?_)
    replace H := H I2 eI2
    refine wp_aload_n (z := 0) (i := 0) (r := (some h)) 0 (by decide +kernel) rfl rfl ?_
    refine wp_dup (by decide +kernel) rfl ?_
    refine wp_getI (idx := 220) (by decide +kernel) fl9_220 rfl ok.1 ?_
    refine wp_iconst (z := 1) (v := 1) (by decide +kernel) (by decide) ?_
    refine wp_iadd (by decide +kernel) ?_
    refine wp_putI (idx := 220) (by decide +kernel) fl9_220 rfl ok.1 ?_
    refine wp_memI (fun I3 eI3 => ?_)
    replace H := H I3 eI3
    refine wp_iconst (z := 0) (v := 0) (by decide +kernel) (by decide) ?_
    refine wp_istore_n (z := 3) (i := 3) (lv' := [(3, .int 0), (0, .ref h), (2, .int x2)]) (by decide +kernel) rfl (by decide) rfl ?_
    exact wp_sub [1, 0] rfl H
  · rw [if_neg c1] at H
    refine wp_aload_n (z := 0) (i := 0) (r := (some h)) 0 (by decide +kernel) rfl rfl ?_
    refine wp_getI (idx := 223) (by decide +kernel) fl9_223 rfl ok.1 ?_
    refine wp_iload_n (z := 3) (i := 3) (x := x3) 2 (by decide +kernel) rfl rfl ?_
    refine wp_ishr (by decide +kernel) ?_
    refine wp_iconst (z := 1) (v := 1) (by decide +kernel) (by decide) ?_
    refine wp_iand (by decide +kernel) ?_
    refine wp_if_ne (off := 26) (tgt := 145) (by decide +kernel) (by decide) (fun c5 => ?_) (fun c5 => ?_)
    · rw [if_neg c5] at H
      exact wp_sub [0, 1, 2] rfl H
    · rw [if_pos c5] at H
      refine wp_aload_n (z := 0) (i := 0) (r := (some h)) 0 (by decide +kernel) rfl rfl ?_
      refine wp_getS (idx := 23) (q := (h + 5)) (by decide +kernel) fl9_23 rfl ok.1 (okr9_24 ok) ?_
      refine wp_aload_n (z := 0) (i := 0) (r := (some h)) 0 (by decide +kernel) rfl rfl ?_
      refine wp_getS (idx := 29) (q := (h + 7)) (by decide +kernel) fl9_29 rfl ok.1 (okr9_26 ok) ?_
      refine wp_iload_n (z := 3) (i := 3) (x := x3) 2 (by decide +kernel) rfl rfl ?_
      obtain ⟨o9, H⟩ := H
      refine wp_iald (j := (cl x3)) (by decide +kernel) (oks9_26 ok) o9 rfl ?_
      obtain ⟨o8, H⟩ := H
      refine wp_iald (j := (cl (I (h + 7) (cl x3)))) (by decide +kernel) (oks9_24 ok) o8 rfl ?_
      refine wp_aload_n (z := 0) (i := 0) (r := (some h)) 0 (by decide +kernel) rfl rfl ?_
      refine wp_iload_n (z := 3) (i := 3) (x := x3) 2 (by decide +kernel) rfl rfl ?_
      obtain ⟨o7, H⟩ := H
      refine wp_callV (idx := 205) (B2 := B9_tenderOf) (As := [.int x3]) (a := h) (st := [.int (I (h + 5) (cl (I (h + 7) (cl x3))))]) (by decide +kernel) m9_tenderOf ml9_205 k9_tenderOf e9_tenderOf ck9 ok.1 (⟨Nat.le_of_ble_eq_true rfl, Nat.le_of_ble_eq_true rfl⟩ : rOK B9_beat B9_tenderOf) rfl (Nat.le_of_ble_eq_true rfl) (Nat.le_of_ble_eq_true rfl) ⟨Nat.le_of_ble_eq_true rfl, Nat.le_of_ble_eq_true rfl⟩ rfl (wp_mono (b9_tenderOf (Q := (fun r I' L' => r = (v9_tenderOf I h x3) ∧ I = I' ∧ L = L')) ok o7 ⟨rfl, rfl, rfl⟩) (fun v9 M9 hq9 => ?_))
      obtain ⟨_, _, _, rfl, rfl, rfl, rfl, rfl⟩ := hq9
      show wp X B9_beat 138 [(0, .ref h), (2, .int x2), (3, .int x3)] [.int (v9_tenderOf I h x3), .int (I (h + 5) (cl (I (h + 7) (cl x3))))] (G, I, L) 0 0 _
      refine wp_icmp_lt (off := 7) (tgt := 145) (by decide +kernel) (by decide) (fun c6 => ?_) (fun c6 => ?_)
      · rw [if_pos c6] at H
        exact wp_sub [0, 1, 2] rfl H
      · rw [if_neg c6] at H
        refine wp_iconst (z := 1) (v := 1) (by decide +kernel) (by decide) ?_
        refine wp_goto (off := 4) (tgt := 146) (by decide +kernel) (by decide) ?_
        exact wp_sub [0, 1, 2] rfl H
set_option maxRecDepth 20000 in
theorem b9_beat_145 {X : XX} {G : GG} {I : Nat → Nat → Int32} {L : Nat → Nat → Int64} {h : Nat} {x2 : Int32} {x3 : Int32} {Q : (Nat → Nat → Int32) → (Nat → Nat → Int64) → Prop} (ok : OK9 G h) (H : wpV X B9_beat 146 [(0, .ref h), (2, .int x2), (3, .int x3)] [.int 0] G I L Q) : wpV X B9_beat 145 [(0, .ref h), (2, .int x2), (3, .int x3)] [] G I L Q := by
  refine wp_iconst (z := 0) (v := 0) (by decide +kernel) (by decide) ?_
  exact wp_sub [0, 1, 2] rfl H
set_option maxRecDepth 20000 in
theorem b9_beat_146 {X : XX} {G : GG} {I : Nat → Nat → Int32} {L : Nat → Nat → Int64} {h : Nat} {x2 : Int32} {x3 : Int32} {z0 : Int32} {Q : (Nat → Nat → Int32) → (Nat → Nat → Int64) → Prop} (ok : OK9 G h) (H : if z0 = (0 : Int32) then (vp_in x3 6 ∧ (if z0 = (0 : Int32) then (vp_in x3 6 ∧ (∀ I3, I3 = up2 I (h + 8) (cl x3) ((((I (h + 8) (cl x3)) <<< (1 &&& 31)) ||| 0) &&& 63) → vp_in x3 6 ∧ (if z0 = (0 : Int32) then (vp_in x3 6 ∧ (∀ I5, I5 = up2 I3 (h + 9) (cl x3) ((I3 (h + 9) (cl x3)) + 0) → wpV X B9_beat 103 [(0, .ref h), (2, .int (x2 ||| 0)), (3, .int (x3 + 1))] [] G I5 L Q)) else (vp_in x3 6 ∧ (∀ I7, I7 = up2 I3 (h + 9) (cl x3) ((I3 (h + 9) (cl x3)) + 1) → wpV X B9_beat 103 [(0, .ref h), (2, .int (x2 ||| 0)), (3, .int (x3 + 1))] [] G I7 L Q))))) else (vp_in x3 6 ∧ (∀ I11, I11 = up2 I (h + 8) (cl x3) ((((I (h + 8) (cl x3)) <<< (1 &&& 31)) ||| 1) &&& 63) → vp_in x3 6 ∧ (if z0 = (0 : Int32) then (vp_in x3 6 ∧ (∀ I13, I13 = up2 I11 (h + 9) (cl x3) ((I11 (h + 9) (cl x3)) + 0) → wpV X B9_beat 103 [(0, .ref h), (2, .int (x2 ||| 0)), (3, .int (x3 + 1))] [] G I13 L Q)) else (vp_in x3 6 ∧ (∀ I15, I15 = up2 I11 (h + 9) (cl x3) ((I11 (h + 9) (cl x3)) + 1) → wpV X B9_beat 103 [(0, .ref h), (2, .int (x2 ||| 0)), (3, .int (x3 + 1))] [] G I15 L Q))))))) else (∀ u20, u20 = (x2 ||| ((1 : Int32) <<< (x3 &&& 31))) → vp_in x3 6 ∧ (if z0 = (0 : Int32) then (vp_in x3 6 ∧ (∀ I22, I22 = up2 I (h + 8) (cl x3) ((((I (h + 8) (cl x3)) <<< (1 &&& 31)) ||| 0) &&& 63) → vp_in x3 6 ∧ (if z0 = (0 : Int32) then (vp_in x3 6 ∧ (∀ I24, I24 = up2 I22 (h + 9) (cl x3) ((I22 (h + 9) (cl x3)) + 0) → wpV X B9_beat 103 [(0, .ref h), (2, .int u20), (3, .int (x3 + 1))] [] G I24 L Q)) else (vp_in x3 6 ∧ (∀ I26, I26 = up2 I22 (h + 9) (cl x3) ((I22 (h + 9) (cl x3)) + 1) → wpV X B9_beat 103 [(0, .ref h), (2, .int u20), (3, .int (x3 + 1))] [] G I26 L Q))))) else (vp_in x3 6 ∧ (∀ I30, I30 = up2 I (h + 8) (cl x3) ((((I (h + 8) (cl x3)) <<< (1 &&& 31)) ||| 1) &&& 63) → vp_in x3 6 ∧ (if z0 = (0 : Int32) then (vp_in x3 6 ∧ (∀ I32, I32 = up2 I30 (h + 9) (cl x3) ((I30 (h + 9) (cl x3)) + 0) → wpV X B9_beat 103 [(0, .ref h), (2, .int u20), (3, .int (x3 + 1))] [] G I32 L Q)) else (vp_in x3 6 ∧ (∀ I34, I34 = up2 I30 (h + 9) (cl x3) ((I30 (h + 9) (cl x3)) + 1) → wpV X B9_beat 103 [(0, .ref h), (2, .int u20), (3, .int (x3 + 1))] [] G I34 L Q)))))))) : wpV X B9_beat 146 [(0, .ref h), (2, .int x2), (3, .int x3)] [.int z0] G I L Q := by
  refine wp_istore (i := 4) (lv' := [(4, .int z0), (0, .ref h), (2, .int x2), (3, .int x3)]) (by decide +kernel) (by decide) rfl ?_
  refine wp_iload_n (z := 2) (i := 2) (x := x2) 2 (by decide +kernel) rfl rfl ?_
  refine wp_iload (i := 4) (x := z0) 0 (by decide +kernel) rfl ?_
  refine wp_if_eq (off := 9) (tgt := 160) (by decide +kernel) (by decide) (fun c1 => ?_) (fun c1 => ?_)
  · rw [if_pos c1] at H
    refine wp_iconst (z := 0) (v := 0) (by decide +kernel) (by decide) ?_
    refine wp_ior (by decide +kernel) ?_
    refine wp_istore_n (z := 2) (i := 2) (lv' := [(2, .int (x2 ||| 0)), (4, .int z0), (0, .ref h), (3, .int x3)]) (by decide +kernel) rfl (by decide) rfl ?_
    refine wp_aload_n (z := 0) (i := 0) (r := (some h)) 2 (by decide +kernel) rfl rfl ?_
    refine wp_getS (idx := 32) (q := (h + 8)) (by decide +kernel) fl9_32 rfl ok.1 (okr9_27 ok) ?_
    refine wp_iload_n (z := 3) (i := 3) (x := x3) 3 (by decide +kernel) rfl rfl ?_
    refine wp_aload_n (z := 0) (i := 0) (r := (some h)) 2 (by decide +kernel) rfl rfl ?_
    refine wp_getS (idx := 32) (q := (h + 8)) (by decide +kernel) fl9_32 rfl ok.1 (okr9_27 ok) ?_
    refine wp_iload_n (z := 3) (i := 3) (x := x3) 3 (by decide +kernel) rfl rfl ?_
    obtain ⟨o19, H⟩ := H
    refine wp_iald (j := (cl x3)) (by decide +kernel) (oks9_27 ok) o19 rfl ?_
    refine wp_iconst (z := 1) (v := 1) (by decide +kernel) (by decide) ?_
    refine wp_ishl (by decide +kernel) ?_
    refine wp_iload (i := 4) (x := z0) 1 (by decide +kernel) rfl ?_
    refine wp_if_eq (off := 7) (tgt := 185) (by decide +kernel) (by decide) (fun c2 => ?_) (fun c2 => ?_)
    · rw [if_pos c2] at H
      refine wp_iconst (z := 0) (v := 0) (by decide +kernel) (by decide) ?_
      refine wp_ior (by decide +kernel) ?_
      refine wp_bipush (z := 63) (v := 63) (by decide +kernel) (by decide) ?_
      refine wp_iand (by decide +kernel) ?_
      obtain ⟨o10, H⟩ := H
      refine wp_iast (j := (cl x3)) (by decide +kernel) (oks9_27 ok) o10 rfl ?_
      refine wp_memI (fun I3 eI3 => ?_)
      replace H := H I3 eI3
      refine wp_aload_n (z := 0) (i := 0) (r := (some h)) 2 (by decide +kernel) rfl rfl ?_
      refine wp_getS (idx := 35) (q := (h + 9)) (by decide +kernel) fl9_35 rfl ok.1 (okr9_28 ok) ?_
      refine wp_iload_n (z := 3) (i := 3) (x := x3) 3 (by decide +kernel) rfl rfl ?_
      refine wp_dup2 (by decide +kernel) rfl rfl ?_
      obtain ⟨o9, H⟩ := H
      refine wp_iald (j := (cl x3)) (by decide +kernel) (oks9_28 ok) o9 rfl ?_
      refine wp_iload (i := 4) (x := z0) 1 (by decide +kernel) rfl ?_
      refine wp_if_eq (off := 7) (tgt := 207) (by decide +kernel) (by decide) (fun c4 => ?_) (fun c4 => ?_)
      · rw [if_pos c4] at H
        refine wp_iconst (z := 0) (v := 0) (by decide +kernel) (by decide) ?_
        refine wp_iadd (by decide +kernel) ?_
        obtain ⟨o6, H⟩ := H
        refine wp_iast (j := (cl x3)) (by decide +kernel) (oks9_28 ok) o6 rfl ?_
        refine wp_memI (fun I5 eI5 => ?_)
        replace H := H I5 eI5
        refine wp_iinc (i := 3) (z := 1) (v := 1) (lv' := [(3, .int (x3 + 1)), (2, .int (x2 ||| 0)), (4, .int z0), (0, .ref h)]) 3 (by decide +kernel) rfl (by decide) (by decide) rfl ?_
        refine wp_goto (off := -110) (tgt := 103) (by decide +kernel) (by decide) ?_
        exact wp_sub [3, 1, 0] rfl H
      · rw [if_neg c4] at H
        refine wp_iconst (z := 1) (v := 1) (by decide +kernel) (by decide) ?_
        refine wp_goto (off := 4) (tgt := 208) (by decide +kernel) (by decide) ?_
        refine wp_iadd (by decide +kernel) ?_
        obtain ⟨o8, H⟩ := H
        refine wp_iast (j := (cl x3)) (by decide +kernel) (oks9_28 ok) o8 rfl ?_
        refine wp_memI (fun I7 eI7 => ?_)
        replace H := H I7 eI7
        refine wp_iinc (i := 3) (z := 1) (v := 1) (lv' := [(3, .int (x3 + 1)), (2, .int (x2 ||| 0)), (4, .int z0), (0, .ref h)]) 3 (by decide +kernel) rfl (by decide) (by decide) rfl ?_
        refine wp_goto (off := -110) (tgt := 103) (by decide +kernel) (by decide) ?_
        exact wp_sub [3, 1, 0] rfl H
    · rw [if_neg c2] at H
      refine wp_iconst (z := 1) (v := 1) (by decide +kernel) (by decide) ?_
      refine wp_goto (off := 4) (tgt := 186) (by decide +kernel) (by decide) ?_
      refine wp_ior (by decide +kernel) ?_
      refine wp_bipush (z := 63) (v := 63) (by decide +kernel) (by decide) ?_
      refine wp_iand (by decide +kernel) ?_
      obtain ⟨o18, H⟩ := H
      refine wp_iast (j := (cl x3)) (by decide +kernel) (oks9_27 ok) o18 rfl ?_
      refine wp_memI (fun I11 eI11 => ?_)
      replace H := H I11 eI11
      refine wp_aload_n (z := 0) (i := 0) (r := (some h)) 2 (by decide +kernel) rfl rfl ?_
      refine wp_getS (idx := 35) (q := (h + 9)) (by decide +kernel) fl9_35 rfl ok.1 (okr9_28 ok) ?_
      refine wp_iload_n (z := 3) (i := 3) (x := x3) 3 (by decide +kernel) rfl rfl ?_
      refine wp_dup2 (by decide +kernel) rfl rfl ?_
      obtain ⟨o17, H⟩ := H
      refine wp_iald (j := (cl x3)) (by decide +kernel) (oks9_28 ok) o17 rfl ?_
      refine wp_iload (i := 4) (x := z0) 1 (by decide +kernel) rfl ?_
      refine wp_if_eq (off := 7) (tgt := 207) (by decide +kernel) (by decide) (fun c12 => ?_) (fun c12 => ?_)
      · rw [if_pos c12] at H
        refine wp_iconst (z := 0) (v := 0) (by decide +kernel) (by decide) ?_
        refine wp_iadd (by decide +kernel) ?_
        obtain ⟨o14, H⟩ := H
        refine wp_iast (j := (cl x3)) (by decide +kernel) (oks9_28 ok) o14 rfl ?_
        refine wp_memI (fun I13 eI13 => ?_)
        replace H := H I13 eI13
        refine wp_iinc (i := 3) (z := 1) (v := 1) (lv' := [(3, .int (x3 + 1)), (2, .int (x2 ||| 0)), (4, .int z0), (0, .ref h)]) 3 (by decide +kernel) rfl (by decide) (by decide) rfl ?_
        refine wp_goto (off := -110) (tgt := 103) (by decide +kernel) (by decide) ?_
        exact wp_sub [3, 1, 0] rfl H
      · rw [if_neg c12] at H
        refine wp_iconst (z := 1) (v := 1) (by decide +kernel) (by decide) ?_
        refine wp_goto (off := 4) (tgt := 208) (by decide +kernel) (by decide) ?_
        refine wp_iadd (by decide +kernel) ?_
        obtain ⟨o16, H⟩ := H
        refine wp_iast (j := (cl x3)) (by decide +kernel) (oks9_28 ok) o16 rfl ?_
        refine wp_memI (fun I15 eI15 => ?_)
        replace H := H I15 eI15
        refine wp_iinc (i := 3) (z := 1) (v := 1) (lv' := [(3, .int (x3 + 1)), (2, .int (x2 ||| 0)), (4, .int z0), (0, .ref h)]) 3 (by decide +kernel) rfl (by decide) (by decide) rfl ?_
        refine wp_goto (off := -110) (tgt := 103) (by decide +kernel) (by decide) ?_
        exact wp_sub [3, 1, 0] rfl H
  · rw [if_neg c1] at H
    refine wp_iconst (z := 1) (v := 1) (by decide +kernel) (by decide) ?_
    refine wp_iload_n (z := 3) (i := 3) (x := x3) 3 (by decide +kernel) rfl rfl ?_
    refine wp_ishl (by decide +kernel) ?_
    refine wp_goto (off := 4) (tgt := 161) (by decide +kernel) (by decide) ?_
    refine wp_ior (by decide +kernel) ?_
    refine wp_topi (fun u20 eu20 => ?_)
    replace H := H u20 eu20
    refine wp_istore_n (z := 2) (i := 2) (lv' := [(2, .int u20), (4, .int z0), (0, .ref h), (3, .int x3)]) (by decide +kernel) rfl (by decide) rfl ?_
    refine wp_aload_n (z := 0) (i := 0) (r := (some h)) 2 (by decide +kernel) rfl rfl ?_
    refine wp_getS (idx := 32) (q := (h + 8)) (by decide +kernel) fl9_32 rfl ok.1 (okr9_27 ok) ?_
    refine wp_iload_n (z := 3) (i := 3) (x := x3) 3 (by decide +kernel) rfl rfl ?_
    refine wp_aload_n (z := 0) (i := 0) (r := (some h)) 2 (by decide +kernel) rfl rfl ?_
    refine wp_getS (idx := 32) (q := (h + 8)) (by decide +kernel) fl9_32 rfl ok.1 (okr9_27 ok) ?_
    refine wp_iload_n (z := 3) (i := 3) (x := x3) 3 (by decide +kernel) rfl rfl ?_
    obtain ⟨o38, H⟩ := H
    refine wp_iald (j := (cl x3)) (by decide +kernel) (oks9_27 ok) o38 rfl ?_
    refine wp_iconst (z := 1) (v := 1) (by decide +kernel) (by decide) ?_
    refine wp_ishl (by decide +kernel) ?_
    refine wp_iload (i := 4) (x := z0) 1 (by decide +kernel) rfl ?_
    refine wp_if_eq (off := 7) (tgt := 185) (by decide +kernel) (by decide) (fun c21 => ?_) (fun c21 => ?_)
    · rw [if_pos c21] at H
      refine wp_iconst (z := 0) (v := 0) (by decide +kernel) (by decide) ?_
      refine wp_ior (by decide +kernel) ?_
      refine wp_bipush (z := 63) (v := 63) (by decide +kernel) (by decide) ?_
      refine wp_iand (by decide +kernel) ?_
      obtain ⟨o29, H⟩ := H
      refine wp_iast (j := (cl x3)) (by decide +kernel) (oks9_27 ok) o29 rfl ?_
      refine wp_memI (fun I22 eI22 => ?_)
      replace H := H I22 eI22
      refine wp_aload_n (z := 0) (i := 0) (r := (some h)) 2 (by decide +kernel) rfl rfl ?_
      refine wp_getS (idx := 35) (q := (h + 9)) (by decide +kernel) fl9_35 rfl ok.1 (okr9_28 ok) ?_
      refine wp_iload_n (z := 3) (i := 3) (x := x3) 3 (by decide +kernel) rfl rfl ?_
      refine wp_dup2 (by decide +kernel) rfl rfl ?_
      obtain ⟨o28, H⟩ := H
      refine wp_iald (j := (cl x3)) (by decide +kernel) (oks9_28 ok) o28 rfl ?_
      refine wp_iload (i := 4) (x := z0) 1 (by decide +kernel) rfl ?_
      refine wp_if_eq (off := 7) (tgt := 207) (by decide +kernel) (by decide) (fun c23 => ?_) (fun c23 => ?_)
      · rw [if_pos c23] at H
        refine wp_iconst (z := 0) (v := 0) (by decide +kernel) (by decide) ?_
        refine wp_iadd (by decide +kernel) ?_
        obtain ⟨o25, H⟩ := H
        refine wp_iast (j := (cl x3)) (by decide +kernel) (oks9_28 ok) o25 rfl ?_
        refine wp_memI (fun I24 eI24 => ?_)
        replace H := H I24 eI24
        refine wp_iinc (i := 3) (z := 1) (v := 1) (lv' := [(3, .int (x3 + 1)), (2, .int u20), (4, .int z0), (0, .ref h)]) 3 (by decide +kernel) rfl (by decide) (by decide) rfl ?_
        refine wp_goto (off := -110) (tgt := 103) (by decide +kernel) (by decide) ?_
        exact wp_sub [3, 1, 0] rfl H
      · rw [if_neg c23] at H
        refine wp_iconst (z := 1) (v := 1) (by decide +kernel) (by decide) ?_
        refine wp_goto (off := 4) (tgt := 208) (by decide +kernel) (by decide) ?_
        refine wp_iadd (by decide +kernel) ?_
        obtain ⟨o27, H⟩ := H
        refine wp_iast (j := (cl x3)) (by decide +kernel) (oks9_28 ok) o27 rfl ?_
        refine wp_memI (fun I26 eI26 => ?_)
        replace H := H I26 eI26
        refine wp_iinc (i := 3) (z := 1) (v := 1) (lv' := [(3, .int (x3 + 1)), (2, .int u20), (4, .int z0), (0, .ref h)]) 3 (by decide +kernel) rfl (by decide) (by decide) rfl ?_
        refine wp_goto (off := -110) (tgt := 103) (by decide +kernel) (by decide) ?_
        exact wp_sub [3, 1, 0] rfl H
    · rw [if_neg c21] at H
      refine wp_iconst (z := 1) (v := 1) (by decide +kernel) (by decide) ?_
      refine wp_goto (off := 4) (tgt := 186) (by decide +kernel) (by decide) ?_
      refine wp_ior (by decide +kernel) ?_
      refine wp_bipush (z := 63) (v := 63) (by decide +kernel) (by decide) ?_
      refine wp_iand (by decide +kernel) ?_
      obtain ⟨o37, H⟩ := H
      refine wp_iast (j := (cl x3)) (by decide +kernel) (oks9_27 ok) o37 rfl ?_
      refine wp_memI (fun I30 eI30 => ?_)
      replace H := H I30 eI30
      refine wp_aload_n (z := 0) (i := 0) (r := (some h)) 2 (by decide +kernel) rfl rfl ?_
      refine wp_getS (idx := 35) (q := (h + 9)) (by decide +kernel) fl9_35 rfl ok.1 (okr9_28 ok) ?_
      refine wp_iload_n (z := 3) (i := 3) (x := x3) 3 (by decide +kernel) rfl rfl ?_
      refine wp_dup2 (by decide +kernel) rfl rfl ?_
      obtain ⟨o36, H⟩ := H
      refine wp_iald (j := (cl x3)) (by decide +kernel) (oks9_28 ok) o36 rfl ?_
      refine wp_iload (i := 4) (x := z0) 1 (by decide +kernel) rfl ?_
      refine wp_if_eq (off := 7) (tgt := 207) (by decide +kernel) (by decide) (fun c31 => ?_) (fun c31 => ?_)
      · rw [if_pos c31] at H
        refine wp_iconst (z := 0) (v := 0) (by decide +kernel) (by decide) ?_
        refine wp_iadd (by decide +kernel) ?_
        obtain ⟨o33, H⟩ := H
        refine wp_iast (j := (cl x3)) (by decide +kernel) (oks9_28 ok) o33 rfl ?_
        refine wp_memI (fun I32 eI32 => ?_)
        replace H := H I32 eI32
        refine wp_iinc (i := 3) (z := 1) (v := 1) (lv' := [(3, .int (x3 + 1)), (2, .int u20), (4, .int z0), (0, .ref h)]) 3 (by decide +kernel) rfl (by decide) (by decide) rfl ?_
        refine wp_goto (off := -110) (tgt := 103) (by decide +kernel) (by decide) ?_
        exact wp_sub [3, 1, 0] rfl H
      · rw [if_neg c31] at H
        refine wp_iconst (z := 1) (v := 1) (by decide +kernel) (by decide) ?_
        refine wp_goto (off := 4) (tgt := 208) (by decide +kernel) (by decide) ?_
        refine wp_iadd (by decide +kernel) ?_
        obtain ⟨o35, H⟩ := H
        refine wp_iast (j := (cl x3)) (by decide +kernel) (oks9_28 ok) o35 rfl ?_
        refine wp_memI (fun I34 eI34 => ?_)
        replace H := H I34 eI34
        refine wp_iinc (i := 3) (z := 1) (v := 1) (lv' := [(3, .int (x3 + 1)), (2, .int u20), (4, .int z0), (0, .ref h)]) 3 (by decide +kernel) rfl (by decide) (by decide) rfl ?_
        refine wp_goto (off := -110) (tgt := 103) (by decide +kernel) (by decide) ?_
        exact wp_sub [3, 1, 0] rfl H
set_option maxRecDepth 20000 in
theorem b9_beat_238 {X : XX} {G : GG} {I : Nat → Nat → Int32} {L : Nat → Nat → Int64} {h : Nat} {x3 : Int32} {Q : (Nat → Nat → Int32) → (Nat → Nat → Int64) → Prop} (ok : OK9 G h) (H : if (I h 15) ≤ x3 then (Q I L) else (wpV X B9_beat 249 [(0, .ref h), (3, .int x3), (4, .int 0)] [] G I L Q)) : wpV X B9_beat 238 [(0, .ref h), (3, .int x3)] [] G I L Q := by
  refine wp_iload_n (z := 3) (i := 3) (x := x3) 1 (by decide +kernel) rfl rfl ?_
  refine wp_aload_n (z := 0) (i := 0) (r := (some h)) 0 (by decide +kernel) rfl rfl ?_
  refine wp_getI (idx := 190) (by decide +kernel) fl9_190 rfl ok.1 ?_
  refine wp_icmp_ge (off := 54) (tgt := 297) (by decide +kernel) (by decide) (fun c1 => ?_) (fun c1 => ?_)
  · rw [if_pos c1] at H
    exact wp_vret (by decide +kernel) rfl (Nat.zero_le _) (Nat.zero_le _) ⟨_, _, rfl, rfl, H⟩
  · rw [if_neg c1] at H
    refine wp_iconst (z := 0) (v := 0) (by decide +kernel) (by decide) ?_
    refine wp_istore (i := 4) (lv' := [(4, .int 0), (0, .ref h), (3, .int x3)]) (by decide +kernel) (by decide) rfl ?_
    exact wp_sub [1, 2, 0] rfl H
set_option maxRecDepth 20000 in
theorem b9_beat_249 {X : XX} {G : GG} {I : Nat → Nat → Int32} {L : Nat → Nat → Int64} {h : Nat} {x3 : Int32} {x4 : Int32} {Q : (Nat → Nat → Int32) → (Nat → Nat → Int64) → Prop} (ok : OK9 G h) (H : if (I h 16) ≤ x4 then (wpV X B9_beat 238 [(0, .ref h), (3, .int (x3 + 1))] [] G I L Q) else (vp_in x3 6 ∧ (wpI X B9_isToldNow 0 [(0, .ref h), (1, .int x3), (2, .int x4)] [] G I L (fun r4 I2 L3 => if r4 = (0 : Int32) then (vp_in x3 6 ∧ (∀ I6, I6 = up2 I2 (h + 10) (cl x3) ((I (h + 10) (cl x3)) ||| 0) → wpV X B9_beat 249 [(0, .ref h), (3, .int x3), (4, .int (x4 + 1))] [] G I6 L3 Q)) else (vp_in x3 6 ∧ (∀ I8, I8 = up2 I2 (h + 10) (cl x3) ((I (h + 10) (cl x3)) ||| ((1 : Int32) <<< (x4 &&& 31))) → wpV X B9_beat 249 [(0, .ref h), (3, .int x3), (4, .int (x4 + 1))] [] G I8 L3 Q)))))) : wpV X B9_beat 249 [(0, .ref h), (3, .int x3), (4, .int x4)] [] G I L Q := by
  refine wp_iload (i := 4) (x := x4) 2 (by decide +kernel) rfl ?_
  refine wp_aload_n (z := 0) (i := 0) (r := (some h)) 0 (by decide +kernel) rfl rfl ?_
  refine wp_getI (idx := 193) (by decide +kernel) fl9_193 rfl ok.1 ?_
  refine wp_icmp_ge (off := 36) (tgt := 291) (by decide +kernel) (by decide) (fun c1 => ?_) (fun c1 => ?_)
  · rw [if_pos c1] at H
    refine wp_iinc (i := 3) (z := 1) (v := 1) (lv' := [(3, .int (x3 + 1)), (0, .ref h), (4, .int x4)]) 1 (by decide +kernel) rfl (by decide) (by decide) rfl ?_
    refine wp_goto (off := -56) (tgt := 238) (by decide +kernel) (by decide) ?_
    exact wp_sub [1, 0] rfl H
  · rw [if_neg c1] at H
    refine wp_aload_n (z := 0) (i := 0) (r := (some h)) 0 (by decide +kernel) rfl rfl ?_
    refine wp_getS (idx := 38) (q := (h + 10)) (by decide +kernel) fl9_38 rfl ok.1 (okr9_29 ok) ?_
    refine wp_iload_n (z := 3) (i := 3) (x := x3) 1 (by decide +kernel) rfl rfl ?_
    refine wp_dup2 (by decide +kernel) rfl rfl ?_
    obtain ⟨o10, H⟩ := H
    refine wp_iald (j := (cl x3)) (by decide +kernel) (oks9_29 ok) o10 rfl ?_
    refine wp_aload_n (z := 0) (i := 0) (r := (some h)) 0 (by decide +kernel) rfl rfl ?_
    refine wp_iload_n (z := 3) (i := 3) (x := x3) 1 (by decide +kernel) rfl rfl ?_
    refine wp_iload (i := 4) (x := x4) 2 (by decide +kernel) rfl ?_
    refine wp_callV (idx := 247) (B2 := B9_isToldNow) (As := [.int x3, .int x4]) (a := h) (st := [.int (I (h + 10) (cl x3)), .int x3, .ref (h + 10)]) (by decide +kernel) m9_isToldNow ml9_247 k9_isToldNow e9_isToldNow ck9 ok.1 (⟨Nat.le_of_ble_eq_true rfl, Nat.le_of_ble_eq_true rfl⟩ : rOK B9_beat B9_isToldNow) rfl (Nat.le_of_ble_eq_true rfl) (Nat.le_of_ble_eq_true rfl) ⟨Nat.le_of_ble_eq_true rfl, Nat.le_of_ble_eq_true rfl⟩ rfl (wp_mono H (fun v9 M9 hq9 => ?_))
    clear H
    obtain ⟨r4, I2, L3, rfl, rfl, H⟩ := hq9
    show wp X B9_beat 272 [(0, .ref h), (3, .int x3), (4, .int x4)] [.int r4, .int (I (h + 10) (cl x3)), .int x3, .ref (h + 10)] (G, I2, L3) 0 0 _
    refine wp_if_eq (off := 10) (tgt := 282) (by decide +kernel) (by decide) (fun c5 => ?_) (fun c5 => ?_)
    · rw [if_pos c5] at H
      refine wp_iconst (z := 0) (v := 0) (by decide +kernel) (by decide) ?_
      refine wp_ior (by decide +kernel) ?_
      obtain ⟨o7, H⟩ := H
      refine wp_iast (j := (cl x3)) (by decide +kernel) (oks9_29 ok) o7 rfl ?_
      refine wp_memI (fun I6 eI6 => ?_)
      replace H := H I6 eI6
      refine wp_iinc (i := 4) (z := 1) (v := 1) (lv' := [(4, .int (x4 + 1)), (0, .ref h), (3, .int x3)]) 2 (by decide +kernel) rfl (by decide) (by decide) rfl ?_
      refine wp_goto (off := -39) (tgt := 249) (by decide +kernel) (by decide) ?_
      exact wp_sub [1, 2, 0] rfl H
    · rw [if_neg c5] at H
      refine wp_iconst (z := 1) (v := 1) (by decide +kernel) (by decide) ?_
      refine wp_iload (i := 4) (x := x4) 2 (by decide +kernel) rfl ?_
      refine wp_ishl (by decide +kernel) ?_
      refine wp_goto (off := 4) (tgt := 283) (by decide +kernel) (by decide) ?_
      refine wp_ior (by decide +kernel) ?_
      obtain ⟨o9, H⟩ := H
      refine wp_iast (j := (cl x3)) (by decide +kernel) (oks9_29 ok) o9 rfl ?_
      refine wp_memI (fun I8 eI8 => ?_)
      replace H := H I8 eI8
      refine wp_iinc (i := 4) (z := 1) (v := 1) (lv' := [(4, .int (x4 + 1)), (0, .ref h), (3, .int x3)]) 2 (by decide +kernel) rfl (by decide) (by decide) rfl ?_
      refine wp_goto (off := -39) (tgt := 249) (by decide +kernel) (by decide) ?_
      exact wp_sub [1, 2, 0] rfl H
/-! DeafWallModel.bitsOf(I)I -/
set_option maxRecDepth 20000 in
theorem b9_bitsOf {X : XX} {G : GG} {I : Nat → Nat → Int32} {L : Nat → Nat → Int64} {x0 : Int32} {Q : Int32 → (Nat → Nat → Int32) → (Nat → Nat → Int64) → Prop}  (H : wpI X B9_bitsOf 4 [(0, .int x0), (1, .int 0), (2, .int 0)] [] G I L Q) : wpI X B9_bitsOf 0 [(0, .int x0)] [] G I L Q := by
  refine wp_iconst (z := 0) (v := 0) (by decide +kernel) (by decide) ?_
  refine wp_istore_n (z := 1) (i := 1) (lv' := [(1, .int 0), (0, .int x0)]) (by decide +kernel) rfl (by decide) rfl ?_
  refine wp_iconst (z := 0) (v := 0) (by decide +kernel) (by decide) ?_
  refine wp_istore_n (z := 2) (i := 2) (lv' := [(2, .int 0), (1, .int 0), (0, .int x0)]) (by decide +kernel) rfl (by decide) rfl ?_
  exact wp_sub [2, 1, 0] rfl H
set_option maxRecDepth 20000 in
theorem b9_bitsOf_4 {X : XX} {G : GG} {I : Nat → Nat → Int32} {L : Nat → Nat → Int64} {x0 : Int32} {x1 : Int32} {x2 : Int32} {Q : Int32 → (Nat → Nat → Int32) → (Nat → Nat → Int64) → Prop}  (H : if 12 ≤ x2 then (Q x1 I L) else (∀ u2, u2 = (x1 + ((x0 >>> (x2 &&& 31)) &&& 1)) → wpI X B9_bitsOf 4 [(0, .int x0), (1, .int u2), (2, .int (x2 + 1))] [] G I L Q)) : wpI X B9_bitsOf 4 [(0, .int x0), (1, .int x1), (2, .int x2)] [] G I L Q := by
  refine wp_iload_n (z := 2) (i := 2) (x := x2) 2 (by decide +kernel) rfl rfl ?_
  refine wp_bipush (z := 12) (v := 12) (by decide +kernel) (by decide) ?_
  refine wp_icmp_ge (off := 17) (tgt := 24) (by decide +kernel) (by decide) (fun c1 => ?_) (fun c1 => ?_)
  · rw [if_pos c1] at H
    refine wp_iload_n (z := 1) (i := 1) (x := x1) 1 (by decide +kernel) rfl rfl ?_
    exact wp_iret (by decide +kernel) rfl (Nat.zero_le _) (Nat.zero_le _) ⟨_, _, _, rfl, rfl, H⟩
  · rw [if_neg c1] at H
    refine wp_iload_n (z := 1) (i := 1) (x := x1) 1 (by decide +kernel) rfl rfl ?_
    refine wp_iload_n (z := 0) (i := 0) (x := x0) 0 (by decide +kernel) rfl rfl ?_
    refine wp_iload_n (z := 2) (i := 2) (x := x2) 2 (by decide +kernel) rfl rfl ?_
    refine wp_ishr (by decide +kernel) ?_
    refine wp_iconst (z := 1) (v := 1) (by decide +kernel) (by decide) ?_
    refine wp_iand (by decide +kernel) ?_
    refine wp_iadd (by decide +kernel) ?_
    refine wp_topi (fun u2 eu2 => ?_)
    replace H := H u2 eu2
    refine wp_istore_n (z := 1) (i := 1) (lv' := [(1, .int u2), (0, .int x0), (2, .int x2)]) (by decide +kernel) rfl (by decide) rfl ?_
    refine wp_iinc (i := 2) (z := 1) (v := 1) (lv' := [(2, .int (x2 + 1)), (1, .int u2), (0, .int x0)]) 2 (by decide +kernel) rfl (by decide) (by decide) rfl ?_
    refine wp_goto (off := -17) (tgt := 4) (by decide +kernel) (by decide) ?_
    exact wp_sub [2, 1, 0] rfl H
/-! DeafWallModel.couplesTold()I -/
set_option maxRecDepth 20000 in
theorem b9_couplesTold {X : XX} {G : GG} {I : Nat → Nat → Int32} {L : Nat → Nat → Int64} {h : Nat} {Q : Int32 → (Nat → Nat → Int32) → (Nat → Nat → Int64) → Prop} (ok : OK9 G h) (H : wpI X B9_couplesTold 4 [(0, .ref h), (1, .int 0), (2, .int 0)] [] G I L Q) : wpI X B9_couplesTold 0 [(0, .ref h)] [] G I L Q := by
  refine wp_iconst (z := 0) (v := 0) (by decide +kernel) (by decide) ?_
  refine wp_istore_n (z := 1) (i := 1) (lv' := [(1, .int 0), (0, .ref h)]) (by decide +kernel) rfl (by decide) rfl ?_
  refine wp_iconst (z := 0) (v := 0) (by decide +kernel) (by decide) ?_
  refine wp_istore_n (z := 2) (i := 2) (lv' := [(2, .int 0), (1, .int 0), (0, .ref h)]) (by decide +kernel) rfl (by decide) rfl ?_
  exact wp_sub [2, 1, 0] rfl H
set_option maxRecDepth 20000 in
theorem b9_couplesTold_4 {X : XX} {G : GG} {I : Nat → Nat → Int32} {L : Nat → Nat → Int64} {h : Nat} {x1 : Int32} {x2 : Int32} {Q : Int32 → (Nat → Nat → Int32) → (Nat → Nat → Int64) → Prop} (ok : OK9 G h) (H : if (I h 15) ≤ x2 then (Q x1 I L) else (vp_in x2 6 ∧ (wpI X B9_bitsOf 0 [(0, .int (I (h + 10) (cl x2)))] [] G I L (fun r4 I2 L3 => wpI X B9_couplesTold 4 [(0, .ref h), (1, .int (x1 + r4)), (2, .int (x2 + 1))] [] G I2 L3 Q)))) : wpI X B9_couplesTold 4 [(0, .ref h), (1, .int x1), (2, .int x2)] [] G I L Q := by
  refine wp_iload_n (z := 2) (i := 2) (x := x2) 2 (by decide +kernel) rfl rfl ?_
  refine wp_aload_n (z := 0) (i := 0) (r := (some h)) 0 (by decide +kernel) rfl rfl ?_
  refine wp_getI (idx := 190) (by decide +kernel) fl9_190 rfl ok.1 ?_
  refine wp_icmp_ge (off := 21) (tgt := 30) (by decide +kernel) (by decide) (fun c1 => ?_) (fun c1 => ?_)
  · rw [if_pos c1] at H
    refine wp_iload_n (z := 1) (i := 1) (x := x1) 1 (by decide +kernel) rfl rfl ?_
    exact wp_iret (by decide +kernel) rfl (Nat.zero_le _) (Nat.zero_le _) ⟨_, _, _, rfl, rfl, H⟩
  · rw [if_neg c1] at H
    refine wp_iload_n (z := 1) (i := 1) (x := x1) 1 (by decide +kernel) rfl rfl ?_
    refine wp_aload_n (z := 0) (i := 0) (r := (some h)) 0 (by decide +kernel) rfl rfl ?_
    refine wp_getS (idx := 38) (q := (h + 10)) (by decide +kernel) fl9_38 rfl ok.1 (okr9_29 ok) ?_
    refine wp_iload_n (z := 2) (i := 2) (x := x2) 2 (by decide +kernel) rfl rfl ?_
    obtain ⟨o5, H⟩ := H
    refine wp_iald (j := (cl x2)) (by decide +kernel) (oks9_29 ok) o5 rfl ?_
    refine wp_callS (idx := 250) (B2 := B9_bitsOf) (As := [.int (I (h + 10) (cl x2))]) (st := [.int x1]) (by decide +kernel) m9_bitsOf ml9_250 k9_bitsOf (⟨Nat.le_of_ble_eq_true rfl, Nat.le_of_ble_eq_true rfl⟩ : rOK B9_couplesTold B9_bitsOf) rfl (Nat.le_of_ble_eq_true rfl) (Nat.le_of_ble_eq_true rfl) ⟨Nat.le_of_ble_eq_true rfl, Nat.le_of_ble_eq_true rfl⟩ rfl (wp_mono H (fun v9 M9 hq9 => ?_))
    clear H
    obtain ⟨r4, I2, L3, rfl, rfl, H⟩ := hq9
    show wp X B9_couplesTold 22 [(0, .ref h), (1, .int x1), (2, .int x2)] [.int r4, .int x1] (G, I2, L3) 0 0 _
    refine wp_iadd (by decide +kernel) ?_
    refine wp_istore_n (z := 1) (i := 1) (lv' := [(1, .int (x1 + r4)), (0, .ref h), (2, .int x2)]) (by decide +kernel) rfl (by decide) rfl ?_
    refine wp_iinc (i := 2) (z := 1) (v := 1) (lv' := [(2, .int (x2 + 1)), (1, .int (x1 + r4)), (0, .ref h)]) 2 (by decide +kernel) rfl (by decide) (by decide) rfl ?_
    refine wp_goto (off := -23) (tgt := 4) (by decide +kernel) (by decide) ?_
    exact wp_sub [2, 1, 0] rfl H
/-! DeafWallModel.playsTune(II)V -/
set_option maxRecDepth 20000 in
theorem b9_playsTune {X : XX} {G : GG} {I : Nat → Nat → Int32} {L : Nat → Nat → Int64} {h : Nat} {x1 : Int32} {x2 : Int32} {Q : (Nat → Nat → Int32) → (Nat → Nat → Int64) → Prop} (ok : OK9 G h) (H : wpV X B9_begins 0 [(0, .ref h)] [] G I L (fun I1 L2 => wpV X B9_playsTune 6 [(0, .ref h), (1, .int x1), (2, .int x2), (3, .int 0)] [] G I1 L2 Q)) : wpV X B9_playsTune 0 [(0, .ref h), (1, .int x1), (2, .int x2)] [] G I L Q := by
  refine wp_aload_n (z := 0) (i := 0) (r := (some h)) 0 (by decide +kernel) rfl rfl ?_
  refine wp_callV (idx := 253) (B2 := B9_begins) (As := []) (a := h) (st := []) (by decide +kernel) m9_begins ml9_253 k9_begins e9_begins ck9 ok.1 (⟨Nat.le_of_ble_eq_true rfl, Nat.le_of_ble_eq_true rfl⟩ : rOK B9_playsTune B9_begins) rfl (Nat.le_of_ble_eq_true rfl) (Nat.le_of_ble_eq_true rfl) ⟨Nat.le_of_ble_eq_true rfl, Nat.le_of_ble_eq_true rfl⟩ rfl (wp_mono H (fun v9 M9 hq9 => ?_))
  clear H
  obtain ⟨I1, L2, rfl, rfl, H⟩ := hq9
  show wp X B9_playsTune 4 [(0, .ref h), (1, .int x1), (2, .int x2)] [] (G, I1, L2) 0 0 _
  refine wp_iconst (z := 0) (v := 0) (by decide +kernel) (by decide) ?_
  refine wp_istore_n (z := 3) (i := 3) (lv' := [(3, .int 0), (0, .ref h), (1, .int x1), (2, .int x2)]) (by decide +kernel) rfl (by decide) rfl ?_
  exact wp_sub [1, 2, 3, 0] rfl H
set_option maxRecDepth 20000 in
theorem b9_playsTune_6 {X : XX} {G : GG} {I : Nat → Nat → Int32} {L : Nat → Nat → Int64} {h : Nat} {x1 : Int32} {x2 : Int32} {x3 : Int32} {Q : (Nat → Nat → Int32) → (Nat → Nat → Int64) → Prop} (ok : OK9 G h) (H : if 20 ≤ x3 then (Q I L) else (if x1 ≤ x3 then (wpV X B9_beat 0 [(0, .ref h), (1, .int 0)] [] G I L (fun I3 L4 => wpV X B9_playsTune 6 [(0, .ref h), (1, .int x1), (2, .int x2), (3, .int (x3 + 1))] [] G I3 L4 Q)) else (if ((x2 >>> (x3 &&& 31)) &&& 1) = 1 then (wpV X B9_beat 0 [(0, .ref h), (1, .int 9)] [] G I L (fun I10 L11 => wpV X B9_playsTune 6 [(0, .ref h), (1, .int x1), (2, .int x2), (3, .int (x3 + 1))] [] G I10 L11 Q)) else (wpV X B9_beat 0 [(0, .ref h), (1, .int 0)] [] G I L (fun I7 L8 => wpV X B9_playsTune 6 [(0, .ref h), (1, .int x1), (2, .int x2), (3, .int (x3 + 1))] [] G I7 L8 Q))))) : wpV X B9_playsTune 6 [(0, .ref h), (1, .int x1), (2, .int x2), (3, .int x3)] [] G I L Q := by
  refine wp_iload_n (z := 3) (i := 3) (x := x3) 3 (by decide +kernel) rfl rfl ?_
  refine wp_bipush (z := 20) (v := 20) (by decide +kernel) (by decide) ?_
  refine wp_icmp_ge (off := 33) (tgt := 42) (by decide +kernel) (by decide) (fun c1 => ?_) (fun c1 => ?_)
  · rw [if_pos c1] at H
    exact wp_vret (by decide +kernel) rfl (Nat.zero_le _) (Nat.zero_le _) ⟨_, _, rfl, rfl, H⟩
  · rw [if_neg c1] at H
    refine wp_aload_n (z := 0) (i := 0) (r := (some h)) 0 (by decide +kernel) rfl rfl ?_
    refine wp_iload_n (z := 3) (i := 3) (x := x3) 3 (by decide +kernel) rfl rfl ?_
    refine wp_iload_n (z := 1) (i := 1) (x := x1) 1 (by decide +kernel) rfl rfl ?_
    refine wp_icmp_ge (off := 17) (tgt := 32) (by decide +kernel) (by decide) (fun c2 => ?_) (fun c2 => ?_)
    · rw [if_pos c2] at H
      refine wp_iconst (z := 0) (v := 0) (by decide +kernel) (by decide) ?_
      refine wp_callV (idx := 256) (B2 := B9_beat) (As := [.int 0]) (a := h) (st := []) (by decide +kernel) m9_beat ml9_256 k9_beat e9_beat ck9 ok.1 (⟨Nat.le_of_ble_eq_true rfl, Nat.le_of_ble_eq_true rfl⟩ : rOK B9_playsTune B9_beat) rfl (Nat.le_of_ble_eq_true rfl) (Nat.le_of_ble_eq_true rfl) ⟨Nat.le_of_ble_eq_true rfl, Nat.le_of_ble_eq_true rfl⟩ rfl (wp_mono H (fun v9 M9 hq9 => ?_))
      clear H
      obtain ⟨I3, L4, rfl, rfl, H⟩ := hq9
      show wp X B9_playsTune 36 [(0, .ref h), (1, .int x1), (2, .int x2), (3, .int x3)] [] (G, I3, L4) 0 0 _
      refine wp_iinc (i := 3) (z := 1) (v := 1) (lv' := [(3, .int (x3 + 1)), (0, .ref h), (1, .int x1), (2, .int x2)]) 3 (by decide +kernel) rfl (by decide) (by decide) rfl ?_
      refine wp_goto (off := -33) (tgt := 6) (by decide +kernel) (by decide) ?_
      exact wp_sub [1, 2, 3, 0] rfl H
    · rw [if_neg c2] at H
      refine wp_iload_n (z := 2) (i := 2) (x := x2) 2 (by decide +kernel) rfl rfl ?_
      refine wp_iload_n (z := 3) (i := 3) (x := x3) 3 (by decide +kernel) rfl rfl ?_
      refine wp_ishr (by decide +kernel) ?_
      refine wp_iconst (z := 1) (v := 1) (by decide +kernel) (by decide) ?_
      refine wp_iand (by decide +kernel) ?_
      refine wp_iconst (z := 1) (v := 1) (by decide +kernel) (by decide) ?_
      refine wp_icmp_ne (off := 8) (tgt := 32) (by decide +kernel) (by decide) (fun c6 => ?_) (fun c6 => ?_)
      · rw [if_neg c6] at H
        refine wp_iconst (z := 0) (v := 0) (by decide +kernel) (by decide) ?_
        refine wp_callV (idx := 256) (B2 := B9_beat) (As := [.int 0]) (a := h) (st := []) (by decide +kernel) m9_beat ml9_256 k9_beat e9_beat ck9 ok.1 (⟨Nat.le_of_ble_eq_true rfl, Nat.le_of_ble_eq_true rfl⟩ : rOK B9_playsTune B9_beat) rfl (Nat.le_of_ble_eq_true rfl) (Nat.le_of_ble_eq_true rfl) ⟨Nat.le_of_ble_eq_true rfl, Nat.le_of_ble_eq_true rfl⟩ rfl (wp_mono H (fun v9 M9 hq9 => ?_))
        clear H
        obtain ⟨I7, L8, rfl, rfl, H⟩ := hq9
        show wp X B9_playsTune 36 [(0, .ref h), (1, .int x1), (2, .int x2), (3, .int x3)] [] (G, I7, L8) 0 0 _
        refine wp_iinc (i := 3) (z := 1) (v := 1) (lv' := [(3, .int (x3 + 1)), (0, .ref h), (1, .int x1), (2, .int x2)]) 3 (by decide +kernel) rfl (by decide) (by decide) rfl ?_
        refine wp_goto (off := -33) (tgt := 6) (by decide +kernel) (by decide) ?_
        exact wp_sub [1, 2, 3, 0] rfl H
      · rw [if_pos c6] at H
        refine wp_bipush (z := 9) (v := 9) (by decide +kernel) (by decide) ?_
        refine wp_goto (off := 4) (tgt := 33) (by decide +kernel) (by decide) ?_
        refine wp_callV (idx := 256) (B2 := B9_beat) (As := [.int 9]) (a := h) (st := []) (by decide +kernel) m9_beat ml9_256 k9_beat e9_beat ck9 ok.1 (⟨Nat.le_of_ble_eq_true rfl, Nat.le_of_ble_eq_true rfl⟩ : rOK B9_playsTune B9_beat) rfl (Nat.le_of_ble_eq_true rfl) (Nat.le_of_ble_eq_true rfl) ⟨Nat.le_of_ble_eq_true rfl, Nat.le_of_ble_eq_true rfl⟩ rfl (wp_mono H (fun v9 M9 hq9 => ?_))
        clear H
        obtain ⟨I10, L11, rfl, rfl, H⟩ := hq9
        show wp X B9_playsTune 36 [(0, .ref h), (1, .int x1), (2, .int x2), (3, .int x3)] [] (G, I10, L11) 0 0 _
        refine wp_iinc (i := 3) (z := 1) (v := 1) (lv' := [(3, .int (x3 + 1)), (0, .ref h), (1, .int x1), (2, .int x2)]) 3 (by decide +kernel) rfl (by decide) (by decide) rfl ?_
        refine wp_goto (off := -33) (tgt := 6) (by decide +kernel) (by decide) ?_
        exact wp_sub [1, 2, 3, 0] rfl H
/-! DeafWallModel.tune(IIII)I -/
set_option maxRecDepth 20000 in
theorem b9_tune {X : XX} {G : GG} {I : Nat → Nat → Int32} {L : Nat → Nat → Int64} {h : Nat} {x1 : Int32} {x2 : Int32} {x3 : Int32} {x4 : Int32} {Q : Int32 → (Nat → Nat → Int32) → (Nat → Nat → Int64) → Prop} (ok : OK9 G h) (H : wpI X B9_isWall 0 [(0, .ref h), (1, .int x1)] [] G I L (fun r3 I1 L2 => if r3 = (0 : Int32) then (Q (-2) I1 L2) else (if (v9_isTune x2 x3) = (0 : Int32) then (Q (-2) I1 L2) else (wpV X B9_playsTune 0 [(0, .ref h), (1, .int x2), (2, .int x3)] [] G I1 L2 (fun I6 L7 => if (v9_isIn x4 0 19) = (0 : Int32) then (if x4 = 40 then (Q (I6 h 22) I6 L7) else (if (v9_isIn x4 30 39) = (0 : Int32) then (Q (-2) I6 L7) else (if (v9_isFeeler I6 h (x4 - 30)) = (0 : Int32) then (Q (-2) I6 L7) else (vp_in (x4 - 30) 6 ∧ (Q (I6 (h + 10) (cl (x4 - 30))) I6 L7))))) else (vp_in x4 64 ∧ (Q (I6 (h + 11) (cl x4)) I6 L7))))))) : wpI X B9_tune 0 [(0, .ref h), (1, .int x1), (2, .int x2), (3, .int x3), (4, .int x4)] [] G I L Q := by
  refine wp_aload_n (z := 0) (i := 0) (r := (some h)) 0 (by decide +kernel) rfl rfl ?_
  refine wp_iload_n (z := 1) (i := 1) (x := x1) 1 (by decide +kernel) rfl rfl ?_
  refine wp_callV (idx := 196) (B2 := B9_isWall) (As := [.int x1]) (a := h) (st := []) (by decide +kernel) m9_isWall ml9_196 k9_isWall e9_isWall ck9 ok.1 (⟨Nat.le_of_ble_eq_true rfl, Nat.le_of_ble_eq_true rfl⟩ : rOK B9_tune B9_isWall) rfl (Nat.le_of_ble_eq_true rfl) (Nat.le_of_ble_eq_true rfl) ⟨Nat.le_of_ble_eq_true rfl, Nat.le_of_ble_eq_true rfl⟩ rfl (wp_mono H (fun v9 M9 hq9 => ?_))
  clear H
  obtain ⟨r3, I1, L2, rfl, rfl, H⟩ := hq9
  show wp X B9_tune 5 [(0, .ref h), (1, .int x1), (2, .int x2), (3, .int x3), (4, .int x4)] [.int r3] (G, I1, L2) 0 0 _
  refine wp_if_eq (off := 11) (tgt := 16) (by decide +kernel) (by decide) (fun c4 => ?_) (fun c4 => ?_)
  · rw [if_pos c4] at H
    refine wp_bipush (z := -2) (v := (-2)) (by decide +kernel) (by decide) ?_
    exact wp_iret (by decide +kernel) rfl (Nat.zero_le _) (Nat.zero_le _) ⟨_, _, _, rfl, rfl, H⟩
  · rw [if_neg c4] at H
    refine wp_iload_n (z := 2) (i := 2) (x := x2) 2 (by decide +kernel) rfl rfl ?_
    refine wp_iload_n (z := 3) (i := 3) (x := x3) 3 (by decide +kernel) rfl rfl ?_
    refine wp_callS (idx := 259) (B2 := B9_isTune) (As := [.int x2, .int x3]) (st := []) (by decide +kernel) m9_isTune ml9_259 k9_isTune (⟨Nat.le_of_ble_eq_true rfl, Nat.le_of_ble_eq_true rfl⟩ : rOK B9_tune B9_isTune) rfl (Nat.le_of_ble_eq_true rfl) (Nat.le_of_ble_eq_true rfl) ⟨Nat.le_of_ble_eq_true rfl, Nat.le_of_ble_eq_true rfl⟩ rfl (wp_mono (b9_isTune (Q := (fun r I' L' => r = (v9_isTune x2 x3) ∧ I1 = I' ∧ L2 = L'))  ⟨rfl, rfl, rfl⟩) (fun v9 M9 hq9 => ?_))
    obtain ⟨_, _, _, rfl, rfl, rfl, rfl, rfl⟩ := hq9
    show wp X B9_tune 13 [(0, .ref h), (1, .int x1), (2, .int x2), (3, .int x3), (4, .int x4)] [.int (v9_isTune x2 x3)] (G, I1, L2) 0 0 _
    refine wp_if_ne (off := 6) (tgt := 19) (by decide +kernel) (by decide) (fun c5 => ?_) (fun c5 => ?_)
    · rw [if_neg c5] at H
      refine wp_aload_n (z := 0) (i := 0) (r := (some h)) 0 (by decide +kernel) rfl rfl ?_
      refine wp_iload_n (z := 2) (i := 2) (x := x2) 2 (by decide +kernel) rfl rfl ?_
      refine wp_iload_n (z := 3) (i := 3) (x := x3) 3 (by decide +kernel) rfl rfl ?_
      refine wp_callV (idx := 262) (B2 := B9_playsTune) (As := [.int x2, .int x3]) (a := h) (st := []) (by decide +kernel) m9_playsTune ml9_262 k9_playsTune e9_playsTune ck9 ok.1 (⟨Nat.le_of_ble_eq_true rfl, Nat.le_of_ble_eq_true rfl⟩ : rOK B9_tune B9_playsTune) rfl (Nat.le_of_ble_eq_true rfl) (Nat.le_of_ble_eq_true rfl) ⟨Nat.le_of_ble_eq_true rfl, Nat.le_of_ble_eq_true rfl⟩ rfl (wp_mono H (fun v9 M9 hq9 => ?_))
      clear H
      obtain ⟨I6, L7, rfl, rfl, H⟩ := hq9
      show wp X B9_tune 25 [(0, .ref h), (1, .int x1), (2, .int x2), (3, .int x3), (4, .int x4)] [] (G, I6, L7) 0 0 _
      refine wp_iload (i := 4) (x := x4) 4 (by decide +kernel) rfl ?_
      refine wp_iconst (z := 0) (v := 0) (by decide +kernel) (by decide) ?_
      refine wp_bipush (z := 19) (v := 19) (by decide +kernel) (by decide) ?_
      refine wp_callS (idx := 121) (B2 := B9_isIn) (As := [.int x4, .int 0, .int 19]) (st := []) (by decide +kernel) m9_isIn ml9_121 k9_isIn (⟨Nat.le_of_ble_eq_true rfl, Nat.le_of_ble_eq_true rfl⟩ : rOK B9_tune B9_isIn) rfl (Nat.le_of_ble_eq_true rfl) (Nat.le_of_ble_eq_true rfl) ⟨Nat.le_of_ble_eq_true rfl, Nat.le_of_ble_eq_true rfl⟩ rfl (wp_mono (b9_isIn (Q := (fun r I' L' => r = (v9_isIn x4 0 19) ∧ I6 = I' ∧ L7 = L'))  ⟨rfl, rfl, rfl⟩) (fun v9 M9 hq9 => ?_))
      obtain ⟨_, _, _, rfl, rfl, rfl, rfl, rfl⟩ := hq9
      show wp X B9_tune 33 [(0, .ref h), (1, .int x1), (2, .int x2), (3, .int x3), (4, .int x4)] [.int (v9_isIn x4 0 19)] (G, I6, L7) 0 0 _
      refine wp_if_eq (off := 11) (tgt := 44) (by decide +kernel) (by decide) (fun c9 => ?_) (fun c9 => ?_)
      · rw [if_pos c9] at H
        refine wp_iload (i := 4) (x := x4) 4 (by decide +kernel) rfl ?_
        refine wp_bipush (z := 40) (v := 40) (by decide +kernel) (by decide) ?_
        refine wp_icmp_ne (off := 8) (tgt := 56) (by decide +kernel) (by decide) (fun c10 => ?_) (fun c10 => ?_)
        · rw [if_neg c10] at H
          refine wp_iload (i := 4) (x := x4) 4 (by decide +kernel) rfl ?_
          refine wp_bipush (z := 30) (v := 30) (by decide +kernel) (by decide) ?_
          refine wp_bipush (z := 39) (v := 39) (by decide +kernel) (by decide) ?_
          refine wp_callS (idx := 121) (B2 := B9_isIn) (As := [.int x4, .int 30, .int 39]) (st := []) (by decide +kernel) m9_isIn ml9_121 k9_isIn (⟨Nat.le_of_ble_eq_true rfl, Nat.le_of_ble_eq_true rfl⟩ : rOK B9_tune B9_isIn) rfl (Nat.le_of_ble_eq_true rfl) (Nat.le_of_ble_eq_true rfl) ⟨Nat.le_of_ble_eq_true rfl, Nat.le_of_ble_eq_true rfl⟩ rfl (wp_mono (b9_isIn (Q := (fun r I' L' => r = (v9_isIn x4 30 39) ∧ I6 = I' ∧ L7 = L'))  ⟨rfl, rfl, rfl⟩) (fun v9 M9 hq9 => ?_))
          obtain ⟨_, _, _, rfl, rfl, rfl, rfl, rfl⟩ := hq9
          show wp X B9_tune 65 [(0, .ref h), (1, .int x1), (2, .int x2), (3, .int x3), (4, .int x4)] [.int (v9_isIn x4 30 39)] (G, I6, L7) 0 0 _
          refine wp_if_eq (off := 28) (tgt := 93) (by decide +kernel) (by decide) (fun c11 => ?_) (fun c11 => ?_)
          · rw [if_pos c11] at H
            refine wp_bipush (z := -2) (v := (-2)) (by decide +kernel) (by decide) ?_
            exact wp_iret (by decide +kernel) rfl (Nat.zero_le _) (Nat.zero_le _) ⟨_, _, _, rfl, rfl, H⟩
          · rw [if_neg c11] at H
            refine wp_aload_n (z := 0) (i := 0) (r := (some h)) 0 (by decide +kernel) rfl rfl ?_
            refine wp_iload (i := 4) (x := x4) 4 (by decide +kernel) rfl ?_
            refine wp_bipush (z := 30) (v := 30) (by decide +kernel) (by decide) ?_
            refine wp_isub (by decide +kernel) ?_
            refine wp_callV (idx := 199) (B2 := B9_isFeeler) (As := [.int (x4 - 30)]) (a := h) (st := []) (by decide +kernel) m9_isFeeler ml9_199 k9_isFeeler e9_isFeeler ck9 ok.1 (⟨Nat.le_of_ble_eq_true rfl, Nat.le_of_ble_eq_true rfl⟩ : rOK B9_tune B9_isFeeler) rfl (Nat.le_of_ble_eq_true rfl) (Nat.le_of_ble_eq_true rfl) ⟨Nat.le_of_ble_eq_true rfl, Nat.le_of_ble_eq_true rfl⟩ rfl (wp_mono (b9_isFeeler (Q := (fun r I' L' => r = (v9_isFeeler I6 h (x4 - 30)) ∧ I6 = I' ∧ L7 = L')) ok ⟨rfl, rfl, rfl⟩) (fun v9 M9 hq9 => ?_))
            obtain ⟨_, _, _, rfl, rfl, rfl, rfl, rfl⟩ := hq9
            show wp X B9_tune 77 [(0, .ref h), (1, .int x1), (2, .int x2), (3, .int x3), (4, .int x4)] [.int (v9_isFeeler I6 h (x4 - 30))] (G, I6, L7) 0 0 _
            refine wp_if_eq (off := 16) (tgt := 93) (by decide +kernel) (by decide) (fun c12 => ?_) (fun c12 => ?_)
            · rw [if_pos c12] at H
              refine wp_bipush (z := -2) (v := (-2)) (by decide +kernel) (by decide) ?_
              exact wp_iret (by decide +kernel) rfl (Nat.zero_le _) (Nat.zero_le _) ⟨_, _, _, rfl, rfl, H⟩
            · rw [if_neg c12] at H
              refine wp_aload_n (z := 0) (i := 0) (r := (some h)) 0 (by decide +kernel) rfl rfl ?_
              refine wp_getS (idx := 38) (q := (h + 10)) (by decide +kernel) fl9_38 rfl ok.1 (okr9_29 ok) ?_
              refine wp_iload (i := 4) (x := x4) 4 (by decide +kernel) rfl ?_
              refine wp_bipush (z := 30) (v := 30) (by decide +kernel) (by decide) ?_
              refine wp_isub (by decide +kernel) ?_
              obtain ⟨o13, H⟩ := H
              refine wp_iald (j := (cl (x4 - 30))) (by decide +kernel) (oks9_29 ok) o13 rfl ?_
              refine wp_goto (off := 5) (tgt := 95) (by decide +kernel) (by decide) ?_
              exact wp_iret (by decide +kernel) rfl (Nat.zero_le _) (Nat.zero_le _) ⟨_, _, _, rfl, rfl, H⟩
        · rw [if_pos c10] at H
          refine wp_aload_n (z := 0) (i := 0) (r := (some h)) 0 (by decide +kernel) rfl rfl ?_
          refine wp_getI (idx := 235) (by decide +kernel) fl9_235 rfl ok.1 ?_
          exact wp_iret (by decide +kernel) rfl (Nat.zero_le _) (Nat.zero_le _) ⟨_, _, _, rfl, rfl, H⟩
      · rw [if_neg c9] at H
        refine wp_aload_n (z := 0) (i := 0) (r := (some h)) 0 (by decide +kernel) rfl rfl ?_
        refine wp_getS (idx := 41) (q := (h + 11)) (by decide +kernel) fl9_41 rfl ok.1 (okr9_30 ok) ?_
        refine wp_iload (i := 4) (x := x4) 4 (by decide +kernel) rfl ?_
        obtain ⟨o16, H⟩ := H
        refine wp_iald (j := (cl x4)) (by decide +kernel) (oks9_30 ok) o16 rfl ?_
        exact wp_iret (by decide +kernel) rfl (Nat.zero_le _) (Nat.zero_le _) ⟨_, _, _, rfl, rfl, H⟩
    · rw [if_pos c5] at H
      refine wp_bipush (z := -2) (v := (-2)) (by decide +kernel) (by decide) ?_
      exact wp_iret (by decide +kernel) rfl (Nat.zero_le _) (Nat.zero_le _) ⟨_, _, _, rfl, rfl, H⟩
/-! DeafWallModel.pushes(I)V -/
set_option maxRecDepth 20000 in
theorem b9_pushes {X : XX} {G : GG} {I : Nat → Nat → Int32} {L : Nat → Nat → Int64} {h : Nat} {x1 : Int32} {Q : (Nat → Nat → Int32) → (Nat → Nat → Int64) → Prop} (ok : OK9 G h) (H : wpV X B9_begins 0 [(0, .ref h)] [] G I L (fun I1 L2 => wpV X B9_beat 0 [(0, .ref h), (1, .int x1)] [] G I1 L2 (fun I4 L5 => wpV X B9_pushes 9 [(0, .ref h)] [] G I4 L5 Q))) : wpV X B9_pushes 0 [(0, .ref h), (1, .int x1)] [] G I L Q := by
  refine wp_aload_n (z := 0) (i := 0) (r := (some h)) 0 (by decide +kernel) rfl rfl ?_
  refine wp_callV (idx := 253) (B2 := B9_begins) (As := []) (a := h) (st := []) (by decide +kernel) m9_begins ml9_253 k9_begins e9_begins ck9 ok.1 (⟨Nat.le_of_ble_eq_true rfl, Nat.le_of_ble_eq_true rfl⟩ : rOK B9_pushes B9_begins) rfl (Nat.le_of_ble_eq_true rfl) (Nat.le_of_ble_eq_true rfl) ⟨Nat.le_of_ble_eq_true rfl, Nat.le_of_ble_eq_true rfl⟩ rfl (wp_mono H (fun v9 M9 hq9 => ?_))
  clear H
  obtain ⟨I1, L2, rfl, rfl, H⟩ := hq9
  show wp X B9_pushes 4 [(0, .ref h), (1, .int x1)] [] (G, I1, L2) 0 0 _
  refine wp_aload_n (z := 0) (i := 0) (r := (some h)) 0 (by decide +kernel) rfl rfl ?_
  refine wp_iload_n (z := 1) (i := 1) (x := x1) 1 (by decide +kernel) rfl rfl ?_
  refine wp_callV (idx := 256) (B2 := B9_beat) (As := [.int x1]) (a := h) (st := []) (by decide +kernel) m9_beat ml9_256 k9_beat e9_beat ck9 ok.1 (⟨Nat.le_of_ble_eq_true rfl, Nat.le_of_ble_eq_true rfl⟩ : rOK B9_pushes B9_beat) rfl (Nat.le_of_ble_eq_true rfl) (Nat.le_of_ble_eq_true rfl) ⟨Nat.le_of_ble_eq_true rfl, Nat.le_of_ble_eq_true rfl⟩ rfl (wp_mono H (fun v9 M9 hq9 => ?_))
  clear H
  obtain ⟨I4, L5, rfl, rfl, H⟩ := hq9
  show wp X B9_pushes 9 [(0, .ref h), (1, .int x1)] [] (G, I4, L5) 0 0 _
  exact wp_sub [0] rfl H
set_option maxRecDepth 20000 in
theorem b9_pushes_9 {X : XX} {G : GG} {I : Nat → Nat → Int32} {L : Nat → Nat → Int64} {h : Nat} {Q : (Nat → Nat → Int32) → (Nat → Nat → Int64) → Prop} (ok : OK9 G h) (H : if 20 ≤ (I h 17) then (Q I L) else (wpV X B9_beat 0 [(0, .ref h), (1, .int 0)] [] G I L (fun I2 L3 => wpV X B9_pushes 9 [(0, .ref h)] [] G I2 L3 Q))) : wpV X B9_pushes 9 [(0, .ref h)] [] G I L Q := by
  refine wp_aload_n (z := 0) (i := 0) (r := (some h)) 0 (by decide +kernel) rfl rfl ?_
  refine wp_getI (idx := 220) (by decide +kernel) fl9_220 rfl ok.1 ?_
  refine wp_bipush (z := 20) (v := 20) (by decide +kernel) (by decide) ?_
  refine wp_icmp_ge (off := 11) (tgt := 26) (by decide +kernel) (by decide) (fun c1 => ?_) (fun c1 => ?_)
  · rw [if_pos c1] at H
    exact wp_vret (by decide +kernel) rfl (Nat.zero_le _) (Nat.zero_le _) ⟨_, _, rfl, rfl, H⟩
  · rw [if_neg c1] at H
    refine wp_aload_n (z := 0) (i := 0) (r := (some h)) 0 (by decide +kernel) rfl rfl ?_
    refine wp_iconst (z := 0) (v := 0) (by decide +kernel) (by decide) ?_
    refine wp_callV (idx := 256) (B2 := B9_beat) (As := [.int 0]) (a := h) (st := []) (by decide +kernel) m9_beat ml9_256 k9_beat e9_beat ck9 ok.1 (⟨Nat.le_of_ble_eq_true rfl, Nat.le_of_ble_eq_true rfl⟩ : rOK B9_pushes B9_beat) rfl (Nat.le_of_ble_eq_true rfl) (Nat.le_of_ble_eq_true rfl) ⟨Nat.le_of_ble_eq_true rfl, Nat.le_of_ble_eq_true rfl⟩ rfl (wp_mono H (fun v9 M9 hq9 => ?_))
    clear H
    obtain ⟨I2, L3, rfl, rfl, H⟩ := hq9
    show wp X B9_pushes 23 [(0, .ref h)] [] (G, I2, L3) 0 0 _
    refine wp_goto (off := -14) (tgt := 9) (by decide +kernel) (by decide) ?_
    exact wp_sub [0] rfl H
/-! DeafWallModel.firstFelt(I)I -/
set_option maxRecDepth 20000 in
theorem b9_firstFelt {X : XX} {G : GG} {I : Nat → Nat → Int32} {L : Nat → Nat → Int64} {h : Nat} {x1 : Int32} {Q : Int32 → (Nat → Nat → Int32) → (Nat → Nat → Int64) → Prop} (ok : OK9 G h) (H : wpI X B9_firstFelt 2 [(0, .ref h), (1, .int x1), (2, .int 0)] [] G I L Q) : wpI X B9_firstFelt 0 [(0, .ref h), (1, .int x1)] [] G I L Q := by
  refine wp_iconst (z := 0) (v := 0) (by decide +kernel) (by decide) ?_
  refine wp_istore_n (z := 2) (i := 2) (lv' := [(2, .int 0), (0, .ref h), (1, .int x1)]) (by decide +kernel) rfl (by decide) rfl ?_
  exact wp_sub [1, 2, 0] rfl H
set_option maxRecDepth 20000 in
theorem b9_firstFelt_2 {X : XX} {G : GG} {I : Nat → Nat → Int32} {L : Nat → Nat → Int64} {h : Nat} {x1 : Int32} {x2 : Int32} {Q : Int32 → (Nat → Nat → Int32) → (Nat → Nat → Int64) → Prop} (ok : OK9 G h) (H : if 20 ≤ x2 then (Q (-1) I L) else (vp_in x2 64 ∧ (if (((I (h + 11) (cl x2)) >>> (x1 &&& 31)) &&& 1) = 1 then (Q x2 I L) else (wpI X B9_firstFelt 2 [(0, .ref h), (1, .int x1), (2, .int (x2 + 1))] [] G I L Q)))) : wpI X B9_firstFelt 2 [(0, .ref h), (1, .int x1), (2, .int x2)] [] G I L Q := by
  refine wp_iload_n (z := 2) (i := 2) (x := x2) 2 (by decide +kernel) rfl rfl ?_
  refine wp_bipush (z := 20) (v := 20) (by decide +kernel) (by decide) ?_
  refine wp_icmp_ge (off := 25) (tgt := 30) (by decide +kernel) (by decide) (fun c1 => ?_) (fun c1 => ?_)
  · rw [if_pos c1] at H
    refine wp_iconst (z := -1) (v := (-1)) (by decide +kernel) (by decide) ?_
    exact wp_iret (by decide +kernel) rfl (Nat.zero_le _) (Nat.zero_le _) ⟨_, _, _, rfl, rfl, H⟩
  · rw [if_neg c1] at H
    refine wp_aload_n (z := 0) (i := 0) (r := (some h)) 0 (by decide +kernel) rfl rfl ?_
    refine wp_getS (idx := 41) (q := (h + 11)) (by decide +kernel) fl9_41 rfl ok.1 (okr9_30 ok) ?_
    refine wp_iload_n (z := 2) (i := 2) (x := x2) 2 (by decide +kernel) rfl rfl ?_
    obtain ⟨o3, H⟩ := H
    refine wp_iald (j := (cl x2)) (by decide +kernel) (oks9_30 ok) o3 rfl ?_
    refine wp_iload_n (z := 1) (i := 1) (x := x1) 1 (by decide +kernel) rfl rfl ?_
    refine wp_ishr (by decide +kernel) ?_
    refine wp_iconst (z := 1) (v := 1) (by decide +kernel) (by decide) ?_
    refine wp_iand (by decide +kernel) ?_
    refine wp_iconst (z := 1) (v := 1) (by decide +kernel) (by decide) ?_
    refine wp_icmp_ne (off := 5) (tgt := 24) (by decide +kernel) (by decide) (fun c2 => ?_) (fun c2 => ?_)
    · rw [if_neg c2] at H
      refine wp_iinc (i := 2) (z := 1) (v := 1) (lv' := [(2, .int (x2 + 1)), (0, .ref h), (1, .int x1)]) 2 (by decide +kernel) rfl (by decide) (by decide) rfl ?_
      refine wp_goto (off := -25) (tgt := 2) (by decide +kernel) (by decide) ?_
      exact wp_sub [1, 2, 0] rfl H
    · rw [if_pos c2] at H
      refine wp_iload_n (z := 2) (i := 2) (x := x2) 2 (by decide +kernel) rfl rfl ?_
      exact wp_iret (by decide +kernel) rfl (Nat.zero_le _) (Nat.zero_le _) ⟨_, _, _, rfl, rfl, H⟩
/-! DeafWallModel.reachOf(I)I -/
set_option maxRecDepth 20000 in
theorem b9_reachOf {X : XX} {G : GG} {I : Nat → Nat → Int32} {L : Nat → Nat → Int64} {h : Nat} {x1 : Int32} {Q : Int32 → (Nat → Nat → Int32) → (Nat → Nat → Int64) → Prop} (ok : OK9 G h) (H : wpI X B9_reachOf 2 [(0, .ref h), (1, .int x1), (2, .int 1)] [] G I L Q) : wpI X B9_reachOf 0 [(0, .ref h), (1, .int x1)] [] G I L Q := by
  refine wp_iconst (z := 1) (v := 1) (by decide +kernel) (by decide) ?_
  refine wp_istore_n (z := 2) (i := 2) (lv' := [(2, .int 1), (0, .ref h), (1, .int x1)]) (by decide +kernel) rfl (by decide) rfl ?_
  exact wp_sub [1, 2, 0] rfl H
set_option maxRecDepth 20000 in
theorem b9_reachOf_2 {X : XX} {G : GG} {I : Nat → Nat → Int32} {L : Nat → Nat → Int64} {h : Nat} {x1 : Int32} {x2 : Int32} {Q : Int32 → (Nat → Nat → Int32) → (Nat → Nat → Int64) → Prop} (ok : OK9 G h) (H : if 10 ≤ x2 then (Q (-1) I L) else (wpV X B9_pushes 0 [(0, .ref h), (1, .int x2)] [] G I L (fun I2 L3 => wpI X B9_firstFelt 0 [(0, .ref h), (1, .int x1)] [] G I2 L3 (fun r7 I5 L6 => if r7 = (-1) then (wpI X B9_reachOf 2 [(0, .ref h), (1, .int x1), (2, .int (x2 + 1))] [] G I5 L6 Q) else (Q x2 I5 L6))))) : wpI X B9_reachOf 2 [(0, .ref h), (1, .int x1), (2, .int x2)] [] G I L Q := by
  refine wp_iload_n (z := 2) (i := 2) (x := x2) 2 (by decide +kernel) rfl rfl ?_
  refine wp_bipush (z := 10) (v := 10) (by decide +kernel) (by decide) ?_
  refine wp_icmp_ge (off := 25) (tgt := 30) (by decide +kernel) (by decide) (fun c1 => ?_) (fun c1 => ?_)
  · rw [if_pos c1] at H
    refine wp_iconst (z := -1) (v := (-1)) (by decide +kernel) (by decide) ?_
    exact wp_iret (by decide +kernel) rfl (Nat.zero_le _) (Nat.zero_le _) ⟨_, _, _, rfl, rfl, H⟩
  · rw [if_neg c1] at H
    refine wp_aload_n (z := 0) (i := 0) (r := (some h)) 0 (by decide +kernel) rfl rfl ?_
    refine wp_iload_n (z := 2) (i := 2) (x := x2) 2 (by decide +kernel) rfl rfl ?_
    refine wp_callV (idx := 265) (B2 := B9_pushes) (As := [.int x2]) (a := h) (st := []) (by decide +kernel) m9_pushes ml9_265 k9_pushes e9_pushes ck9 ok.1 (⟨Nat.le_of_ble_eq_true rfl, Nat.le_of_ble_eq_true rfl⟩ : rOK B9_reachOf B9_pushes) rfl (Nat.le_of_ble_eq_true rfl) (Nat.le_of_ble_eq_true rfl) ⟨Nat.le_of_ble_eq_true rfl, Nat.le_of_ble_eq_true rfl⟩ rfl (wp_mono H (fun v9 M9 hq9 => ?_))
    clear H
    obtain ⟨I2, L3, rfl, rfl, H⟩ := hq9
    show wp X B9_reachOf 13 [(0, .ref h), (1, .int x1), (2, .int x2)] [] (G, I2, L3) 0 0 _
    refine wp_aload_n (z := 0) (i := 0) (r := (some h)) 0 (by decide +kernel) rfl rfl ?_
    refine wp_iload_n (z := 1) (i := 1) (x := x1) 1 (by decide +kernel) rfl rfl ?_
    refine wp_callV (idx := 268) (B2 := B9_firstFelt) (As := [.int x1]) (a := h) (st := []) (by decide +kernel) m9_firstFelt ml9_268 k9_firstFelt e9_firstFelt ck9 ok.1 (⟨Nat.le_of_ble_eq_true rfl, Nat.le_of_ble_eq_true rfl⟩ : rOK B9_reachOf B9_firstFelt) rfl (Nat.le_of_ble_eq_true rfl) (Nat.le_of_ble_eq_true rfl) ⟨Nat.le_of_ble_eq_true rfl, Nat.le_of_ble_eq_true rfl⟩ rfl (wp_mono H (fun v9 M9 hq9 => ?_))
    clear H
    obtain ⟨r7, I5, L6, rfl, rfl, H⟩ := hq9
    show wp X B9_reachOf 18 [(0, .ref h), (1, .int x1), (2, .int x2)] [.int r7] (G, I5, L6) 0 0 _
    refine wp_iconst (z := -1) (v := (-1)) (by decide +kernel) (by decide) ?_
    refine wp_icmp_eq (off := 5) (tgt := 24) (by decide +kernel) (by decide) (fun c8 => ?_) (fun c8 => ?_)
    · rw [if_pos c8] at H
      refine wp_iinc (i := 2) (z := 1) (v := 1) (lv' := [(2, .int (x2 + 1)), (0, .ref h), (1, .int x1)]) 2 (by decide +kernel) rfl (by decide) (by decide) rfl ?_
      refine wp_goto (off := -25) (tgt := 2) (by decide +kernel) (by decide) ?_
      exact wp_sub [1, 2, 0] rfl H
    · rw [if_neg c8] at H
      refine wp_iload_n (z := 2) (i := 2) (x := x2) 2 (by decide +kernel) rfl rfl ?_
      exact wp_iret (by decide +kernel) rfl (Nat.zero_le _) (Nat.zero_le _) ⟨_, _, _, rfl, rfl, H⟩
/-! DeafWallModel.reach(IIZ)I -/
set_option maxRecDepth 20000 in
theorem b9_reach {X : XX} {G : GG} {I : Nat → Nat → Int32} {L : Nat → Nat → Int64} {h : Nat} {x1 : Int32} {x2 : Int32} {x3 : Int32} {Q : Int32 → (Nat → Nat → Int32) → (Nat → Nat → Int64) → Prop} (ok : OK9 G h) (H : wpI X B9_isWall 0 [(0, .ref h), (1, .int x1)] [] G I L (fun r3 I1 L2 => if r3 = (0 : Int32) then (Q (-1) I1 L2) else (if (v9_isFeeler I1 h x2) = (0 : Int32) then (Q (-1) I1 L2) else (wpI X B9_reachOf 0 [(0, .ref h), (1, .int x2)] [] G I1 L2 (fun r8 I6 L7 => if r8 = (-1) then (Q r8 I6 L7) else (if x3 = (0 : Int32) then (Q r8 I6 L7) else (wpI X B9_firstFelt 0 [(0, .ref h), (1, .int x2)] [] G I6 L7 (fun r13 I11 L12 => Q r13 I11 L12)))))))) : wpI X B9_reach 0 [(0, .ref h), (1, .int x1), (2, .int x2), (3, .int x3)] [] G I L Q := by
  refine wp_aload_n (z := 0) (i := 0) (r := (some h)) 0 (by decide +kernel) rfl rfl ?_
  refine wp_iload_n (z := 1) (i := 1) (x := x1) 1 (by decide +kernel) rfl rfl ?_
  refine wp_callV (idx := 196) (B2 := B9_isWall) (As := [.int x1]) (a := h) (st := []) (by decide +kernel) m9_isWall ml9_196 k9_isWall e9_isWall ck9 ok.1 (⟨Nat.le_of_ble_eq_true rfl, Nat.le_of_ble_eq_true rfl⟩ : rOK B9_reach B9_isWall) rfl (Nat.le_of_ble_eq_true rfl) (Nat.le_of_ble_eq_true rfl) ⟨Nat.le_of_ble_eq_true rfl, Nat.le_of_ble_eq_true rfl⟩ rfl (wp_mono H (fun v9 M9 hq9 => ?_))
  clear H
  obtain ⟨r3, I1, L2, rfl, rfl, H⟩ := hq9
  show wp X B9_reach 5 [(0, .ref h), (1, .int x1), (2, .int x2), (3, .int x3)] [.int r3] (G, I1, L2) 0 0 _
  refine wp_if_eq (off := 11) (tgt := 16) (by decide +kernel) (by decide) (fun c4 => ?_) (fun c4 => ?_)
  · rw [if_pos c4] at H
    refine wp_iconst (z := -1) (v := (-1)) (by decide +kernel) (by decide) ?_
    exact wp_iret (by decide +kernel) rfl (Nat.zero_le _) (Nat.zero_le _) ⟨_, _, _, rfl, rfl, H⟩
  · rw [if_neg c4] at H
    refine wp_aload_n (z := 0) (i := 0) (r := (some h)) 0 (by decide +kernel) rfl rfl ?_
    refine wp_iload_n (z := 2) (i := 2) (x := x2) 2 (by decide +kernel) rfl rfl ?_
    refine wp_callV (idx := 199) (B2 := B9_isFeeler) (As := [.int x2]) (a := h) (st := []) (by decide +kernel) m9_isFeeler ml9_199 k9_isFeeler e9_isFeeler ck9 ok.1 (⟨Nat.le_of_ble_eq_true rfl, Nat.le_of_ble_eq_true rfl⟩ : rOK B9_reach B9_isFeeler) rfl (Nat.le_of_ble_eq_true rfl) (Nat.le_of_ble_eq_true rfl) ⟨Nat.le_of_ble_eq_true rfl, Nat.le_of_ble_eq_true rfl⟩ rfl (wp_mono (b9_isFeeler (Q := (fun r I' L' => r = (v9_isFeeler I1 h x2) ∧ I1 = I' ∧ L2 = L')) ok ⟨rfl, rfl, rfl⟩) (fun v9 M9 hq9 => ?_))
    obtain ⟨_, _, _, rfl, rfl, rfl, rfl, rfl⟩ := hq9
    show wp X B9_reach 13 [(0, .ref h), (1, .int x1), (2, .int x2), (3, .int x3)] [.int (v9_isFeeler I1 h x2)] (G, I1, L2) 0 0 _
    refine wp_if_ne (off := 5) (tgt := 18) (by decide +kernel) (by decide) (fun c5 => ?_) (fun c5 => ?_)
    · rw [if_neg c5] at H
      refine wp_aload_n (z := 0) (i := 0) (r := (some h)) 0 (by decide +kernel) rfl rfl ?_
      refine wp_iload_n (z := 2) (i := 2) (x := x2) 2 (by decide +kernel) rfl rfl ?_
      refine wp_callV (idx := 271) (B2 := B9_reachOf) (As := [.int x2]) (a := h) (st := []) (by decide +kernel) m9_reachOf ml9_271 k9_reachOf e9_reachOf ck9 ok.1 (⟨Nat.le_of_ble_eq_true rfl, Nat.le_of_ble_eq_true rfl⟩ : rOK B9_reach B9_reachOf) rfl (Nat.le_of_ble_eq_true rfl) (Nat.le_of_ble_eq_true rfl) ⟨Nat.le_of_ble_eq_true rfl, Nat.le_of_ble_eq_true rfl⟩ rfl (wp_mono H (fun v9 M9 hq9 => ?_))
      clear H
      obtain ⟨r8, I6, L7, rfl, rfl, H⟩ := hq9
      show wp X B9_reach 23 [(0, .ref h), (1, .int x1), (2, .int x2), (3, .int x3)] [.int r8] (G, I6, L7) 0 0 _
      refine wp_istore (i := 4) (lv' := [(4, .int r8), (0, .ref h), (1, .int x1), (2, .int x2), (3, .int x3)]) (by decide +kernel) (by decide) rfl ?_
      refine wp_iload (i := 4) (x := r8) 0 (by decide +kernel) rfl ?_
      refine wp_iconst (z := -1) (v := (-1)) (by decide +kernel) (by decide) ?_
      refine wp_icmp_eq (off := 7) (tgt := 35) (by decide +kernel) (by decide) (fun c9 => ?_) (fun c9 => ?_)
      · rw [if_pos c9] at H
        refine wp_iload (i := 4) (x := r8) 0 (by decide +kernel) rfl ?_
        refine wp_goto (off := 8) (tgt := 45) (by decide +kernel) (by decide) ?_
        exact wp_iret (by decide +kernel) rfl (Nat.zero_le _) (Nat.zero_le _) ⟨_, _, _, rfl, rfl, H⟩
      · rw [if_neg c9] at H
        refine wp_iload_n (z := 3) (i := 3) (x := x3) 4 (by decide +kernel) rfl rfl ?_
        refine wp_if_ne (off := 8) (tgt := 40) (by decide +kernel) (by decide) (fun c10 => ?_) (fun c10 => ?_)
        · rw [if_neg c10] at H
          refine wp_aload_n (z := 0) (i := 0) (r := (some h)) 1 (by decide +kernel) rfl rfl ?_
          refine wp_iload_n (z := 2) (i := 2) (x := x2) 3 (by decide +kernel) rfl rfl ?_
          refine wp_callV (idx := 268) (B2 := B9_firstFelt) (As := [.int x2]) (a := h) (st := []) (by decide +kernel) m9_firstFelt ml9_268 k9_firstFelt e9_firstFelt ck9 ok.1 (⟨Nat.le_of_ble_eq_true rfl, Nat.le_of_ble_eq_true rfl⟩ : rOK B9_reach B9_firstFelt) rfl (Nat.le_of_ble_eq_true rfl) (Nat.le_of_ble_eq_true rfl) ⟨Nat.le_of_ble_eq_true rfl, Nat.le_of_ble_eq_true rfl⟩ rfl (wp_mono H (fun v9 M9 hq9 => ?_))
          clear H
          obtain ⟨r13, I11, L12, rfl, rfl, H⟩ := hq9
          show wp X B9_reach 45 [(4, .int r8), (0, .ref h), (1, .int x1), (2, .int x2), (3, .int x3)] [.int r13] (G, I11, L12) 0 0 _
          exact wp_iret (by decide +kernel) rfl (Nat.zero_le _) (Nat.zero_le _) ⟨_, _, _, rfl, rfl, H⟩
        · rw [if_pos c10] at H
          refine wp_iload (i := 4) (x := r8) 0 (by decide +kernel) rfl ?_
          refine wp_goto (off := 8) (tgt := 45) (by decide +kernel) (by decide) ?_
          exact wp_iret (by decide +kernel) rfl (Nat.zero_le _) (Nat.zero_le _) ⟨_, _, _, rfl, rfl, H⟩
    · rw [if_pos c5] at H
      refine wp_iconst (z := -1) (v := (-1)) (by decide +kernel) (by decide) ?_
      exact wp_iret (by decide +kernel) rfl (Nat.zero_le _) (Nat.zero_le _) ⟨_, _, _, rfl, rfl, H⟩
/-! DeafWallModel.play(IIIZ)I -/
set_option maxRecDepth 20000 in
theorem b9_play {X : XX} {G : GG} {I : Nat → Nat → Int32} {L : Nat → Nat → Int64} {h : Nat} {x1 : Int32} {x2 : Int32} {x3 : Int32} {x4 : Int32} {Q : Int32 → (Nat → Nat → Int32) → (Nat → Nat → Int64) → Prop} (ok : OK9 G h) (H : wpI X B9_isWall 0 [(0, .ref h), (1, .int x1)] [] G I L (fun r3 I1 L2 => if r3 = (0 : Int32) then (Q (-1) I1 L2) else (if (v9_isFeeler I1 h x2) = (0 : Int32) then (Q (-1) I1 L2) else (if (v9_isTale I1 h x3) = (0 : Int32) then (Q (-1) I1 L2) else (wpI X B9_play 29 [(0, .ref h), (2, .int x2), (3, .int x3), (4, .int x4), (5, .int 1)] [] G I1 L2 Q))))) : wpI X B9_play 0 [(0, .ref h), (1, .int x1), (2, .int x2), (3, .int x3), (4, .int x4)] [] G I L Q := by
  refine wp_aload_n (z := 0) (i := 0) (r := (some h)) 0 (by decide +kernel) rfl rfl ?_
  refine wp_iload_n (z := 1) (i := 1) (x := x1) 1 (by decide +kernel) rfl rfl ?_
  refine wp_callV (idx := 196) (B2 := B9_isWall) (As := [.int x1]) (a := h) (st := []) (by decide +kernel) m9_isWall ml9_196 k9_isWall e9_isWall ck9 ok.1 (⟨Nat.le_of_ble_eq_true rfl, Nat.le_of_ble_eq_true rfl⟩ : rOK B9_play B9_isWall) rfl (Nat.le_of_ble_eq_true rfl) (Nat.le_of_ble_eq_true rfl) ⟨Nat.le_of_ble_eq_true rfl, Nat.le_of_ble_eq_true rfl⟩ rfl (wp_mono H (fun v9 M9 hq9 => ?_))
  clear H
  obtain ⟨r3, I1, L2, rfl, rfl, H⟩ := hq9
  show wp X B9_play 5 [(0, .ref h), (1, .int x1), (2, .int x2), (3, .int x3), (4, .int x4)] [.int r3] (G, I1, L2) 0 0 _
  refine wp_if_eq (off := 19) (tgt := 24) (by decide +kernel) (by decide) (fun c4 => ?_) (fun c4 => ?_)
  · rw [if_pos c4] at H
    refine wp_iconst (z := -1) (v := (-1)) (by decide +kernel) (by decide) ?_
    exact wp_iret (by decide +kernel) rfl (Nat.zero_le _) (Nat.zero_le _) ⟨_, _, _, rfl, rfl, H⟩
  · rw [if_neg c4] at H
    refine wp_aload_n (z := 0) (i := 0) (r := (some h)) 0 (by decide +kernel) rfl rfl ?_
    refine wp_iload_n (z := 2) (i := 2) (x := x2) 2 (by decide +kernel) rfl rfl ?_
    refine wp_callV (idx := 199) (B2 := B9_isFeeler) (As := [.int x2]) (a := h) (st := []) (by decide +kernel) m9_isFeeler ml9_199 k9_isFeeler e9_isFeeler ck9 ok.1 (⟨Nat.le_of_ble_eq_true rfl, Nat.le_of_ble_eq_true rfl⟩ : rOK B9_play B9_isFeeler) rfl (Nat.le_of_ble_eq_true rfl) (Nat.le_of_ble_eq_true rfl) ⟨Nat.le_of_ble_eq_true rfl, Nat.le_of_ble_eq_true rfl⟩ rfl (wp_mono (b9_isFeeler (Q := (fun r I' L' => r = (v9_isFeeler I1 h x2) ∧ I1 = I' ∧ L2 = L')) ok ⟨rfl, rfl, rfl⟩) (fun v9 M9 hq9 => ?_))
    obtain ⟨_, _, _, rfl, rfl, rfl, rfl, rfl⟩ := hq9
    show wp X B9_play 13 [(0, .ref h), (1, .int x1), (2, .int x2), (3, .int x3), (4, .int x4)] [.int (v9_isFeeler I1 h x2)] (G, I1, L2) 0 0 _
    refine wp_if_eq (off := 11) (tgt := 24) (by decide +kernel) (by decide) (fun c5 => ?_) (fun c5 => ?_)
    · rw [if_pos c5] at H
      refine wp_iconst (z := -1) (v := (-1)) (by decide +kernel) (by decide) ?_
      exact wp_iret (by decide +kernel) rfl (Nat.zero_le _) (Nat.zero_le _) ⟨_, _, _, rfl, rfl, H⟩
    · rw [if_neg c5] at H
      refine wp_aload_n (z := 0) (i := 0) (r := (some h)) 0 (by decide +kernel) rfl rfl ?_
      refine wp_iload_n (z := 3) (i := 3) (x := x3) 3 (by decide +kernel) rfl rfl ?_
      refine wp_callV (idx := 208) (B2 := B9_isTale) (As := [.int x3]) (a := h) (st := []) (by decide +kernel) m9_isTale ml9_208 k9_isTale e9_isTale ck9 ok.1 (⟨Nat.le_of_ble_eq_true rfl, Nat.le_of_ble_eq_true rfl⟩ : rOK B9_play B9_isTale) rfl (Nat.le_of_ble_eq_true rfl) (Nat.le_of_ble_eq_true rfl) ⟨Nat.le_of_ble_eq_true rfl, Nat.le_of_ble_eq_true rfl⟩ rfl (wp_mono (b9_isTale (Q := (fun r I' L' => r = (v9_isTale I1 h x3) ∧ I1 = I' ∧ L2 = L')) ok ⟨rfl, rfl, rfl⟩) (fun v9 M9 hq9 => ?_))
      obtain ⟨_, _, _, rfl, rfl, rfl, rfl, rfl⟩ := hq9
      show wp X B9_play 21 [(0, .ref h), (1, .int x1), (2, .int x2), (3, .int x3), (4, .int x4)] [.int (v9_isTale I1 h x3)] (G, I1, L2) 0 0 _
      refine wp_if_ne (off := 5) (tgt := 26) (by decide +kernel) (by decide) (fun c6 => ?_) (fun c6 => ?_)
      · rw [if_neg c6] at H
        refine wp_iconst (z := 1) (v := 1) (by decide +kernel) (by decide) ?_
        refine wp_istore (i := 5) (lv' := [(5, .int 1), (0, .ref h), (1, .int x1), (2, .int x2), (3, .int x3), (4, .int x4)]) (by decide +kernel) (by decide) rfl ?_
        exact wp_sub [1, 3, 4, 5, 0] rfl H
      · rw [if_pos c6] at H
        refine wp_iconst (z := -1) (v := (-1)) (by decide +kernel) (by decide) ?_
        exact wp_iret (by decide +kernel) rfl (Nat.zero_le _) (Nat.zero_le _) ⟨_, _, _, rfl, rfl, H⟩
set_option maxRecDepth 20000 in
theorem b9_play_29 {X : XX} {G : GG} {I : Nat → Nat → Int32} {L : Nat → Nat → Int64} {h : Nat} {x2 : Int32} {x3 : Int32} {x4 : Int32} {x5 : Int32} {Q : Int32 → (Nat → Nat → Int32) → (Nat → Nat → Int64) → Prop} (ok : OK9 G h) (H : if 9 ≤ x5 then (Q (-1) I L) else (wpI X B9_play 39 [(0, .ref h), (2, .int x2), (3, .int x3), (4, .int x4), (5, .int x5), (6, .int 0)] [] G I L Q)) : wpI X B9_play 29 [(0, .ref h), (2, .int x2), (3, .int x3), (4, .int x4), (5, .int x5)] [] G I L Q := by
  refine wp_iload (i := 5) (x := x5) 4 (by decide +kernel) rfl ?_
  refine wp_bipush (z := 9) (v := 9) (by decide +kernel) (by decide) ?_
  refine wp_icmp_ge (off := 62) (tgt := 95) (by decide +kernel) (by decide) (fun c1 => ?_) (fun c1 => ?_)
  · rw [if_pos c1] at H
    refine wp_iconst (z := -1) (v := (-1)) (by decide +kernel) (by decide) ?_
    exact wp_iret (by decide +kernel) rfl (Nat.zero_le _) (Nat.zero_le _) ⟨_, _, _, rfl, rfl, H⟩
  · rw [if_neg c1] at H
    refine wp_iconst (z := 0) (v := 0) (by decide +kernel) (by decide) ?_
    refine wp_istore (i := 6) (lv' := [(6, .int 0), (0, .ref h), (2, .int x2), (3, .int x3), (4, .int x4), (5, .int x5)]) (by decide +kernel) (by decide) rfl ?_
    exact wp_sub [1, 2, 3, 4, 5, 0] rfl H
set_option maxRecDepth 20000 in
theorem b9_play_39 {X : XX} {G : GG} {I : Nat → Nat → Int32} {L : Nat → Nat → Int64} {h : Nat} {x2 : Int32} {x3 : Int32} {x4 : Int32} {x5 : Int32} {x6 : Int32} {Q : Int32 → (Nat → Nat → Int32) → (Nat → Nat → Int64) → Prop} (ok : OK9 G h) (H : if ((1 : Int32) <<< (x5 &&& 31)) ≤ x6 then (wpI X B9_play 29 [(0, .ref h), (2, .int x2), (3, .int x3), (4, .int x4), (5, .int (x5 + 1))] [] G I L Q) else (wpV X B9_playsTune 0 [(0, .ref h), (1, .int x5), (2, .int x6)] [] G I L (fun I2 L3 => vp_in x2 6 ∧ (if (((I2 (h + 10) (cl x2)) >>> (x3 &&& 31)) &&& 1) = 1 then (if x4 = (0 : Int32) then (Q x5 I2 L3) else (Q x6 I2 L3)) else (wpI X B9_play 39 [(0, .ref h), (2, .int x2), (3, .int x3), (4, .int x4), (5, .int x5), (6, .int (x6 + 1))] [] G I2 L3 Q))))) : wpI X B9_play 39 [(0, .ref h), (2, .int x2), (3, .int x3), (4, .int x4), (5, .int x5), (6, .int x6)] [] G I L Q := by
  refine wp_iload (i := 6) (x := x6) 5 (by decide +kernel) rfl ?_
  refine wp_iconst (z := 1) (v := 1) (by decide +kernel) (by decide) ?_
  refine wp_iload (i := 5) (x := x5) 4 (by decide +kernel) rfl ?_
  refine wp_ishl (by decide +kernel) ?_
  refine wp_icmp_ge (off := 44) (tgt := 89) (by decide +kernel) (by decide) (fun c1 => ?_) (fun c1 => ?_)
  · rw [if_pos c1] at H
    refine wp_iinc (i := 5) (z := 1) (v := 1) (lv' := [(5, .int (x5 + 1)), (0, .ref h), (2, .int x2), (3, .int x3), (4, .int x4), (6, .int x6)]) 4 (by decide +kernel) rfl (by decide) (by decide) rfl ?_
    refine wp_goto (off := -63) (tgt := 29) (by decide +kernel) (by decide) ?_
    exact wp_sub [1, 2, 3, 4, 0] rfl H
  · rw [if_neg c1] at H
    refine wp_aload_n (z := 0) (i := 0) (r := (some h)) 0 (by decide +kernel) rfl rfl ?_
    refine wp_iload (i := 5) (x := x5) 4 (by decide +kernel) rfl ?_
    refine wp_iload (i := 6) (x := x6) 5 (by decide +kernel) rfl ?_
    refine wp_callV (idx := 262) (B2 := B9_playsTune) (As := [.int x5, .int x6]) (a := h) (st := []) (by decide +kernel) m9_playsTune ml9_262 k9_playsTune e9_playsTune ck9 ok.1 (⟨Nat.le_of_ble_eq_true rfl, Nat.le_of_ble_eq_true rfl⟩ : rOK B9_play B9_playsTune) rfl (Nat.le_of_ble_eq_true rfl) (Nat.le_of_ble_eq_true rfl) ⟨Nat.le_of_ble_eq_true rfl, Nat.le_of_ble_eq_true rfl⟩ rfl (wp_mono H (fun v9 M9 hq9 => ?_))
    clear H
    obtain ⟨I2, L3, rfl, rfl, H⟩ := hq9
    show wp X B9_play 56 [(0, .ref h), (2, .int x2), (3, .int x3), (4, .int x4), (5, .int x5), (6, .int x6)] [] (G, I2, L3) 0 0 _
    refine wp_aload_n (z := 0) (i := 0) (r := (some h)) 0 (by decide +kernel) rfl rfl ?_
    refine wp_getS (idx := 38) (q := (h + 10)) (by decide +kernel) fl9_38 rfl ok.1 (okr9_29 ok) ?_
    refine wp_iload_n (z := 2) (i := 2) (x := x2) 1 (by decide +kernel) rfl rfl ?_
    obtain ⟨o7, H⟩ := H
    refine wp_iald (j := (cl x2)) (by decide +kernel) (oks9_29 ok) o7 rfl ?_
    refine wp_iload_n (z := 3) (i := 3) (x := x3) 2 (by decide +kernel) rfl rfl ?_
    refine wp_ishr (by decide +kernel) ?_
    refine wp_iconst (z := 1) (v := 1) (by decide +kernel) (by decide) ?_
    refine wp_iand (by decide +kernel) ?_
    refine wp_iconst (z := 1) (v := 1) (by decide +kernel) (by decide) ?_
    refine wp_icmp_ne (off := 16) (tgt := 83) (by decide +kernel) (by decide) (fun c5 => ?_) (fun c5 => ?_)
    · rw [if_neg c5] at H
      refine wp_iinc (i := 6) (z := 1) (v := 1) (lv' := [(6, .int (x6 + 1)), (0, .ref h), (2, .int x2), (3, .int x3), (4, .int x4), (5, .int x5)]) 5 (by decide +kernel) rfl (by decide) (by decide) rfl ?_
      refine wp_goto (off := -47) (tgt := 39) (by decide +kernel) (by decide) ?_
      exact wp_sub [1, 2, 3, 4, 5, 0] rfl H
    · rw [if_pos c5] at H
      refine wp_iload (i := 4) (x := x4) 3 (by decide +kernel) rfl ?_
      refine wp_if_eq (off := 8) (tgt := 80) (by decide +kernel) (by decide) (fun c6 => ?_) (fun c6 => ?_)
      · rw [if_pos c6] at H
        refine wp_iload (i := 5) (x := x5) 4 (by decide +kernel) rfl ?_
        exact wp_iret (by decide +kernel) rfl (Nat.zero_le _) (Nat.zero_le _) ⟨_, _, _, rfl, rfl, H⟩
      · rw [if_neg c6] at H
        refine wp_iload (i := 6) (x := x6) 5 (by decide +kernel) rfl ?_
        refine wp_goto (off := 5) (tgt := 82) (by decide +kernel) (by decide) ?_
        exact wp_iret (by decide +kernel) rfl (Nat.zero_le _) (Nat.zero_le _) ⟨_, _, _, rfl, rfl, H⟩
/-! DeafWallModel.most(IIZ)I -/
set_option maxRecDepth 20000 in
theorem b9_most {X : XX} {G : GG} {I : Nat → Nat → Int32} {L : Nat → Nat → Int64} {h : Nat} {x1 : Int32} {x2 : Int32} {x3 : Int32} {Q : Int32 → (Nat → Nat → Int32) → (Nat → Nat → Int64) → Prop} (ok : OK9 G h) (H : wpI X B9_isWall 0 [(0, .ref h), (1, .int x1)] [] G I L (fun r3 I1 L2 => if r3 = (0 : Int32) then (Q (-1) I1 L2) else (if (v9_isIn x2 1 8) = (0 : Int32) then (Q (-1) I1 L2) else (wpI X B9_most 29 [(0, .ref h), (2, .int x2), (3, .int x3), (4, .int 0), (5, .int (-1)), (6, .int 0)] [] G I1 L2 Q)))) : wpI X B9_most 0 [(0, .ref h), (1, .int x1), (2, .int x2), (3, .int x3)] [] G I L Q := by
  refine wp_aload_n (z := 0) (i := 0) (r := (some h)) 0 (by decide +kernel) rfl rfl ?_
  refine wp_iload_n (z := 1) (i := 1) (x := x1) 1 (by decide +kernel) rfl rfl ?_
  refine wp_callV (idx := 196) (B2 := B9_isWall) (As := [.int x1]) (a := h) (st := []) (by decide +kernel) m9_isWall ml9_196 k9_isWall e9_isWall ck9 ok.1 (⟨Nat.le_of_ble_eq_true rfl, Nat.le_of_ble_eq_true rfl⟩ : rOK B9_most B9_isWall) rfl (Nat.le_of_ble_eq_true rfl) (Nat.le_of_ble_eq_true rfl) ⟨Nat.le_of_ble_eq_true rfl, Nat.le_of_ble_eq_true rfl⟩ rfl (wp_mono H (fun v9 M9 hq9 => ?_))
  clear H
  obtain ⟨r3, I1, L2, rfl, rfl, H⟩ := hq9
  show wp X B9_most 5 [(0, .ref h), (1, .int x1), (2, .int x2), (3, .int x3)] [.int r3] (G, I1, L2) 0 0 _
  refine wp_if_eq (off := 13) (tgt := 18) (by decide +kernel) (by decide) (fun c4 => ?_) (fun c4 => ?_)
  · rw [if_pos c4] at H
    refine wp_iconst (z := -1) (v := (-1)) (by decide +kernel) (by decide) ?_
    exact wp_iret (by decide +kernel) rfl (Nat.zero_le _) (Nat.zero_le _) ⟨_, _, _, rfl, rfl, H⟩
  · rw [if_neg c4] at H
    refine wp_iload_n (z := 2) (i := 2) (x := x2) 2 (by decide +kernel) rfl rfl ?_
    refine wp_iconst (z := 1) (v := 1) (by decide +kernel) (by decide) ?_
    refine wp_bipush (z := 8) (v := 8) (by decide +kernel) (by decide) ?_
    refine wp_callS (idx := 121) (B2 := B9_isIn) (As := [.int x2, .int 1, .int 8]) (st := []) (by decide +kernel) m9_isIn ml9_121 k9_isIn (⟨Nat.le_of_ble_eq_true rfl, Nat.le_of_ble_eq_true rfl⟩ : rOK B9_most B9_isIn) rfl (Nat.le_of_ble_eq_true rfl) (Nat.le_of_ble_eq_true rfl) ⟨Nat.le_of_ble_eq_true rfl, Nat.le_of_ble_eq_true rfl⟩ rfl (wp_mono (b9_isIn (Q := (fun r I' L' => r = (v9_isIn x2 1 8) ∧ I1 = I' ∧ L2 = L'))  ⟨rfl, rfl, rfl⟩) (fun v9 M9 hq9 => ?_))
    obtain ⟨_, _, _, rfl, rfl, rfl, rfl, rfl⟩ := hq9
    show wp X B9_most 15 [(0, .ref h), (1, .int x1), (2, .int x2), (3, .int x3)] [.int (v9_isIn x2 1 8)] (G, I1, L2) 0 0 _
    refine wp_if_ne (off := 5) (tgt := 20) (by decide +kernel) (by decide) (fun c5 => ?_) (fun c5 => ?_)
    · rw [if_neg c5] at H
      refine wp_iconst (z := 0) (v := 0) (by decide +kernel) (by decide) ?_
      refine wp_istore (i := 4) (lv' := [(4, .int 0), (0, .ref h), (1, .int x1), (2, .int x2), (3, .int x3)]) (by decide +kernel) (by decide) rfl ?_
      refine wp_iconst (z := -1) (v := (-1)) (by decide +kernel) (by decide) ?_
      refine wp_istore (i := 5) (lv' := [(5, .int (-1)), (4, .int 0), (0, .ref h), (1, .int x1), (2, .int x2), (3, .int x3)]) (by decide +kernel) (by decide) rfl ?_
      refine wp_iconst (z := 0) (v := 0) (by decide +kernel) (by decide) ?_
      refine wp_istore (i := 6) (lv' := [(6, .int 0), (5, .int (-1)), (4, .int 0), (0, .ref h), (1, .int x1), (2, .int x2), (3, .int x3)]) (by decide +kernel) (by decide) rfl ?_
      exact wp_sub [3, 5, 6, 2, 1, 0] rfl H
    · rw [if_pos c5] at H
      refine wp_iconst (z := -1) (v := (-1)) (by decide +kernel) (by decide) ?_
      exact wp_iret (by decide +kernel) rfl (Nat.zero_le _) (Nat.zero_le _) ⟨_, _, _, rfl, rfl, H⟩
set_option maxRecDepth 20000 in
theorem b9_most_29 {X : XX} {G : GG} {I : Nat → Nat → Int32} {L : Nat → Nat → Int64} {h : Nat} {x2 : Int32} {x3 : Int32} {x4 : Int32} {x5 : Int32} {x6 : Int32} {Q : Int32 → (Nat → Nat → Int32) → (Nat → Nat → Int64) → Prop} (ok : OK9 G h) (H : if ((1 : Int32) <<< (x2 &&& 31)) ≤ x6 then (if x3 = (0 : Int32) then (Q x5 I L) else (Q x4 I L)) else (wpV X B9_playsTune 0 [(0, .ref h), (1, .int x2), (2, .int x6)] [] G I L (fun I3 L4 => wpI X B9_couplesTold 0 [(0, .ref h)] [] G I3 L4 (fun r8 I6 L7 => if x5 < r8 then (wpI X B9_couplesTold 0 [(0, .ref h)] [] G I6 L7 (fun r12 I10 L11 => wpI X B9_most 29 [(0, .ref h), (2, .int x2), (3, .int x3), (4, .int x6), (5, .int r12), (6, .int (x6 + 1))] [] G I10 L11 Q)) else (wpI X B9_most 29 [(0, .ref h), (2, .int x2), (3, .int x3), (4, .int x4), (5, .int x5), (6, .int (x6 + 1))] [] G I6 L7 Q))))) : wpI X B9_most 29 [(0, .ref h), (2, .int x2), (3, .int x3), (4, .int x4), (5, .int x5), (6, .int x6)] [] G I L Q := by
  refine wp_iload (i := 6) (x := x6) 5 (by decide +kernel) rfl ?_
  refine wp_iconst (z := 1) (v := 1) (by decide +kernel) (by decide) ?_
  refine wp_iload_n (z := 2) (i := 2) (x := x2) 1 (by decide +kernel) rfl rfl ?_
  refine wp_ishl (by decide +kernel) ?_
  refine wp_icmp_ge (off := 38) (tgt := 72) (by decide +kernel) (by decide) (fun c1 => ?_) (fun c1 => ?_)
  · rw [if_pos c1] at H
    refine wp_iload_n (z := 3) (i := 3) (x := x3) 2 (by decide +kernel) rfl rfl ?_
    refine wp_if_eq (off := 8) (tgt := 81) (by decide +kernel) (by decide) (fun c2 => ?_) (fun c2 => ?_)
    · rw [if_pos c2] at H
      refine wp_iload (i := 5) (x := x5) 4 (by decide +kernel) rfl ?_
      exact wp_iret (by decide +kernel) rfl (Nat.zero_le _) (Nat.zero_le _) ⟨_, _, _, rfl, rfl, H⟩
    · rw [if_neg c2] at H
      refine wp_iload (i := 4) (x := x4) 3 (by decide +kernel) rfl ?_
      refine wp_goto (off := 5) (tgt := 83) (by decide +kernel) (by decide) ?_
      exact wp_iret (by decide +kernel) rfl (Nat.zero_le _) (Nat.zero_le _) ⟨_, _, _, rfl, rfl, H⟩
  · rw [if_neg c1] at H
    refine wp_aload_n (z := 0) (i := 0) (r := (some h)) 0 (by decide +kernel) rfl rfl ?_
    refine wp_iload_n (z := 2) (i := 2) (x := x2) 1 (by decide +kernel) rfl rfl ?_
    refine wp_iload (i := 6) (x := x6) 5 (by decide +kernel) rfl ?_
    refine wp_callV (idx := 262) (B2 := B9_playsTune) (As := [.int x2, .int x6]) (a := h) (st := []) (by decide +kernel) m9_playsTune ml9_262 k9_playsTune e9_playsTune ck9 ok.1 (⟨Nat.le_of_ble_eq_true rfl, Nat.le_of_ble_eq_true rfl⟩ : rOK B9_most B9_playsTune) rfl (Nat.le_of_ble_eq_true rfl) (Nat.le_of_ble_eq_true rfl) ⟨Nat.le_of_ble_eq_true rfl, Nat.le_of_ble_eq_true rfl⟩ rfl (wp_mono H (fun v9 M9 hq9 => ?_))
    clear H
    obtain ⟨I3, L4, rfl, rfl, H⟩ := hq9
    show wp X B9_most 44 [(0, .ref h), (2, .int x2), (3, .int x3), (4, .int x4), (5, .int x5), (6, .int x6)] [] (G, I3, L4) 0 0 _
    refine wp_aload_n (z := 0) (i := 0) (r := (some h)) 0 (by decide +kernel) rfl rfl ?_
    refine wp_callV (idx := 274) (B2 := B9_couplesTold) (As := []) (a := h) (st := []) (by decide +kernel) m9_couplesTold ml9_274 k9_couplesTold e9_couplesTold ck9 ok.1 (⟨Nat.le_of_ble_eq_true rfl, Nat.le_of_ble_eq_true rfl⟩ : rOK B9_most B9_couplesTold) rfl (Nat.le_of_ble_eq_true rfl) (Nat.le_of_ble_eq_true rfl) ⟨Nat.le_of_ble_eq_true rfl, Nat.le_of_ble_eq_true rfl⟩ rfl (wp_mono H (fun v9 M9 hq9 => ?_))
    clear H
    obtain ⟨r8, I6, L7, rfl, rfl, H⟩ := hq9
    show wp X B9_most 48 [(0, .ref h), (2, .int x2), (3, .int x3), (4, .int x4), (5, .int x5), (6, .int x6)] [.int r8] (G, I6, L7) 0 0 _
    refine wp_iload (i := 5) (x := x5) 4 (by decide +kernel) rfl ?_
    refine wp_icmp_gt (off := 6) (tgt := 56) (by decide +kernel) (by decide) (fun c9 => ?_) (fun c9 => ?_)
    · rw [if_pos c9] at H
      refine wp_iload (i := 6) (x := x6) 5 (by decide +kernel) rfl ?_
      refine wp_istore (i := 4) (lv' := [(4, .int x6), (0, .ref h), (2, .int x2), (3, .int x3), (5, .int x5), (6, .int x6)]) (by decide +kernel) (by decide) rfl ?_
      refine wp_aload_n (z := 0) (i := 0) (r := (some h)) 1 (by decide +kernel) rfl rfl ?_
      refine wp_callV (idx := 274) (B2 := B9_couplesTold) (As := []) (a := h) (st := []) (by decide +kernel) m9_couplesTold ml9_274 k9_couplesTold e9_couplesTold ck9 ok.1 (⟨Nat.le_of_ble_eq_true rfl, Nat.le_of_ble_eq_true rfl⟩ : rOK B9_most B9_couplesTold) rfl (Nat.le_of_ble_eq_true rfl) (Nat.le_of_ble_eq_true rfl) ⟨Nat.le_of_ble_eq_true rfl, Nat.le_of_ble_eq_true rfl⟩ rfl (wp_mono H (fun v9 M9 hq9 => ?_))
      clear H
      obtain ⟨r12, I10, L11, rfl, rfl, H⟩ := hq9
      show wp X B9_most 64 [(4, .int x6), (0, .ref h), (2, .int x2), (3, .int x3), (5, .int x5), (6, .int x6)] [.int r12] (G, I10, L11) 0 0 _
      refine wp_istore (i := 5) (lv' := [(5, .int r12), (4, .int x6), (0, .ref h), (2, .int x2), (3, .int x3), (6, .int x6)]) (by decide +kernel) (by decide) rfl ?_
      refine wp_iinc (i := 6) (z := 1) (v := 1) (lv' := [(6, .int (x6 + 1)), (5, .int r12), (4, .int x6), (0, .ref h), (2, .int x2), (3, .int x3)]) 5 (by decide +kernel) rfl (by decide) (by decide) rfl ?_
      refine wp_goto (off := -40) (tgt := 29) (by decide +kernel) (by decide) ?_
      exact wp_sub [3, 4, 5, 2, 1, 0] rfl H
    · rw [if_neg c9] at H
      refine wp_goto (off := 13) (tgt := 66) (by decide +kernel) (by decide) ?_
      refine wp_iinc (i := 6) (z := 1) (v := 1) (lv' := [(6, .int (x6 + 1)), (0, .ref h), (2, .int x2), (3, .int x3), (4, .int x4), (5, .int x5)]) 5 (by decide +kernel) rfl (by decide) (by decide) rfl ?_
      refine wp_goto (off := -40) (tgt := 29) (by decide +kernel) (by decide) ?_
      exact wp_sub [1, 2, 3, 4, 5, 0] rfl H
/-! DeafWallModel.feltTogether()I -/
set_option maxRecDepth 20000 in
theorem b9_feltTogether {X : XX} {G : GG} {I : Nat → Nat → Int32} {L : Nat → Nat → Int64} {h : Nat} {Q : Int32 → (Nat → Nat → Int32) → (Nat → Nat → Int64) → Prop} (ok : OK9 G h) (H : wpI X B9_feltTogether 4 [(0, .ref h), (1, .int 0), (2, .int 0)] [] G I L Q) : wpI X B9_feltTogether 0 [(0, .ref h)] [] G I L Q := by
  refine wp_iconst (z := 0) (v := 0) (by decide +kernel) (by decide) ?_
  refine wp_istore_n (z := 1) (i := 1) (lv' := [(1, .int 0), (0, .ref h)]) (by decide +kernel) rfl (by decide) rfl ?_
  refine wp_iconst (z := 0) (v := 0) (by decide +kernel) (by decide) ?_
  refine wp_istore_n (z := 2) (i := 2) (lv' := [(2, .int 0), (1, .int 0), (0, .ref h)]) (by decide +kernel) rfl (by decide) rfl ?_
  exact wp_sub [2, 1, 0] rfl H
set_option maxRecDepth 20000 in
theorem b9_feltTogether_4 {X : XX} {G : GG} {I : Nat → Nat → Int32} {L : Nat → Nat → Int64} {h : Nat} {x1 : Int32} {x2 : Int32} {Q : Int32 → (Nat → Nat → Int32) → (Nat → Nat → Int64) → Prop} (ok : OK9 G h) (H : if (I h 15) ≤ x2 then (Q x1 I L) else (vp_in x2 6 ∧ (∀ u2, u2 = (x1 + (I (h + 9) (cl x2))) → wpI X B9_feltTogether 4 [(0, .ref h), (1, .int u2), (2, .int (x2 + 1))] [] G I L Q))) : wpI X B9_feltTogether 4 [(0, .ref h), (1, .int x1), (2, .int x2)] [] G I L Q := by
  refine wp_iload_n (z := 2) (i := 2) (x := x2) 2 (by decide +kernel) rfl rfl ?_
  refine wp_aload_n (z := 0) (i := 0) (r := (some h)) 0 (by decide +kernel) rfl rfl ?_
  refine wp_getI (idx := 190) (by decide +kernel) fl9_190 rfl ok.1 ?_
  refine wp_icmp_ge (off := 18) (tgt := 27) (by decide +kernel) (by decide) (fun c1 => ?_) (fun c1 => ?_)
  · rw [if_pos c1] at H
    refine wp_iload_n (z := 1) (i := 1) (x := x1) 1 (by decide +kernel) rfl rfl ?_
    exact wp_iret (by decide +kernel) rfl (Nat.zero_le _) (Nat.zero_le _) ⟨_, _, _, rfl, rfl, H⟩
  · rw [if_neg c1] at H
    refine wp_iload_n (z := 1) (i := 1) (x := x1) 1 (by decide +kernel) rfl rfl ?_
    refine wp_aload_n (z := 0) (i := 0) (r := (some h)) 0 (by decide +kernel) rfl rfl ?_
    refine wp_getS (idx := 35) (q := (h + 9)) (by decide +kernel) fl9_35 rfl ok.1 (okr9_28 ok) ?_
    refine wp_iload_n (z := 2) (i := 2) (x := x2) 2 (by decide +kernel) rfl rfl ?_
    obtain ⟨o3, H⟩ := H
    refine wp_iald (j := (cl x2)) (by decide +kernel) (oks9_28 ok) o3 rfl ?_
    refine wp_iadd (by decide +kernel) ?_
    refine wp_topi (fun u2 eu2 => ?_)
    replace H := H u2 eu2
    refine wp_istore_n (z := 1) (i := 1) (lv' := [(1, .int u2), (0, .ref h), (2, .int x2)]) (by decide +kernel) rfl (by decide) rfl ?_
    refine wp_iinc (i := 2) (z := 1) (v := 1) (lv' := [(2, .int (x2 + 1)), (1, .int u2), (0, .ref h)]) 2 (by decide +kernel) rfl (by decide) (by decide) rfl ?_
    refine wp_goto (off := -20) (tgt := 4) (by decide +kernel) (by decide) ?_
    exact wp_sub [2, 1, 0] rfl H
/-! DeafWallModel.loud(IIZ)I -/
set_option maxRecDepth 20000 in
theorem b9_loud {X : XX} {G : GG} {I : Nat → Nat → Int32} {L : Nat → Nat → Int64} {h : Nat} {x1 : Int32} {x2 : Int32} {x3 : Int32} {Q : Int32 → (Nat → Nat → Int32) → (Nat → Nat → Int64) → Prop} (ok : OK9 G h) (H : wpI X B9_isWall 0 [(0, .ref h), (1, .int x1)] [] G I L (fun r3 I1 L2 => if r3 = (0 : Int32) then (Q (-1) I1 L2) else (if (v9_isIn x2 1 8) = (0 : Int32) then (Q (-1) I1 L2) else (wpI X B9_loud 29 [(0, .ref h), (2, .int x2), (3, .int x3), (4, .int 0), (5, .int (-1)), (6, .int 0)] [] G I1 L2 Q)))) : wpI X B9_loud 0 [(0, .ref h), (1, .int x1), (2, .int x2), (3, .int x3)] [] G I L Q := by
  refine wp_aload_n (z := 0) (i := 0) (r := (some h)) 0 (by decide +kernel) rfl rfl ?_
  refine wp_iload_n (z := 1) (i := 1) (x := x1) 1 (by decide +kernel) rfl rfl ?_
  refine wp_callV (idx := 196) (B2 := B9_isWall) (As := [.int x1]) (a := h) (st := []) (by decide +kernel) m9_isWall ml9_196 k9_isWall e9_isWall ck9 ok.1 (⟨Nat.le_of_ble_eq_true rfl, Nat.le_of_ble_eq_true rfl⟩ : rOK B9_loud B9_isWall) rfl (Nat.le_of_ble_eq_true rfl) (Nat.le_of_ble_eq_true rfl) ⟨Nat.le_of_ble_eq_true rfl, Nat.le_of_ble_eq_true rfl⟩ rfl (wp_mono H (fun v9 M9 hq9 => ?_))
  clear H
  obtain ⟨r3, I1, L2, rfl, rfl, H⟩ := hq9
  show wp X B9_loud 5 [(0, .ref h), (1, .int x1), (2, .int x2), (3, .int x3)] [.int r3] (G, I1, L2) 0 0 _
  refine wp_if_eq (off := 13) (tgt := 18) (by decide +kernel) (by decide) (fun c4 => ?_) (fun c4 => ?_)
  · rw [if_pos c4] at H
    refine wp_iconst (z := -1) (v := (-1)) (by decide +kernel) (by decide) ?_
    exact wp_iret (by decide +kernel) rfl (Nat.zero_le _) (Nat.zero_le _) ⟨_, _, _, rfl, rfl, H⟩
  · rw [if_neg c4] at H
    refine wp_iload_n (z := 2) (i := 2) (x := x2) 2 (by decide +kernel) rfl rfl ?_
    refine wp_iconst (z := 1) (v := 1) (by decide +kernel) (by decide) ?_
    refine wp_bipush (z := 8) (v := 8) (by decide +kernel) (by decide) ?_
    refine wp_callS (idx := 121) (B2 := B9_isIn) (As := [.int x2, .int 1, .int 8]) (st := []) (by decide +kernel) m9_isIn ml9_121 k9_isIn (⟨Nat.le_of_ble_eq_true rfl, Nat.le_of_ble_eq_true rfl⟩ : rOK B9_loud B9_isIn) rfl (Nat.le_of_ble_eq_true rfl) (Nat.le_of_ble_eq_true rfl) ⟨Nat.le_of_ble_eq_true rfl, Nat.le_of_ble_eq_true rfl⟩ rfl (wp_mono (b9_isIn (Q := (fun r I' L' => r = (v9_isIn x2 1 8) ∧ I1 = I' ∧ L2 = L'))  ⟨rfl, rfl, rfl⟩) (fun v9 M9 hq9 => ?_))
    obtain ⟨_, _, _, rfl, rfl, rfl, rfl, rfl⟩ := hq9
    show wp X B9_loud 15 [(0, .ref h), (1, .int x1), (2, .int x2), (3, .int x3)] [.int (v9_isIn x2 1 8)] (G, I1, L2) 0 0 _
    refine wp_if_ne (off := 5) (tgt := 20) (by decide +kernel) (by decide) (fun c5 => ?_) (fun c5 => ?_)
    · rw [if_neg c5] at H
      refine wp_iconst (z := 0) (v := 0) (by decide +kernel) (by decide) ?_
      refine wp_istore (i := 4) (lv' := [(4, .int 0), (0, .ref h), (1, .int x1), (2, .int x2), (3, .int x3)]) (by decide +kernel) (by decide) rfl ?_
      refine wp_iconst (z := -1) (v := (-1)) (by decide +kernel) (by decide) ?_
      refine wp_istore (i := 5) (lv' := [(5, .int (-1)), (4, .int 0), (0, .ref h), (1, .int x1), (2, .int x2), (3, .int x3)]) (by decide +kernel) (by decide) rfl ?_
      refine wp_iconst (z := 0) (v := 0) (by decide +kernel) (by decide) ?_
      refine wp_istore (i := 6) (lv' := [(6, .int 0), (5, .int (-1)), (4, .int 0), (0, .ref h), (1, .int x1), (2, .int x2), (3, .int x3)]) (by decide +kernel) (by decide) rfl ?_
      exact wp_sub [3, 5, 6, 2, 1, 0] rfl H
    · rw [if_pos c5] at H
      refine wp_iconst (z := -1) (v := (-1)) (by decide +kernel) (by decide) ?_
      exact wp_iret (by decide +kernel) rfl (Nat.zero_le _) (Nat.zero_le _) ⟨_, _, _, rfl, rfl, H⟩
set_option maxRecDepth 20000 in
theorem b9_loud_29 {X : XX} {G : GG} {I : Nat → Nat → Int32} {L : Nat → Nat → Int64} {h : Nat} {x2 : Int32} {x3 : Int32} {x4 : Int32} {x5 : Int32} {x6 : Int32} {Q : Int32 → (Nat → Nat → Int32) → (Nat → Nat → Int64) → Prop} (ok : OK9 G h) (H : if ((1 : Int32) <<< (x2 &&& 31)) ≤ x6 then (if x3 = (0 : Int32) then (Q x5 I L) else (Q x4 I L)) else (wpV X B9_playsTune 0 [(0, .ref h), (1, .int x2), (2, .int x6)] [] G I L (fun I3 L4 => wpI X B9_feltTogether 0 [(0, .ref h)] [] G I3 L4 (fun r8 I6 L7 => if x5 < r8 then (wpI X B9_feltTogether 0 [(0, .ref h)] [] G I6 L7 (fun r12 I10 L11 => wpI X B9_loud 29 [(0, .ref h), (2, .int x2), (3, .int x3), (4, .int x6), (5, .int r12), (6, .int (x6 + 1))] [] G I10 L11 Q)) else (wpI X B9_loud 29 [(0, .ref h), (2, .int x2), (3, .int x3), (4, .int x4), (5, .int x5), (6, .int (x6 + 1))] [] G I6 L7 Q))))) : wpI X B9_loud 29 [(0, .ref h), (2, .int x2), (3, .int x3), (4, .int x4), (5, .int x5), (6, .int x6)] [] G I L Q := by
  refine wp_iload (i := 6) (x := x6) 5 (by decide +kernel) rfl ?_
  refine wp_iconst (z := 1) (v := 1) (by decide +kernel) (by decide) ?_
  refine wp_iload_n (z := 2) (i := 2) (x := x2) 1 (by decide +kernel) rfl rfl ?_
  refine wp_ishl (by decide +kernel) ?_
  refine wp_icmp_ge (off := 38) (tgt := 72) (by decide +kernel) (by decide) (fun c1 => ?_) (fun c1 => ?_)
  · rw [if_pos c1] at H
    refine wp_iload_n (z := 3) (i := 3) (x := x3) 2 (by decide +kernel) rfl rfl ?_
    refine wp_if_eq (off := 8) (tgt := 81) (by decide +kernel) (by decide) (fun c2 => ?_) (fun c2 => ?_)
    · rw [if_pos c2] at H
      refine wp_iload (i := 5) (x := x5) 4 (by decide +kernel) rfl ?_
      exact wp_iret (by decide +kernel) rfl (Nat.zero_le _) (Nat.zero_le _) ⟨_, _, _, rfl, rfl, H⟩
    · rw [if_neg c2] at H
      refine wp_iload (i := 4) (x := x4) 3 (by decide +kernel) rfl ?_
      refine wp_goto (off := 5) (tgt := 83) (by decide +kernel) (by decide) ?_
      exact wp_iret (by decide +kernel) rfl (Nat.zero_le _) (Nat.zero_le _) ⟨_, _, _, rfl, rfl, H⟩
  · rw [if_neg c1] at H
    refine wp_aload_n (z := 0) (i := 0) (r := (some h)) 0 (by decide +kernel) rfl rfl ?_
    refine wp_iload_n (z := 2) (i := 2) (x := x2) 1 (by decide +kernel) rfl rfl ?_
    refine wp_iload (i := 6) (x := x6) 5 (by decide +kernel) rfl ?_
    refine wp_callV (idx := 262) (B2 := B9_playsTune) (As := [.int x2, .int x6]) (a := h) (st := []) (by decide +kernel) m9_playsTune ml9_262 k9_playsTune e9_playsTune ck9 ok.1 (⟨Nat.le_of_ble_eq_true rfl, Nat.le_of_ble_eq_true rfl⟩ : rOK B9_loud B9_playsTune) rfl (Nat.le_of_ble_eq_true rfl) (Nat.le_of_ble_eq_true rfl) ⟨Nat.le_of_ble_eq_true rfl, Nat.le_of_ble_eq_true rfl⟩ rfl (wp_mono H (fun v9 M9 hq9 => ?_))
    clear H
    obtain ⟨I3, L4, rfl, rfl, H⟩ := hq9
    show wp X B9_loud 44 [(0, .ref h), (2, .int x2), (3, .int x3), (4, .int x4), (5, .int x5), (6, .int x6)] [] (G, I3, L4) 0 0 _
    refine wp_aload_n (z := 0) (i := 0) (r := (some h)) 0 (by decide +kernel) rfl rfl ?_
    refine wp_callV (idx := 277) (B2 := B9_feltTogether) (As := []) (a := h) (st := []) (by decide +kernel) m9_feltTogether ml9_277 k9_feltTogether e9_feltTogether ck9 ok.1 (⟨Nat.le_of_ble_eq_true rfl, Nat.le_of_ble_eq_true rfl⟩ : rOK B9_loud B9_feltTogether) rfl (Nat.le_of_ble_eq_true rfl) (Nat.le_of_ble_eq_true rfl) ⟨Nat.le_of_ble_eq_true rfl, Nat.le_of_ble_eq_true rfl⟩ rfl (wp_mono H (fun v9 M9 hq9 => ?_))
    clear H
    obtain ⟨r8, I6, L7, rfl, rfl, H⟩ := hq9
    show wp X B9_loud 48 [(0, .ref h), (2, .int x2), (3, .int x3), (4, .int x4), (5, .int x5), (6, .int x6)] [.int r8] (G, I6, L7) 0 0 _
    refine wp_iload (i := 5) (x := x5) 4 (by decide +kernel) rfl ?_
    refine wp_icmp_gt (off := 6) (tgt := 56) (by decide +kernel) (by decide) (fun c9 => ?_) (fun c9 => ?_)
    · rw [if_pos c9] at H
      refine wp_iload (i := 6) (x := x6) 5 (by decide +kernel) rfl ?_
      refine wp_istore (i := 4) (lv' := [(4, .int x6), (0, .ref h), (2, .int x2), (3, .int x3), (5, .int x5), (6, .int x6)]) (by decide +kernel) (by decide) rfl ?_
      refine wp_aload_n (z := 0) (i := 0) (r := (some h)) 1 (by decide +kernel) rfl rfl ?_
      refine wp_callV (idx := 277) (B2 := B9_feltTogether) (As := []) (a := h) (st := []) (by decide +kernel) m9_feltTogether ml9_277 k9_feltTogether e9_feltTogether ck9 ok.1 (⟨Nat.le_of_ble_eq_true rfl, Nat.le_of_ble_eq_true rfl⟩ : rOK B9_loud B9_feltTogether) rfl (Nat.le_of_ble_eq_true rfl) (Nat.le_of_ble_eq_true rfl) ⟨Nat.le_of_ble_eq_true rfl, Nat.le_of_ble_eq_true rfl⟩ rfl (wp_mono H (fun v9 M9 hq9 => ?_))
      clear H
      obtain ⟨r12, I10, L11, rfl, rfl, H⟩ := hq9
      show wp X B9_loud 64 [(4, .int x6), (0, .ref h), (2, .int x2), (3, .int x3), (5, .int x5), (6, .int x6)] [.int r12] (G, I10, L11) 0 0 _
      refine wp_istore (i := 5) (lv' := [(5, .int r12), (4, .int x6), (0, .ref h), (2, .int x2), (3, .int x3), (6, .int x6)]) (by decide +kernel) (by decide) rfl ?_
      refine wp_iinc (i := 6) (z := 1) (v := 1) (lv' := [(6, .int (x6 + 1)), (5, .int r12), (4, .int x6), (0, .ref h), (2, .int x2), (3, .int x3)]) 5 (by decide +kernel) rfl (by decide) (by decide) rfl ?_
      refine wp_goto (off := -40) (tgt := 29) (by decide +kernel) (by decide) ?_
      exact wp_sub [3, 4, 5, 2, 1, 0] rfl H
    · rw [if_neg c9] at H
      refine wp_goto (off := 13) (tgt := 66) (by decide +kernel) (by decide) ?_
      refine wp_iinc (i := 6) (z := 1) (v := 1) (lv' := [(6, .int (x6 + 1)), (0, .ref h), (2, .int x2), (3, .int x3), (4, .int x4), (5, .int x5)]) 5 (by decide +kernel) rfl (by decide) (by decide) rfl ?_
      refine wp_goto (off := -40) (tgt := 29) (by decide +kernel) (by decide) ?_
      exact wp_sub [1, 2, 3, 4, 5, 0] rfl H
/-! DeafWallModel.apart(IIII)I -/
set_option maxRecDepth 20000 in
theorem b9_apart {X : XX} {G : GG} {I : Nat → Nat → Int32} {L : Nat → Nat → Int64} {h : Nat} {x1 : Int32} {x2 : Int32} {x3 : Int32} {x4 : Int32} {Q : Int32 → (Nat → Nat → Int32) → (Nat → Nat → Int64) → Prop} (ok : OK9 G h) (H : wpI X B9_isWall 0 [(0, .ref h), (1, .int x1)] [] G I L (fun r3 I1 L2 => if r3 = (0 : Int32) then (Q (-1) I1 L2) else (if (v9_isFeeler I1 h x2) = (0 : Int32) then (Q (-1) I1 L2) else (if (v9_isFeeler I1 h x3) = (0 : Int32) then (Q (-1) I1 L2) else (if x2 = x3 then (Q (-1) I1 L2) else (if (v9_isIn x4 1 8) = (0 : Int32) then (Q (-1) I1 L2) else (wpI X B9_apart 48 [(0, .ref h), (2, .int x2), (3, .int x3), (4, .int x4), (5, .int 0), (6, .int 0)] [] G I1 L2 Q))))))) : wpI X B9_apart 0 [(0, .ref h), (1, .int x1), (2, .int x2), (3, .int x3), (4, .int x4)] [] G I L Q := by
  refine wp_aload_n (z := 0) (i := 0) (r := (some h)) 0 (by decide +kernel) rfl rfl ?_
  refine wp_iload_n (z := 1) (i := 1) (x := x1) 1 (by decide +kernel) rfl rfl ?_
  refine wp_callV (idx := 196) (B2 := B9_isWall) (As := [.int x1]) (a := h) (st := []) (by decide +kernel) m9_isWall ml9_196 k9_isWall e9_isWall ck9 ok.1 (⟨Nat.le_of_ble_eq_true rfl, Nat.le_of_ble_eq_true rfl⟩ : rOK B9_apart B9_isWall) rfl (Nat.le_of_ble_eq_true rfl) (Nat.le_of_ble_eq_true rfl) ⟨Nat.le_of_ble_eq_true rfl, Nat.le_of_ble_eq_true rfl⟩ rfl (wp_mono H (fun v9 M9 hq9 => ?_))
  clear H
  obtain ⟨r3, I1, L2, rfl, rfl, H⟩ := hq9
  show wp X B9_apart 5 [(0, .ref h), (1, .int x1), (2, .int x2), (3, .int x3), (4, .int x4)] [.int r3] (G, I1, L2) 0 0 _
  refine wp_if_eq (off := 35) (tgt := 40) (by decide +kernel) (by decide) (fun c4 => ?_) (fun c4 => ?_)
  · rw [if_pos c4] at H
    refine wp_iconst (z := -1) (v := (-1)) (by decide +kernel) (by decide) ?_
    exact wp_iret (by decide +kernel) rfl (Nat.zero_le _) (Nat.zero_le _) ⟨_, _, _, rfl, rfl, H⟩
  · rw [if_neg c4] at H
    refine wp_aload_n (z := 0) (i := 0) (r := (some h)) 0 (by decide +kernel) rfl rfl ?_
    refine wp_iload_n (z := 2) (i := 2) (x := x2) 2 (by decide +kernel) rfl rfl ?_
    refine wp_callV (idx := 199) (B2 := B9_isFeeler) (As := [.int x2]) (a := h) (st := []) (by decide +kernel) m9_isFeeler ml9_199 k9_isFeeler e9_isFeeler ck9 ok.1 (⟨Nat.le_of_ble_eq_true rfl, Nat.le_of_ble_eq_true rfl⟩ : rOK B9_apart B9_isFeeler) rfl (Nat.le_of_ble_eq_true rfl) (Nat.le_of_ble_eq_true rfl) ⟨Nat.le_of_ble_eq_true rfl, Nat.le_of_ble_eq_true rfl⟩ rfl (wp_mono (b9_isFeeler (Q := (fun r I' L' => r = (v9_isFeeler I1 h x2) ∧ I1 = I' ∧ L2 = L')) ok ⟨rfl, rfl, rfl⟩) (fun v9 M9 hq9 => ?_))
    obtain ⟨_, _, _, rfl, rfl, rfl, rfl, rfl⟩ := hq9
    show wp X B9_apart 13 [(0, .ref h), (1, .int x1), (2, .int x2), (3, .int x3), (4, .int x4)] [.int (v9_isFeeler I1 h x2)] (G, I1, L2) 0 0 _
    refine wp_if_eq (off := 27) (tgt := 40) (by decide +kernel) (by decide) (fun c5 => ?_) (fun c5 => ?_)
    · rw [if_pos c5] at H
      refine wp_iconst (z := -1) (v := (-1)) (by decide +kernel) (by decide) ?_
      exact wp_iret (by decide +kernel) rfl (Nat.zero_le _) (Nat.zero_le _) ⟨_, _, _, rfl, rfl, H⟩
    · rw [if_neg c5] at H
      refine wp_aload_n (z := 0) (i := 0) (r := (some h)) 0 (by decide +kernel) rfl rfl ?_
      refine wp_iload_n (z := 3) (i := 3) (x := x3) 3 (by decide +kernel) rfl rfl ?_
      refine wp_callV (idx := 199) (B2 := B9_isFeeler) (As := [.int x3]) (a := h) (st := []) (by decide +kernel) m9_isFeeler ml9_199 k9_isFeeler e9_isFeeler ck9 ok.1 (⟨Nat.le_of_ble_eq_true rfl, Nat.le_of_ble_eq_true rfl⟩ : rOK B9_apart B9_isFeeler) rfl (Nat.le_of_ble_eq_true rfl) (Nat.le_of_ble_eq_true rfl) ⟨Nat.le_of_ble_eq_true rfl, Nat.le_of_ble_eq_true rfl⟩ rfl (wp_mono (b9_isFeeler (Q := (fun r I' L' => r = (v9_isFeeler I1 h x3) ∧ I1 = I' ∧ L2 = L')) ok ⟨rfl, rfl, rfl⟩) (fun v9 M9 hq9 => ?_))
      obtain ⟨_, _, _, rfl, rfl, rfl, rfl, rfl⟩ := hq9
      show wp X B9_apart 21 [(0, .ref h), (1, .int x1), (2, .int x2), (3, .int x3), (4, .int x4)] [.int (v9_isFeeler I1 h x3)] (G, I1, L2) 0 0 _
      refine wp_if_eq (off := 19) (tgt := 40) (by decide +kernel) (by decide) (fun c6 => ?_) (fun c6 => ?_)
      · rw [if_pos c6] at H
        refine wp_iconst (z := -1) (v := (-1)) (by decide +kernel) (by decide) ?_
        exact wp_iret (by decide +kernel) rfl (Nat.zero_le _) (Nat.zero_le _) ⟨_, _, _, rfl, rfl, H⟩
      · rw [if_neg c6] at H
        refine wp_iload_n (z := 2) (i := 2) (x := x2) 2 (by decide +kernel) rfl rfl ?_
        refine wp_iload_n (z := 3) (i := 3) (x := x3) 3 (by decide +kernel) rfl rfl ?_
        refine wp_icmp_eq (off := 14) (tgt := 40) (by decide +kernel) (by decide) (fun c7 => ?_) (fun c7 => ?_)
        · rw [if_pos c7] at H
          refine wp_iconst (z := -1) (v := (-1)) (by decide +kernel) (by decide) ?_
          exact wp_iret (by decide +kernel) rfl (Nat.zero_le _) (Nat.zero_le _) ⟨_, _, _, rfl, rfl, H⟩
        · rw [if_neg c7] at H
          refine wp_iload (i := 4) (x := x4) 4 (by decide +kernel) rfl ?_
          refine wp_iconst (z := 1) (v := 1) (by decide +kernel) (by decide) ?_
          refine wp_bipush (z := 8) (v := 8) (by decide +kernel) (by decide) ?_
          refine wp_callS (idx := 121) (B2 := B9_isIn) (As := [.int x4, .int 1, .int 8]) (st := []) (by decide +kernel) m9_isIn ml9_121 k9_isIn (⟨Nat.le_of_ble_eq_true rfl, Nat.le_of_ble_eq_true rfl⟩ : rOK B9_apart B9_isIn) rfl (Nat.le_of_ble_eq_true rfl) (Nat.le_of_ble_eq_true rfl) ⟨Nat.le_of_ble_eq_true rfl, Nat.le_of_ble_eq_true rfl⟩ rfl (wp_mono (b9_isIn (Q := (fun r I' L' => r = (v9_isIn x4 1 8) ∧ I1 = I' ∧ L2 = L'))  ⟨rfl, rfl, rfl⟩) (fun v9 M9 hq9 => ?_))
          obtain ⟨_, _, _, rfl, rfl, rfl, rfl, rfl⟩ := hq9
          show wp X B9_apart 37 [(0, .ref h), (1, .int x1), (2, .int x2), (3, .int x3), (4, .int x4)] [.int (v9_isIn x4 1 8)] (G, I1, L2) 0 0 _
          refine wp_if_ne (off := 5) (tgt := 42) (by decide +kernel) (by decide) (fun c8 => ?_) (fun c8 => ?_)
          · rw [if_neg c8] at H
            refine wp_iconst (z := 0) (v := 0) (by decide +kernel) (by decide) ?_
            refine wp_istore (i := 5) (lv' := [(5, .int 0), (0, .ref h), (1, .int x1), (2, .int x2), (3, .int x3), (4, .int x4)]) (by decide +kernel) (by decide) rfl ?_
            refine wp_iconst (z := 0) (v := 0) (by decide +kernel) (by decide) ?_
            refine wp_istore (i := 6) (lv' := [(6, .int 0), (5, .int 0), (0, .ref h), (1, .int x1), (2, .int x2), (3, .int x3), (4, .int x4)]) (by decide +kernel) (by decide) rfl ?_
            exact wp_sub [2, 4, 5, 6, 1, 0] rfl H
          · rw [if_pos c8] at H
            refine wp_iconst (z := -1) (v := (-1)) (by decide +kernel) (by decide) ?_
            exact wp_iret (by decide +kernel) rfl (Nat.zero_le _) (Nat.zero_le _) ⟨_, _, _, rfl, rfl, H⟩
set_option maxRecDepth 20000 in
theorem b9_apart_48 {X : XX} {G : GG} {I : Nat → Nat → Int32} {L : Nat → Nat → Int64} {h : Nat} {x2 : Int32} {x3 : Int32} {x4 : Int32} {x5 : Int32} {x6 : Int32} {Q : Int32 → (Nat → Nat → Int32) → (Nat → Nat → Int64) → Prop} (ok : OK9 G h) (H : if ((1 : Int32) <<< (x4 &&& 31)) ≤ x6 then (Q x5 I L) else (wpV X B9_playsTune 0 [(0, .ref h), (1, .int x4), (2, .int x6)] [] G I L (fun I2 L3 => wpI X B9_apart 71 [(0, .ref h), (2, .int x2), (3, .int x3), (4, .int x4), (5, .int x5), (6, .int x6), (7, .int 1), (8, .int 0)] [] G I2 L3 Q))) : wpI X B9_apart 48 [(0, .ref h), (2, .int x2), (3, .int x3), (4, .int x4), (5, .int x5), (6, .int x6)] [] G I L Q := by
  refine wp_iload (i := 6) (x := x6) 5 (by decide +kernel) rfl ?_
  refine wp_iconst (z := 1) (v := 1) (by decide +kernel) (by decide) ?_
  refine wp_iload (i := 4) (x := x4) 3 (by decide +kernel) rfl ?_
  refine wp_ishl (by decide +kernel) ?_
  refine wp_icmp_ge (off := 88) (tgt := 142) (by decide +kernel) (by decide) (fun c1 => ?_) (fun c1 => ?_)
  · rw [if_pos c1] at H
    refine wp_iload (i := 5) (x := x5) 4 (by decide +kernel) rfl ?_
    exact wp_iret (by decide +kernel) rfl (Nat.zero_le _) (Nat.zero_le _) ⟨_, _, _, rfl, rfl, H⟩
  · rw [if_neg c1] at H
    refine wp_aload_n (z := 0) (i := 0) (r := (some h)) 0 (by decide +kernel) rfl rfl ?_
    refine wp_iload (i := 4) (x := x4) 3 (by decide +kernel) rfl ?_
    refine wp_iload (i := 6) (x := x6) 5 (by decide +kernel) rfl ?_
    refine wp_callV (idx := 262) (B2 := B9_playsTune) (As := [.int x4, .int x6]) (a := h) (st := []) (by decide +kernel) m9_playsTune ml9_262 k9_playsTune e9_playsTune ck9 ok.1 (⟨Nat.le_of_ble_eq_true rfl, Nat.le_of_ble_eq_true rfl⟩ : rOK B9_apart B9_playsTune) rfl (Nat.le_of_ble_eq_true rfl) (Nat.le_of_ble_eq_true rfl) ⟨Nat.le_of_ble_eq_true rfl, Nat.le_of_ble_eq_true rfl⟩ rfl (wp_mono H (fun v9 M9 hq9 => ?_))
    clear H
    obtain ⟨I2, L3, rfl, rfl, H⟩ := hq9
    show wp X B9_apart 65 [(0, .ref h), (2, .int x2), (3, .int x3), (4, .int x4), (5, .int x5), (6, .int x6)] [] (G, I2, L3) 0 0 _
    refine wp_iconst (z := 1) (v := 1) (by decide +kernel) (by decide) ?_
    refine wp_istore (i := 7) (lv' := [(7, .int 1), (0, .ref h), (2, .int x2), (3, .int x3), (4, .int x4), (5, .int x5), (6, .int x6)]) (by decide +kernel) (by decide) rfl ?_
    refine wp_iconst (z := 0) (v := 0) (by decide +kernel) (by decide) ?_
    refine wp_istore (i := 8) (lv' := [(8, .int 0), (7, .int 1), (0, .ref h), (2, .int x2), (3, .int x3), (4, .int x4), (5, .int x5), (6, .int x6)]) (by decide +kernel) (by decide) rfl ?_
    exact wp_sub [2, 3, 4, 5, 6, 7, 1, 0] rfl H
set_option maxRecDepth 20000 in
theorem b9_apart_71 {X : XX} {G : GG} {I : Nat → Nat → Int32} {L : Nat → Nat → Int64} {h : Nat} {x2 : Int32} {x3 : Int32} {x4 : Int32} {x5 : Int32} {x6 : Int32} {x7 : Int32} {x8 : Int32} {Q : Int32 → (Nat → Nat → Int32) → (Nat → Nat → Int64) → Prop} (ok : OK9 G h) (H : if 20 ≤ x8 then (if x7 = (0 : Int32) then (wpI X B9_apart 48 [(0, .ref h), (2, .int x2), (3, .int x3), (4, .int x4), (5, .int (x5 + 1)), (6, .int (x6 + 1))] [] G I L Q) else (wpI X B9_apart 48 [(0, .ref h), (2, .int x2), (3, .int x3), (4, .int x4), (5, .int (x5 + 0)), (6, .int (x6 + 1))] [] G I L Q)) else (if x7 = (0 : Int32) then (wpI X B9_apart 71 [(0, .ref h), (2, .int x2), (3, .int x3), (4, .int x4), (5, .int x5), (6, .int x6), (7, .int 0), (8, .int (x8 + 1))] [] G I L Q) else (vp_in x8 64 ∧ (vp_in x8 64 ∧ (if (((I (h + 11) (cl x8)) >>> (x2 &&& 31)) &&& 1) = (((I (h + 11) (cl x8)) >>> (x3 &&& 31)) &&& 1) then (wpI X B9_apart 71 [(0, .ref h), (2, .int x2), (3, .int x3), (4, .int x4), (5, .int x5), (6, .int x6), (7, .int 1), (8, .int (x8 + 1))] [] G I L Q) else (wpI X B9_apart 71 [(0, .ref h), (2, .int x2), (3, .int x3), (4, .int x4), (5, .int x5), (6, .int x6), (7, .int 0), (8, .int (x8 + 1))] [] G I L Q)))))) : wpI X B9_apart 71 [(0, .ref h), (2, .int x2), (3, .int x3), (4, .int x4), (5, .int x5), (6, .int x6), (7, .int x7), (8, .int x8)] [] G I L Q := by
  refine wp_iload (i := 8) (x := x8) 7 (by decide +kernel) rfl ?_
  refine wp_bipush (z := 20) (v := 20) (by decide +kernel) (by decide) ?_
  refine wp_icmp_ge (off := 46) (tgt := 121) (by decide +kernel) (by decide) (fun c1 => ?_) (fun c1 => ?_)
  · rw [if_pos c1] at H
    refine wp_iload (i := 5) (x := x5) 4 (by decide +kernel) rfl ?_
    refine wp_iload (i := 7) (x := x7) 6 (by decide +kernel) rfl ?_
    refine wp_if_eq (off := 7) (tgt := 132) (by decide +kernel) (by decide) (fun c2 => ?_) (fun c2 => ?_)
    · rw [if_pos c2] at H
      refine wp_iconst (z := 1) (v := 1) (by decide +kernel) (by decide) ?_
      refine wp_iadd (by decide +kernel) ?_
      refine wp_istore (i := 5) (lv' := [(5, .int (x5 + 1)), (0, .ref h), (2, .int x2), (3, .int x3), (4, .int x4), (6, .int x6), (7, .int x7), (8, .int x8)]) (by decide +kernel) (by decide) rfl ?_
      refine wp_iinc (i := 6) (z := 1) (v := 1) (lv' := [(6, .int (x6 + 1)), (5, .int (x5 + 1)), (0, .ref h), (2, .int x2), (3, .int x3), (4, .int x4), (7, .int x7), (8, .int x8)]) 5 (by decide +kernel) rfl (by decide) (by decide) rfl ?_
      refine wp_goto (off := -91) (tgt := 48) (by decide +kernel) (by decide) ?_
      exact wp_sub [2, 3, 4, 5, 1, 0] rfl H
    · rw [if_neg c2] at H
      refine wp_iconst (z := 0) (v := 0) (by decide +kernel) (by decide) ?_
      refine wp_goto (off := 4) (tgt := 133) (by decide +kernel) (by decide) ?_
      refine wp_iadd (by decide +kernel) ?_
      refine wp_istore (i := 5) (lv' := [(5, .int (x5 + 0)), (0, .ref h), (2, .int x2), (3, .int x3), (4, .int x4), (6, .int x6), (7, .int x7), (8, .int x8)]) (by decide +kernel) (by decide) rfl ?_
      refine wp_iinc (i := 6) (z := 1) (v := 1) (lv' := [(6, .int (x6 + 1)), (5, .int (x5 + 0)), (0, .ref h), (2, .int x2), (3, .int x3), (4, .int x4), (7, .int x7), (8, .int x8)]) 5 (by decide +kernel) rfl (by decide) (by decide) rfl ?_
      refine wp_goto (off := -91) (tgt := 48) (by decide +kernel) (by decide) ?_
      exact wp_sub [2, 3, 4, 5, 1, 0] rfl H
  · rw [if_neg c1] at H
    refine wp_iload (i := 7) (x := x7) 6 (by decide +kernel) rfl ?_
    refine wp_if_eq (off := 32) (tgt := 112) (by decide +kernel) (by decide) (fun c3 => ?_) (fun c3 => ?_)
    · rw [if_pos c3] at H
      refine wp_iconst (z := 0) (v := 0) (by decide +kernel) (by decide) ?_
      refine wp_istore (i := 7) (lv' := [(7, .int 0), (0, .ref h), (2, .int x2), (3, .int x3), (4, .int x4), (5, .int x5), (6, .int x6), (8, .int x8)]) (by decide +kernel) (by decide) rfl ?_
      refine wp_iinc (i := 8) (z := 1) (v := 1) (lv' := [(8, .int (x8 + 1)), (7, .int 0), (0, .ref h), (2, .int x2), (3, .int x3), (4, .int x4), (5, .int x5), (6, .int x6)]) 7 (by decide +kernel) rfl (by decide) (by decide) rfl ?_
      refine wp_goto (off := -47) (tgt := 71) (by decide +kernel) (by decide) ?_
      exact wp_sub [2, 3, 4, 5, 6, 7, 1, 0] rfl H
    · rw [if_neg c3] at H
      refine wp_aload_n (z := 0) (i := 0) (r := (some h)) 0 (by decide +kernel) rfl rfl ?_
      refine wp_getS (idx := 41) (q := (h + 11)) (by decide +kernel) fl9_41 rfl ok.1 (okr9_30 ok) ?_
      refine wp_iload (i := 8) (x := x8) 7 (by decide +kernel) rfl ?_
      obtain ⟨o6, H⟩ := H
      refine wp_iald (j := (cl x8)) (by decide +kernel) (oks9_30 ok) o6 rfl ?_
      refine wp_iload_n (z := 2) (i := 2) (x := x2) 1 (by decide +kernel) rfl rfl ?_
      refine wp_ishr (by decide +kernel) ?_
      refine wp_iconst (z := 1) (v := 1) (by decide +kernel) (by decide) ?_
      refine wp_iand (by decide +kernel) ?_
      refine wp_aload_n (z := 0) (i := 0) (r := (some h)) 0 (by decide +kernel) rfl rfl ?_
      refine wp_getS (idx := 41) (q := (h + 11)) (by decide +kernel) fl9_41 rfl ok.1 (okr9_30 ok) ?_
      refine wp_iload (i := 8) (x := x8) 7 (by decide +kernel) rfl ?_
      obtain ⟨o5, H⟩ := H
      refine wp_iald (j := (cl x8)) (by decide +kernel) (oks9_30 ok) o5 rfl ?_
      refine wp_iload_n (z := 3) (i := 3) (x := x3) 2 (by decide +kernel) rfl rfl ?_
      refine wp_ishr (by decide +kernel) ?_
      refine wp_iconst (z := 1) (v := 1) (by decide +kernel) (by decide) ?_
      refine wp_iand (by decide +kernel) ?_
      refine wp_icmp_ne (off := 7) (tgt := 112) (by decide +kernel) (by decide) (fun c4 => ?_) (fun c4 => ?_)
      · rw [if_neg c4] at H
        refine wp_iconst (z := 0) (v := 0) (by decide +kernel) (by decide) ?_
        refine wp_istore (i := 7) (lv' := [(7, .int 0), (0, .ref h), (2, .int x2), (3, .int x3), (4, .int x4), (5, .int x5), (6, .int x6), (8, .int x8)]) (by decide +kernel) (by decide) rfl ?_
        refine wp_iinc (i := 8) (z := 1) (v := 1) (lv' := [(8, .int (x8 + 1)), (7, .int 0), (0, .ref h), (2, .int x2), (3, .int x3), (4, .int x4), (5, .int x5), (6, .int x6)]) 7 (by decide +kernel) rfl (by decide) (by decide) rfl ?_
        refine wp_goto (off := -47) (tgt := 71) (by decide +kernel) (by decide) ?_
        exact wp_sub [2, 3, 4, 5, 6, 7, 1, 0] rfl H
      · rw [if_pos c4] at H
        refine wp_iconst (z := 1) (v := 1) (by decide +kernel) (by decide) ?_
        refine wp_goto (off := 4) (tgt := 113) (by decide +kernel) (by decide) ?_
        refine wp_istore (i := 7) (lv' := [(7, .int 1), (0, .ref h), (2, .int x2), (3, .int x3), (4, .int x4), (5, .int x5), (6, .int x6), (8, .int x8)]) (by decide +kernel) (by decide) rfl ?_
        refine wp_iinc (i := 8) (z := 1) (v := 1) (lv' := [(8, .int (x8 + 1)), (7, .int 1), (0, .ref h), (2, .int x2), (3, .int x3), (4, .int x4), (5, .int x5), (6, .int x6)]) 7 (by decide +kernel) rfl (by decide) (by decide) rfl ?_
        refine wp_goto (off := -47) (tgt := 71) (by decide +kernel) (by decide) ?_
        exact wp_sub [2, 3, 4, 5, 6, 7, 1, 0] rfl H
/-! DeafWallModel.hold(IIII)I -/
set_option maxRecDepth 20000 in
theorem b9_hold {X : XX} {G : GG} {I : Nat → Nat → Int32} {L : Nat → Nat → Int64} {h : Nat} {x1 : Int32} {x2 : Int32} {x3 : Int32} {x4 : Int32} {Q : Int32 → (Nat → Nat → Int32) → (Nat → Nat → Int64) → Prop} (ok : OK9 G h) (H : wpI X B9_isWall 0 [(0, .ref h), (1, .int x1)] [] G I L (fun r3 I1 L2 => if r3 = (0 : Int32) then (Q (-2) I1 L2) else (if (v9_isFeeler I1 h x2) = (0 : Int32) then (Q (-2) I1 L2) else (if (v9_isIn x3 0 9) = (0 : Int32) then (Q (-2) I1 L2) else (if (v9_isIn x4 0 2) = (0 : Int32) then (Q (-2) I1 L2) else (wpV X B9_begins 0 [(0, .ref h)] [] G I1 L2 (fun I8 L9 => wpI X B9_hold 43 [(0, .ref h), (2, .int x2), (3, .int x3), (4, .int x4)] [] G I8 L9 Q))))))) : wpI X B9_hold 0 [(0, .ref h), (1, .int x1), (2, .int x2), (3, .int x3), (4, .int x4)] [] G I L Q := by
  refine wp_aload_n (z := 0) (i := 0) (r := (some h)) 0 (by decide +kernel) rfl rfl ?_
  refine wp_iload_n (z := 1) (i := 1) (x := x1) 1 (by decide +kernel) rfl rfl ?_
  refine wp_callV (idx := 196) (B2 := B9_isWall) (As := [.int x1]) (a := h) (st := []) (by decide +kernel) m9_isWall ml9_196 k9_isWall e9_isWall ck9 ok.1 (⟨Nat.le_of_ble_eq_true rfl, Nat.le_of_ble_eq_true rfl⟩ : rOK B9_hold B9_isWall) rfl (Nat.le_of_ble_eq_true rfl) (Nat.le_of_ble_eq_true rfl) ⟨Nat.le_of_ble_eq_true rfl, Nat.le_of_ble_eq_true rfl⟩ rfl (wp_mono H (fun v9 M9 hq9 => ?_))
  clear H
  obtain ⟨r3, I1, L2, rfl, rfl, H⟩ := hq9
  show wp X B9_hold 5 [(0, .ref h), (1, .int x1), (2, .int x2), (3, .int x3), (4, .int x4)] [.int r3] (G, I1, L2) 0 0 _
  refine wp_if_eq (off := 31) (tgt := 36) (by decide +kernel) (by decide) (fun c4 => ?_) (fun c4 => ?_)
  · rw [if_pos c4] at H
    refine wp_bipush (z := -2) (v := (-2)) (by decide +kernel) (by decide) ?_
    exact wp_iret (by decide +kernel) rfl (Nat.zero_le _) (Nat.zero_le _) ⟨_, _, _, rfl, rfl, H⟩
  · rw [if_neg c4] at H
    refine wp_aload_n (z := 0) (i := 0) (r := (some h)) 0 (by decide +kernel) rfl rfl ?_
    refine wp_iload_n (z := 2) (i := 2) (x := x2) 2 (by decide +kernel) rfl rfl ?_
    refine wp_callV (idx := 199) (B2 := B9_isFeeler) (As := [.int x2]) (a := h) (st := []) (by decide +kernel) m9_isFeeler ml9_199 k9_isFeeler e9_isFeeler ck9 ok.1 (⟨Nat.le_of_ble_eq_true rfl, Nat.le_of_ble_eq_true rfl⟩ : rOK B9_hold B9_isFeeler) rfl (Nat.le_of_ble_eq_true rfl) (Nat.le_of_ble_eq_true rfl) ⟨Nat.le_of_ble_eq_true rfl, Nat.le_of_ble_eq_true rfl⟩ rfl (wp_mono (b9_isFeeler (Q := (fun r I' L' => r = (v9_isFeeler I1 h x2) ∧ I1 = I' ∧ L2 = L')) ok ⟨rfl, rfl, rfl⟩) (fun v9 M9 hq9 => ?_))
    obtain ⟨_, _, _, rfl, rfl, rfl, rfl, rfl⟩ := hq9
    show wp X B9_hold 13 [(0, .ref h), (1, .int x1), (2, .int x2), (3, .int x3), (4, .int x4)] [.int (v9_isFeeler I1 h x2)] (G, I1, L2) 0 0 _
    refine wp_if_eq (off := 23) (tgt := 36) (by decide +kernel) (by decide) (fun c5 => ?_) (fun c5 => ?_)
    · rw [if_pos c5] at H
      refine wp_bipush (z := -2) (v := (-2)) (by decide +kernel) (by decide) ?_
      exact wp_iret (by decide +kernel) rfl (Nat.zero_le _) (Nat.zero_le _) ⟨_, _, _, rfl, rfl, H⟩
    · rw [if_neg c5] at H
      refine wp_iload_n (z := 3) (i := 3) (x := x3) 3 (by decide +kernel) rfl rfl ?_
      refine wp_iconst (z := 0) (v := 0) (by decide +kernel) (by decide) ?_
      refine wp_bipush (z := 9) (v := 9) (by decide +kernel) (by decide) ?_
      refine wp_callS (idx := 121) (B2 := B9_isIn) (As := [.int x3, .int 0, .int 9]) (st := []) (by decide +kernel) m9_isIn ml9_121 k9_isIn (⟨Nat.le_of_ble_eq_true rfl, Nat.le_of_ble_eq_true rfl⟩ : rOK B9_hold B9_isIn) rfl (Nat.le_of_ble_eq_true rfl) (Nat.le_of_ble_eq_true rfl) ⟨Nat.le_of_ble_eq_true rfl, Nat.le_of_ble_eq_true rfl⟩ rfl (wp_mono (b9_isIn (Q := (fun r I' L' => r = (v9_isIn x3 0 9) ∧ I1 = I' ∧ L2 = L'))  ⟨rfl, rfl, rfl⟩) (fun v9 M9 hq9 => ?_))
      obtain ⟨_, _, _, rfl, rfl, rfl, rfl, rfl⟩ := hq9
      show wp X B9_hold 23 [(0, .ref h), (1, .int x1), (2, .int x2), (3, .int x3), (4, .int x4)] [.int (v9_isIn x3 0 9)] (G, I1, L2) 0 0 _
      refine wp_if_eq (off := 13) (tgt := 36) (by decide +kernel) (by decide) (fun c6 => ?_) (fun c6 => ?_)
      · rw [if_pos c6] at H
        refine wp_bipush (z := -2) (v := (-2)) (by decide +kernel) (by decide) ?_
        exact wp_iret (by decide +kernel) rfl (Nat.zero_le _) (Nat.zero_le _) ⟨_, _, _, rfl, rfl, H⟩
      · rw [if_neg c6] at H
        refine wp_iload (i := 4) (x := x4) 4 (by decide +kernel) rfl ?_
        refine wp_iconst (z := 0) (v := 0) (by decide +kernel) (by decide) ?_
        refine wp_iconst (z := 2) (v := 2) (by decide +kernel) (by decide) ?_
        refine wp_callS (idx := 121) (B2 := B9_isIn) (As := [.int x4, .int 0, .int 2]) (st := []) (by decide +kernel) m9_isIn ml9_121 k9_isIn (⟨Nat.le_of_ble_eq_true rfl, Nat.le_of_ble_eq_true rfl⟩ : rOK B9_hold B9_isIn) rfl (Nat.le_of_ble_eq_true rfl) (Nat.le_of_ble_eq_true rfl) ⟨Nat.le_of_ble_eq_true rfl, Nat.le_of_ble_eq_true rfl⟩ rfl (wp_mono (b9_isIn (Q := (fun r I' L' => r = (v9_isIn x4 0 2) ∧ I1 = I' ∧ L2 = L'))  ⟨rfl, rfl, rfl⟩) (fun v9 M9 hq9 => ?_))
        obtain ⟨_, _, _, rfl, rfl, rfl, rfl, rfl⟩ := hq9
        show wp X B9_hold 33 [(0, .ref h), (1, .int x1), (2, .int x2), (3, .int x3), (4, .int x4)] [.int (v9_isIn x4 0 2)] (G, I1, L2) 0 0 _
        refine wp_if_ne (off := 6) (tgt := 39) (by decide +kernel) (by decide) (fun c7 => ?_) (fun c7 => ?_)
        · rw [if_neg c7] at H
          refine wp_aload_n (z := 0) (i := 0) (r := (some h)) 0 (by decide +kernel) rfl rfl ?_
          refine wp_callV (idx := 253) (B2 := B9_begins) (As := []) (a := h) (st := []) (by decide +kernel) m9_begins ml9_253 k9_begins e9_begins ck9 ok.1 (⟨Nat.le_of_ble_eq_true rfl, Nat.le_of_ble_eq_true rfl⟩ : rOK B9_hold B9_begins) rfl (Nat.le_of_ble_eq_true rfl) (Nat.le_of_ble_eq_true rfl) ⟨Nat.le_of_ble_eq_true rfl, Nat.le_of_ble_eq_true rfl⟩ rfl (wp_mono H (fun v9 M9 hq9 => ?_))
          clear H
          obtain ⟨I8, L9, rfl, rfl, H⟩ := hq9
          show wp X B9_hold 43 [(0, .ref h), (1, .int x1), (2, .int x2), (3, .int x3), (4, .int x4)] [] (G, I8, L9) 0 0 _
          exact wp_sub [0, 2, 3, 4] rfl H
        · rw [if_pos c7] at H
          refine wp_bipush (z := -2) (v := (-2)) (by decide +kernel) (by decide) ?_
          exact wp_iret (by decide +kernel) rfl (Nat.zero_le _) (Nat.zero_le _) ⟨_, _, _, rfl, rfl, H⟩
set_option maxRecDepth 20000 in
theorem b9_hold_43 {X : XX} {G : GG} {I : Nat → Nat → Int32} {L : Nat → Nat → Int64} {h : Nat} {x2 : Int32} {x3 : Int32} {x4 : Int32} {Q : Int32 → (Nat → Nat → Int32) → (Nat → Nat → Int64) → Prop} (ok : OK9 G h) (H : if 20 ≤ (I h 17) then (if 2 ≤ x4 then (wpI X B9_hold 95 [(0, .ref h), (2, .int x2), (5, .int 0), (6, .int 0), (7, .int 0)] [] G I L Q) else (if x4 = (0 : Int32) then (vp_in x2 6 ∧ (Q (I (h + 9) (cl x2)) I L)) else (wpI X B9_firstFelt 0 [(0, .ref h), (1, .int x2)] [] G I L (fun r6 I4 L5 => Q r6 I4 L5)))) else (wpV X B9_beat 0 [(0, .ref h), (1, .int x3)] [] G I L (fun I8 L9 => wpI X B9_hold 43 [(0, .ref h), (2, .int x2), (3, .int x3), (4, .int x4)] [] G I8 L9 Q))) : wpI X B9_hold 43 [(0, .ref h), (2, .int x2), (3, .int x3), (4, .int x4)] [] G I L Q := by
  refine wp_aload_n (z := 0) (i := 0) (r := (some h)) 0 (by decide +kernel) rfl rfl ?_
  refine wp_getI (idx := 220) (by decide +kernel) fl9_220 rfl ok.1 ?_
  refine wp_bipush (z := 20) (v := 20) (by decide +kernel) (by decide) ?_
  refine wp_icmp_ge (off := 11) (tgt := 60) (by decide +kernel) (by decide) (fun c1 => ?_) (fun c1 => ?_)
  · rw [if_pos c1] at H
    refine wp_iload (i := 4) (x := x4) 3 (by decide +kernel) rfl ?_
    refine wp_iconst (z := 2) (v := 2) (by decide +kernel) (by decide) ?_
    refine wp_icmp_ge (off := 23) (tgt := 86) (by decide +kernel) (by decide) (fun c2 => ?_) (fun c2 => ?_)
    · rw [if_pos c2] at H
      refine wp_iconst (z := 0) (v := 0) (by decide +kernel) (by decide) ?_
      refine wp_istore (i := 5) (lv' := [(5, .int 0), (0, .ref h), (2, .int x2), (3, .int x3), (4, .int x4)]) (by decide +kernel) (by decide) rfl ?_
      refine wp_iconst (z := 0) (v := 0) (by decide +kernel) (by decide) ?_
      refine wp_istore (i := 6) (lv' := [(6, .int 0), (5, .int 0), (0, .ref h), (2, .int x2), (3, .int x3), (4, .int x4)]) (by decide +kernel) (by decide) rfl ?_
      refine wp_iconst (z := 0) (v := 0) (by decide +kernel) (by decide) ?_
      refine wp_istore (i := 7) (lv' := [(7, .int 0), (6, .int 0), (5, .int 0), (0, .ref h), (2, .int x2), (3, .int x3), (4, .int x4)]) (by decide +kernel) (by decide) rfl ?_
      exact wp_sub [3, 4, 2, 1, 0] rfl H
    · rw [if_neg c2] at H
      refine wp_iload (i := 4) (x := x4) 3 (by decide +kernel) rfl ?_
      refine wp_if_ne (off := 12) (tgt := 80) (by decide +kernel) (by decide) (fun c3 => ?_) (fun c3 => ?_)
      · rw [if_neg c3] at H
        refine wp_aload_n (z := 0) (i := 0) (r := (some h)) 0 (by decide +kernel) rfl rfl ?_
        refine wp_iload_n (z := 2) (i := 2) (x := x2) 1 (by decide +kernel) rfl rfl ?_
        refine wp_callV (idx := 268) (B2 := B9_firstFelt) (As := [.int x2]) (a := h) (st := []) (by decide +kernel) m9_firstFelt ml9_268 k9_firstFelt e9_firstFelt ck9 ok.1 (⟨Nat.le_of_ble_eq_true rfl, Nat.le_of_ble_eq_true rfl⟩ : rOK B9_hold B9_firstFelt) rfl (Nat.le_of_ble_eq_true rfl) (Nat.le_of_ble_eq_true rfl) ⟨Nat.le_of_ble_eq_true rfl, Nat.le_of_ble_eq_true rfl⟩ rfl (wp_mono H (fun v9 M9 hq9 => ?_))
        clear H
        obtain ⟨r6, I4, L5, rfl, rfl, H⟩ := hq9
        show wp X B9_hold 85 [(0, .ref h), (2, .int x2), (3, .int x3), (4, .int x4)] [.int r6] (G, I4, L5) 0 0 _
        exact wp_iret (by decide +kernel) rfl (Nat.zero_le _) (Nat.zero_le _) ⟨_, _, _, rfl, rfl, H⟩
      · rw [if_pos c3] at H
        refine wp_aload_n (z := 0) (i := 0) (r := (some h)) 0 (by decide +kernel) rfl rfl ?_
        refine wp_getS (idx := 35) (q := (h + 9)) (by decide +kernel) fl9_35 rfl ok.1 (okr9_28 ok) ?_
        refine wp_iload_n (z := 2) (i := 2) (x := x2) 1 (by decide +kernel) rfl rfl ?_
        obtain ⟨o7, H⟩ := H
        refine wp_iald (j := (cl x2)) (by decide +kernel) (oks9_28 ok) o7 rfl ?_
        refine wp_goto (off := 8) (tgt := 85) (by decide +kernel) (by decide) ?_
        exact wp_iret (by decide +kernel) rfl (Nat.zero_le _) (Nat.zero_le _) ⟨_, _, _, rfl, rfl, H⟩
  · rw [if_neg c1] at H
    refine wp_aload_n (z := 0) (i := 0) (r := (some h)) 0 (by decide +kernel) rfl rfl ?_
    refine wp_iload_n (z := 3) (i := 3) (x := x3) 2 (by decide +kernel) rfl rfl ?_
    refine wp_callV (idx := 256) (B2 := B9_beat) (As := [.int x3]) (a := h) (st := []) (by decide +kernel) m9_beat ml9_256 k9_beat e9_beat ck9 ok.1 (⟨Nat.le_of_ble_eq_true rfl, Nat.le_of_ble_eq_true rfl⟩ : rOK B9_hold B9_beat) rfl (Nat.le_of_ble_eq_true rfl) (Nat.le_of_ble_eq_true rfl) ⟨Nat.le_of_ble_eq_true rfl, Nat.le_of_ble_eq_true rfl⟩ rfl (wp_mono H (fun v9 M9 hq9 => ?_))
    clear H
    obtain ⟨I8, L9, rfl, rfl, H⟩ := hq9
    show wp X B9_hold 57 [(0, .ref h), (2, .int x2), (3, .int x3), (4, .int x4)] [] (G, I8, L9) 0 0 _
    refine wp_goto (off := -14) (tgt := 43) (by decide +kernel) (by decide) ?_
    exact wp_sub [0, 1, 2, 3] rfl H
set_option maxRecDepth 20000 in
theorem b9_hold_95 {X : XX} {G : GG} {I : Nat → Nat → Int32} {L : Nat → Nat → Int64} {h : Nat} {x2 : Int32} {x5 : Int32} {x6 : Int32} {x7 : Int32} {Q : Int32 → (Nat → Nat → Int32) → (Nat → Nat → Int64) → Prop} (ok : OK9 G h) (H : if 20 ≤ x7 then (Q x5 I L) else (vp_in x7 64 ∧ (if (((I (h + 11) (cl x7)) >>> (x2 &&& 31)) &&& 1) = 1 then (if (x6 + 1) ≤ x5 then (wpI X B9_hold 95 [(0, .ref h), (2, .int x2), (5, .int x5), (6, .int (x6 + 1)), (7, .int (x7 + 1))] [] G I L Q) else (wpI X B9_hold 95 [(0, .ref h), (2, .int x2), (5, .int (x6 + 1)), (6, .int (x6 + 1)), (7, .int (x7 + 1))] [] G I L Q)) else (if 0 ≤ x5 then (wpI X B9_hold 95 [(0, .ref h), (2, .int x2), (5, .int x5), (6, .int 0), (7, .int (x7 + 1))] [] G I L Q) else (wpI X B9_hold 95 [(0, .ref h), (2, .int x2), (5, .int 0), (6, .int 0), (7, .int (x7 + 1))] [] G I L Q))))) : wpI X B9_hold 95 [(0, .ref h), (2, .int x2), (5, .int x5), (6, .int x6), (7, .int x7)] [] G I L Q := by
  refine wp_iload (i := 7) (x := x7) 4 (by decide +kernel) rfl ?_
  refine wp_bipush (z := 20) (v := 20) (by decide +kernel) (by decide) ?_
  refine wp_icmp_ge (off := 50) (tgt := 149) (by decide +kernel) (by decide) (fun c1 => ?_) (fun c1 => ?_)
  · rw [if_pos c1] at H
    refine wp_iload (i := 5) (x := x5) 2 (by decide +kernel) rfl ?_
    exact wp_iret (by decide +kernel) rfl (Nat.zero_le _) (Nat.zero_le _) ⟨_, _, _, rfl, rfl, H⟩
  · rw [if_neg c1] at H
    refine wp_aload_n (z := 0) (i := 0) (r := (some h)) 0 (by decide +kernel) rfl rfl ?_
    refine wp_getS (idx := 41) (q := (h + 11)) (by decide +kernel) fl9_41 rfl ok.1 (okr9_30 ok) ?_
    refine wp_iload (i := 7) (x := x7) 4 (by decide +kernel) rfl ?_
    obtain ⟨o5, H⟩ := H
    refine wp_iald (j := (cl x7)) (by decide +kernel) (oks9_30 ok) o5 rfl ?_
    refine wp_iload_n (z := 2) (i := 2) (x := x2) 1 (by decide +kernel) rfl rfl ?_
    refine wp_ishr (by decide +kernel) ?_
    refine wp_iconst (z := 1) (v := 1) (by decide +kernel) (by decide) ?_
    refine wp_iand (by decide +kernel) ?_
    refine wp_iconst (z := 1) (v := 1) (by decide +kernel) (by decide) ?_
    refine wp_icmp_ne (off := 10) (tgt := 124) (by decide +kernel) (by decide) (fun c2 => ?_) (fun c2 => ?_)
    · rw [if_neg c2] at H
      refine wp_iconst (z := 0) (v := 0) (by decide +kernel) (by decide) ?_
      refine wp_istore (i := 6) (lv' := [(6, .int 0), (0, .ref h), (2, .int x2), (5, .int x5), (7, .int x7)]) (by decide +kernel) (by decide) rfl ?_
      refine wp_iload (i := 6) (x := 0) 0 (by decide +kernel) rfl ?_
      refine wp_iload (i := 5) (x := x5) 3 (by decide +kernel) rfl ?_
      refine wp_icmp_le (off := 8) (tgt := 139) (by decide +kernel) (by decide) (fun c3 => ?_) (fun c3 => ?_)
      · rw [if_pos c3] at H
        refine wp_iload (i := 5) (x := x5) 3 (by decide +kernel) rfl ?_
        refine wp_istore (i := 5) (lv' := [(5, .int x5), (6, .int 0), (0, .ref h), (2, .int x2), (7, .int x7)]) (by decide +kernel) (by decide) rfl ?_
        refine wp_iinc (i := 7) (z := 1) (v := 1) (lv' := [(7, .int (x7 + 1)), (5, .int x5), (6, .int 0), (0, .ref h), (2, .int x2)]) 4 (by decide +kernel) rfl (by decide) (by decide) rfl ?_
        refine wp_goto (off := -51) (tgt := 95) (by decide +kernel) (by decide) ?_
        exact wp_sub [3, 4, 1, 2, 0] rfl H
      · rw [if_neg c3] at H
        refine wp_iload (i := 6) (x := 0) 0 (by decide +kernel) rfl ?_
        refine wp_goto (off := 5) (tgt := 141) (by decide +kernel) (by decide) ?_
        refine wp_istore (i := 5) (lv' := [(5, .int 0), (6, .int 0), (0, .ref h), (2, .int x2), (7, .int x7)]) (by decide +kernel) (by decide) rfl ?_
        refine wp_iinc (i := 7) (z := 1) (v := 1) (lv' := [(7, .int (x7 + 1)), (5, .int 0), (6, .int 0), (0, .ref h), (2, .int x2)]) 4 (by decide +kernel) rfl (by decide) (by decide) rfl ?_
        refine wp_goto (off := -51) (tgt := 95) (by decide +kernel) (by decide) ?_
        exact wp_sub [3, 4, 1, 2, 0] rfl H
    · rw [if_pos c2] at H
      refine wp_iload (i := 6) (x := x6) 3 (by decide +kernel) rfl ?_
      refine wp_iconst (z := 1) (v := 1) (by decide +kernel) (by decide) ?_
      refine wp_iadd (by decide +kernel) ?_
      refine wp_goto (off := 4) (tgt := 125) (by decide +kernel) (by decide) ?_
      refine wp_istore (i := 6) (lv' := [(6, .int (x6 + 1)), (0, .ref h), (2, .int x2), (5, .int x5), (7, .int x7)]) (by decide +kernel) (by decide) rfl ?_
      refine wp_iload (i := 6) (x := (x6 + 1)) 0 (by decide +kernel) rfl ?_
      refine wp_iload (i := 5) (x := x5) 3 (by decide +kernel) rfl ?_
      refine wp_icmp_le (off := 8) (tgt := 139) (by decide +kernel) (by decide) (fun c4 => ?_) (fun c4 => ?_)
      · rw [if_pos c4] at H
        refine wp_iload (i := 5) (x := x5) 3 (by decide +kernel) rfl ?_
        refine wp_istore (i := 5) (lv' := [(5, .int x5), (6, .int (x6 + 1)), (0, .ref h), (2, .int x2), (7, .int x7)]) (by decide +kernel) (by decide) rfl ?_
        refine wp_iinc (i := 7) (z := 1) (v := 1) (lv' := [(7, .int (x7 + 1)), (5, .int x5), (6, .int (x6 + 1)), (0, .ref h), (2, .int x2)]) 4 (by decide +kernel) rfl (by decide) (by decide) rfl ?_
        refine wp_goto (off := -51) (tgt := 95) (by decide +kernel) (by decide) ?_
        exact wp_sub [3, 4, 1, 2, 0] rfl H
      · rw [if_neg c4] at H
        refine wp_iload (i := 6) (x := (x6 + 1)) 0 (by decide +kernel) rfl ?_
        refine wp_goto (off := 5) (tgt := 141) (by decide +kernel) (by decide) ?_
        refine wp_istore (i := 5) (lv' := [(5, .int (x6 + 1)), (6, .int (x6 + 1)), (0, .ref h), (2, .int x2), (7, .int x7)]) (by decide +kernel) (by decide) rfl ?_
        refine wp_iinc (i := 7) (z := 1) (v := 1) (lv' := [(7, .int (x7 + 1)), (5, .int (x6 + 1)), (6, .int (x6 + 1)), (0, .ref h), (2, .int x2)]) 4 (by decide +kernel) rfl (by decide) (by decide) rfl ?_
        refine wp_goto (off := -51) (tgt := 95) (by decide +kernel) (by decide) ?_
        exact wp_sub [3, 4, 1, 2, 0] rfl H
/-! DeafWallModel.duetBy(IIII)I -/
set_option maxRecDepth 20000 in
theorem b9_duetBy {X : XX} {G : GG} {I : Nat → Nat → Int32} {L : Nat → Nat → Int64} {h : Nat} {x1 : Int32} {x2 : Int32} {x3 : Int32} {x4 : Int32} {Q : Int32 → (Nat → Nat → Int32) → (Nat → Nat → Int64) → Prop} (ok : OK9 G h) (H : wpV X B9_begins 0 [(0, .ref h)] [] G I L (fun I1 L2 => wpI X B9_duetBy 9 [(0, .ref h), (1, .int x1), (3, .int x3), (4, .int x4), (5, .int (x2 - 1))] [] G I1 L2 Q)) : wpI X B9_duetBy 0 [(0, .ref h), (1, .int x1), (2, .int x2), (3, .int x3), (4, .int x4)] [] G I L Q := by
  refine wp_aload_n (z := 0) (i := 0) (r := (some h)) 0 (by decide +kernel) rfl rfl ?_
  refine wp_callV (idx := 253) (B2 := B9_begins) (As := []) (a := h) (st := []) (by decide +kernel) m9_begins ml9_253 k9_begins e9_begins ck9 ok.1 (⟨Nat.le_of_ble_eq_true rfl, Nat.le_of_ble_eq_true rfl⟩ : rOK B9_duetBy B9_begins) rfl (Nat.le_of_ble_eq_true rfl) (Nat.le_of_ble_eq_true rfl) ⟨Nat.le_of_ble_eq_true rfl, Nat.le_of_ble_eq_true rfl⟩ rfl (wp_mono H (fun v9 M9 hq9 => ?_))
  clear H
  obtain ⟨I1, L2, rfl, rfl, H⟩ := hq9
  show wp X B9_duetBy 4 [(0, .ref h), (1, .int x1), (2, .int x2), (3, .int x3), (4, .int x4)] [] (G, I1, L2) 0 0 _
  refine wp_iload_n (z := 2) (i := 2) (x := x2) 2 (by decide +kernel) rfl rfl ?_
  refine wp_iconst (z := 1) (v := 1) (by decide +kernel) (by decide) ?_
  refine wp_isub (by decide +kernel) ?_
  refine wp_istore (i := 5) (lv' := [(5, .int (x2 - 1)), (0, .ref h), (1, .int x1), (2, .int x2), (3, .int x3), (4, .int x4)]) (by decide +kernel) (by decide) rfl ?_
  exact wp_sub [1, 2, 4, 5, 0] rfl H
set_option maxRecDepth 20000 in
theorem b9_duetBy_9 {X : XX} {G : GG} {I : Nat → Nat → Int32} {L : Nat → Nat → Int64} {h : Nat} {x1 : Int32} {x3 : Int32} {x4 : Int32} {x5 : Int32} {Q : Int32 → (Nat → Nat → Int32) → (Nat → Nat → Int64) → Prop} (ok : OK9 G h) (H : if x5 < (0 : Int32) then (wpI X B9_duetBy 34 [(0, .ref h), (3, .int x3), (4, .int x4)] [] G I L Q) else (wpV X B9_beat 0 [(0, .ref h), (1, .int (3 * ((x1 >>> ((2 * x5) &&& 31)) &&& 3)))] [] G I L (fun I2 L3 => wpI X B9_duetBy 9 [(0, .ref h), (1, .int x1), (3, .int x3), (4, .int x4), (5, .int (x5 + (-1)))] [] G I2 L3 Q))) : wpI X B9_duetBy 9 [(0, .ref h), (1, .int x1), (3, .int x3), (4, .int x4), (5, .int x5)] [] G I L Q := by
  refine wp_iload (i := 5) (x := x5) 4 (by decide +kernel) rfl ?_
  refine wp_if_lt (off := 23) (tgt := 34) (by decide +kernel) (by decide) (fun c1 => ?_) (fun c1 => ?_)
  · rw [if_pos c1] at H
    exact wp_sub [0, 2, 3] rfl H
  · rw [if_neg c1] at H
    refine wp_aload_n (z := 0) (i := 0) (r := (some h)) 0 (by decide +kernel) rfl rfl ?_
    refine wp_iconst (z := 3) (v := 3) (by decide +kernel) (by decide) ?_
    refine wp_iload_n (z := 1) (i := 1) (x := x1) 1 (by decide +kernel) rfl rfl ?_
    refine wp_iconst (z := 2) (v := 2) (by decide +kernel) (by decide) ?_
    refine wp_iload (i := 5) (x := x5) 4 (by decide +kernel) rfl ?_
    refine wp_imul (by decide +kernel) ?_
    refine wp_ishr (by decide +kernel) ?_
    refine wp_iconst (z := 3) (v := 3) (by decide +kernel) (by decide) ?_
    refine wp_iand (by decide +kernel) ?_
    refine wp_imul (by decide +kernel) ?_
    refine wp_callV (idx := 256) (B2 := B9_beat) (As := [.int (3 * ((x1 >>> ((2 * x5) &&& 31)) &&& 3))]) (a := h) (st := []) (by decide +kernel) m9_beat ml9_256 k9_beat e9_beat ck9 ok.1 (⟨Nat.le_of_ble_eq_true rfl, Nat.le_of_ble_eq_true rfl⟩ : rOK B9_duetBy B9_beat) rfl (Nat.le_of_ble_eq_true rfl) (Nat.le_of_ble_eq_true rfl) ⟨Nat.le_of_ble_eq_true rfl, Nat.le_of_ble_eq_true rfl⟩ rfl (wp_mono H (fun v9 M9 hq9 => ?_))
    clear H
    obtain ⟨I2, L3, rfl, rfl, H⟩ := hq9
    show wp X B9_duetBy 28 [(0, .ref h), (1, .int x1), (3, .int x3), (4, .int x4), (5, .int x5)] [] (G, I2, L3) 0 0 _
    refine wp_iinc (i := 5) (z := -1) (v := (-1)) (lv' := [(5, .int (x5 + (-1))), (0, .ref h), (1, .int x1), (3, .int x3), (4, .int x4)]) 4 (by decide +kernel) rfl (by decide) (by decide) rfl ?_
    refine wp_goto (off := -22) (tgt := 9) (by decide +kernel) (by decide) ?_
    exact wp_sub [1, 2, 3, 4, 0] rfl H
set_option maxRecDepth 20000 in
theorem b9_duetBy_34 {X : XX} {G : GG} {I : Nat → Nat → Int32} {L : Nat → Nat → Int64} {h : Nat} {x3 : Int32} {x4 : Int32} {Q : Int32 → (Nat → Nat → Int32) → (Nat → Nat → Int64) → Prop} (ok : OK9 G h) (H : if 20 ≤ (I h 17) then (vp_in x3 6 ∧ (vp_in x4 6 ∧ (Q ((I (h + 9) (cl x3)) - (I (h + 9) (cl x4))) I L))) else (wpV X B9_beat 0 [(0, .ref h), (1, .int 0)] [] G I L (fun I4 L5 => wpI X B9_duetBy 34 [(0, .ref h), (3, .int x3), (4, .int x4)] [] G I4 L5 Q))) : wpI X B9_duetBy 34 [(0, .ref h), (3, .int x3), (4, .int x4)] [] G I L Q := by
  refine wp_aload_n (z := 0) (i := 0) (r := (some h)) 0 (by decide +kernel) rfl rfl ?_
  refine wp_getI (idx := 220) (by decide +kernel) fl9_220 rfl ok.1 ?_
  refine wp_bipush (z := 20) (v := 20) (by decide +kernel) (by decide) ?_
  refine wp_icmp_ge (off := 11) (tgt := 51) (by decide +kernel) (by decide) (fun c1 => ?_) (fun c1 => ?_)
  · rw [if_pos c1] at H
    refine wp_aload_n (z := 0) (i := 0) (r := (some h)) 0 (by decide +kernel) rfl rfl ?_
    refine wp_getS (idx := 35) (q := (h + 9)) (by decide +kernel) fl9_35 rfl ok.1 (okr9_28 ok) ?_
    refine wp_iload_n (z := 3) (i := 3) (x := x3) 1 (by decide +kernel) rfl rfl ?_
    obtain ⟨o3, H⟩ := H
    refine wp_iald (j := (cl x3)) (by decide +kernel) (oks9_28 ok) o3 rfl ?_
    refine wp_aload_n (z := 0) (i := 0) (r := (some h)) 0 (by decide +kernel) rfl rfl ?_
    refine wp_getS (idx := 35) (q := (h + 9)) (by decide +kernel) fl9_35 rfl ok.1 (okr9_28 ok) ?_
    refine wp_iload (i := 4) (x := x4) 2 (by decide +kernel) rfl ?_
    obtain ⟨o2, H⟩ := H
    refine wp_iald (j := (cl x4)) (by decide +kernel) (oks9_28 ok) o2 rfl ?_
    refine wp_isub (by decide +kernel) ?_
    exact wp_iret (by decide +kernel) rfl (Nat.zero_le _) (Nat.zero_le _) ⟨_, _, _, rfl, rfl, H⟩
  · rw [if_neg c1] at H
    refine wp_aload_n (z := 0) (i := 0) (r := (some h)) 0 (by decide +kernel) rfl rfl ?_
    refine wp_iconst (z := 0) (v := 0) (by decide +kernel) (by decide) ?_
    refine wp_callV (idx := 256) (B2 := B9_beat) (As := [.int 0]) (a := h) (st := []) (by decide +kernel) m9_beat ml9_256 k9_beat e9_beat ck9 ok.1 (⟨Nat.le_of_ble_eq_true rfl, Nat.le_of_ble_eq_true rfl⟩ : rOK B9_duetBy B9_beat) rfl (Nat.le_of_ble_eq_true rfl) (Nat.le_of_ble_eq_true rfl) ⟨Nat.le_of_ble_eq_true rfl, Nat.le_of_ble_eq_true rfl⟩ rfl (wp_mono H (fun v9 M9 hq9 => ?_))
    clear H
    obtain ⟨I4, L5, rfl, rfl, H⟩ := hq9
    show wp X B9_duetBy 48 [(0, .ref h), (3, .int x3), (4, .int x4)] [] (G, I4, L5) 0 0 _
    refine wp_goto (off := -14) (tgt := 34) (by decide +kernel) (by decide) ?_
    exact wp_sub [0, 1, 2] rfl H
