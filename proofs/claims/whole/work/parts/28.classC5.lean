/-! DeafWall.play(IIIZ)I -/
set_option maxRecDepth 20000 in
theorem b8_play {X : XX} {G : GG} {I : Nat → Nat → Int32} {L : Nat → Nat → Int64} {h : Nat} {x1 : Int32} {x2 : Int32} {x3 : Int32} {x4 : Int32} {Q : Int32 → (Nat → Nat → Int32) → (Nat → Nat → Int64) → Prop} (ok : OK8 G h) (H : wpR X B8_wallAt 0 [(0, .ref h), (1, .int x1)] [] G I L (fun r3 I1 L2 => (r3 = none → Q (-1) I1 L2) ∧ (∀ q5, r3 = some q5 → OK7 G q5 ∧ (if (v7_hasFeeler I1 q5 x2) = (0 : Int32) then (Q (-1) I1 L2) else (if (v7_hasTale I1 q5 x3) = (0 : Int32) then (Q (-1) I1 L2) else (wpV X B8_listen 0 [(0, .ref h), (1, .ref q5)] [] G I1 L2 (fun I9 L10 => wpI X B8_play 41 [(0, .ref h), (2, .int x2), (3, .int x3), (4, .int x4), (5, .ref q5), (6, .int 1)] [] G I9 L10 Q))))))) : wpI X B8_play 0 [(0, .ref h), (1, .int x1), (2, .int x2), (3, .int x3), (4, .int x4)] [] G I L Q := by
  refine wp_aload_n (z := 0) (i := 0) (r := (some h)) 0 (by decide +kernel) rfl rfl ?_
  refine wp_iload_n (z := 1) (i := 1) (x := x1) 1 (by decide +kernel) rfl rfl ?_
  refine wp_callV (idx := 129) (B2 := B8_wallAt) (As := [.int x1]) (a := h) (st := []) (by decide +kernel) m8_wallAt ml8_129 k8_wallAt e8_wallAt ck8 ok.1 (⟨Nat.le_of_ble_eq_true rfl, Nat.le_of_ble_eq_true rfl⟩ : rOK B8_play B8_wallAt) rfl (Nat.le_of_ble_eq_true rfl) (Nat.le_of_ble_eq_true rfl) ⟨Nat.le_of_ble_eq_true rfl, Nat.le_of_ble_eq_true rfl⟩ rfl (wp_mono H (fun v9 M9 hq9 => ?_))
  clear H
  obtain ⟨r3, I1, L2, rfl, rfl, H⟩ := hq9
  show wp X B8_play 5 [(0, .ref h), (1, .int x1), (2, .int x2), (3, .int x3), (4, .int x4)] [va_rf r3] (G, I1, L2) 0 0 _
  refine wp_astore (i := 5) (lv' := [(5, va_rf r3), (0, .ref h), (1, .int x1), (2, .int x2), (3, .int x3), (4, .int x4)]) (r := r3) (by decide +kernel) (by decide) (by cases r3 <;> rfl) ?_
  refine wp_aload (i := 5) (r := r3) 0 (by decide +kernel) rfl ?_
  refine wp_ifnull (off := 21) (tgt := 30) (r := r3) (by decide +kernel) (by decide) (fun c4 => ?_) (fun q5 c4 => ?_)
  · replace H := H.1 c4
    subst c4
    show wp X B8_play 30 [(5, .null), (0, .ref h), (1, .int x1), (2, .int x2), (3, .int x3), (4, .int x4)] [] (G, I1, L2) 0 0 _
    refine wp_iconst (z := -1) (v := (-1)) (by decide +kernel) (by decide) ?_
    exact wp_iret (by decide +kernel) rfl (Nat.zero_le _) (Nat.zero_le _) ⟨_, _, _, rfl, rfl, H⟩
  · replace H := H.2 q5 c4
    subst c4
    show wp X B8_play 12 [(5, .ref q5), (0, .ref h), (1, .int x1), (2, .int x2), (3, .int x3), (4, .int x4)] [] (G, I1, L2) 0 0 _
    refine wp_aload (i := 5) (r := (some q5)) 0 (by decide +kernel) rfl ?_
    refine wp_iload_n (z := 2) (i := 2) (x := x2) 3 (by decide +kernel) rfl rfl ?_
    obtain ⟨f6, H⟩ := H
    refine wp_callV (idx := 151) (B2 := B7_hasFeeler) (As := [.int x2]) (a := q5) (st := []) (by decide +kernel) m7_hasFeeler ml8_151 k7_hasFeeler e7_hasFeeler ck7 f6.1 (⟨Nat.le_of_ble_eq_true rfl, Nat.le_of_ble_eq_true rfl⟩ : rOK B8_play B7_hasFeeler) rfl (Nat.le_of_ble_eq_true rfl) (Nat.le_of_ble_eq_true rfl) ⟨Nat.le_of_ble_eq_true rfl, Nat.le_of_ble_eq_true rfl⟩ rfl (wp_mono (b7_hasFeeler (Q := (fun r I' L' => r = (v7_hasFeeler I1 q5 x2) ∧ I1 = I' ∧ L2 = L')) f6 ⟨rfl, rfl, rfl⟩) (fun v9 M9 hq9 => ?_))
    obtain ⟨_, _, _, rfl, rfl, rfl, rfl, rfl⟩ := hq9
    show wp X B8_play 18 [(5, .ref q5), (0, .ref h), (1, .int x1), (2, .int x2), (3, .int x3), (4, .int x4)] [.int (v7_hasFeeler I1 q5 x2)] (G, I1, L2) 0 0 _
    refine wp_if_eq (off := 12) (tgt := 30) (by decide +kernel) (by decide) (fun c7 => ?_) (fun c7 => ?_)
    · rw [if_pos c7] at H
      refine wp_iconst (z := -1) (v := (-1)) (by decide +kernel) (by decide) ?_
      exact wp_iret (by decide +kernel) rfl (Nat.zero_le _) (Nat.zero_le _) ⟨_, _, _, rfl, rfl, H⟩
    · rw [if_neg c7] at H
      refine wp_aload (i := 5) (r := (some q5)) 0 (by decide +kernel) rfl ?_
      refine wp_iload_n (z := 3) (i := 3) (x := x3) 4 (by decide +kernel) rfl rfl ?_
      refine wp_callV (idx := 142) (B2 := B7_hasTale) (As := [.int x3]) (a := q5) (st := []) (by decide +kernel) m7_hasTale ml8_142 k7_hasTale e7_hasTale ck7 f6.1 (⟨Nat.le_of_ble_eq_true rfl, Nat.le_of_ble_eq_true rfl⟩ : rOK B8_play B7_hasTale) rfl (Nat.le_of_ble_eq_true rfl) (Nat.le_of_ble_eq_true rfl) ⟨Nat.le_of_ble_eq_true rfl, Nat.le_of_ble_eq_true rfl⟩ rfl (wp_mono (b7_hasTale (Q := (fun r I' L' => r = (v7_hasTale I1 q5 x3) ∧ I1 = I' ∧ L2 = L')) f6 ⟨rfl, rfl, rfl⟩) (fun v9 M9 hq9 => ?_))
      obtain ⟨_, _, _, rfl, rfl, rfl, rfl, rfl⟩ := hq9
      show wp X B8_play 27 [(5, .ref q5), (0, .ref h), (1, .int x1), (2, .int x2), (3, .int x3), (4, .int x4)] [.int (v7_hasTale I1 q5 x3)] (G, I1, L2) 0 0 _
      refine wp_if_ne (off := 5) (tgt := 32) (by decide +kernel) (by decide) (fun c8 => ?_) (fun c8 => ?_)
      · rw [if_neg c8] at H
        refine wp_aload_n (z := 0) (i := 0) (r := (some h)) 1 (by decide +kernel) rfl rfl ?_
        refine wp_aload (i := 5) (r := (some q5)) 0 (by decide +kernel) rfl ?_
        refine wp_callV (idx := 261) (B2 := B8_listen) (As := [.ref q5]) (a := h) (st := []) (by decide +kernel) m8_listen ml8_261 k8_listen e8_listen ck8 ok.1 (⟨Nat.le_of_ble_eq_true rfl, Nat.le_of_ble_eq_true rfl⟩ : rOK B8_play B8_listen) rfl (Nat.le_of_ble_eq_true rfl) (Nat.le_of_ble_eq_true rfl) ⟨Nat.le_of_ble_eq_true rfl, Nat.le_of_ble_eq_true rfl⟩ rfl (wp_mono H (fun v9 M9 hq9 => ?_))
        clear H
        obtain ⟨I9, L10, rfl, rfl, H⟩ := hq9
        show wp X B8_play 38 [(5, .ref q5), (0, .ref h), (1, .int x1), (2, .int x2), (3, .int x3), (4, .int x4)] [] (G, I9, L10) 0 0 _
        refine wp_iconst (z := 1) (v := 1) (by decide +kernel) (by decide) ?_
        refine wp_istore (i := 6) (lv' := [(6, .int 1), (5, .ref q5), (0, .ref h), (1, .int x1), (2, .int x2), (3, .int x3), (4, .int x4)]) (by decide +kernel) (by decide) rfl ?_
        exact wp_sub [2, 4, 5, 6, 1, 0] rfl H
      · rw [if_pos c8] at H
        refine wp_iconst (z := -1) (v := (-1)) (by decide +kernel) (by decide) ?_
        exact wp_iret (by decide +kernel) rfl (Nat.zero_le _) (Nat.zero_le _) ⟨_, _, _, rfl, rfl, H⟩
set_option maxRecDepth 20000 in
theorem b8_play_41 {X : XX} {G : GG} {I : Nat → Nat → Int32} {L : Nat → Nat → Int64} {h : Nat} {x2 : Int32} {x3 : Int32} {x4 : Int32} {a5 : Nat} {x6 : Int32} {Q : Int32 → (Nat → Nat → Int32) → (Nat → Nat → Int64) → Prop} (ok : OK8 G h) (ok5 : OK7 G a5) (H : if 8 < x6 then (Q (-1) I L) else (wpI X B8_play 51 [(0, .ref h), (2, .int x2), (3, .int x3), (4, .int x4), (5, .ref a5), (6, .int x6), (7, .int 0)] [] G I L Q)) : wpI X B8_play 41 [(0, .ref h), (2, .int x2), (3, .int x3), (4, .int x4), (5, .ref a5), (6, .int x6)] [] G I L Q := by
  refine wp_iload (i := 6) (x := x6) 5 (by decide +kernel) rfl ?_
  refine wp_bipush (z := 8) (v := 8) (by decide +kernel) (by decide) ?_
  refine wp_icmp_gt (off := 71) (tgt := 116) (by decide +kernel) (by decide) (fun c1 => ?_) (fun c1 => ?_)
  · rw [if_pos c1] at H
    refine wp_iconst (z := -1) (v := (-1)) (by decide +kernel) (by decide) ?_
    exact wp_iret (by decide +kernel) rfl (Nat.zero_le _) (Nat.zero_le _) ⟨_, _, _, rfl, rfl, H⟩
  · rw [if_neg c1] at H
    refine wp_iconst (z := 0) (v := 0) (by decide +kernel) (by decide) ?_
    refine wp_istore (i := 7) (lv' := [(7, .int 0), (0, .ref h), (2, .int x2), (3, .int x3), (4, .int x4), (5, .ref a5), (6, .int x6)]) (by decide +kernel) (by decide) rfl ?_
    exact wp_sub [1, 2, 3, 4, 5, 6, 0] rfl H
set_option maxRecDepth 20000 in
theorem b8_play_51 {X : XX} {G : GG} {I : Nat → Nat → Int32} {L : Nat → Nat → Int64} {h : Nat} {x2 : Int32} {x3 : Int32} {x4 : Int32} {a5 : Nat} {x6 : Int32} {x7 : Int32} {Q : Int32 → (Nat → Nat → Int32) → (Nat → Nat → Int64) → Prop} (ok : OK8 G h) (ok5 : OK7 G a5) (H : if ((1 : Int32) <<< (x6 &&& 31)) ≤ x7 then (wpI X B8_play 41 [(0, .ref h), (2, .int x2), (3, .int x3), (4, .int x4), (5, .ref a5), (6, .int (x6 + 1))] [] G I L Q) else (vp_in x2 6 ∧ (wpI X B8_feltBy 0 [(0, .int (I (h + 58) (cl x2))), (1, .int x7)] [] G I L (fun r4 I2 L3 => vp_in x3 6 ∧ (vp_in x3 6 ∧ (wpI X B8_isTold 0 [(0, .int r4), (1, .int (I2 (a5 + 4) (cl x3))), (2, .int (I2 (a5 + 5) (cl x3)))] [] G I2 L3 (fun r7 I5 L6 => if r7 = (0 : Int32) then (wpI X B8_play 51 [(0, .ref h), (2, .int x2), (3, .int x3), (4, .int x4), (5, .ref a5), (6, .int x6), (7, .int (x7 + 1))] [] G I5 L6 Q) else (if x4 = (0 : Int32) then (Q x6 I5 L6) else (Q x7 I5 L6))))))))) : wpI X B8_play 51 [(0, .ref h), (2, .int x2), (3, .int x3), (4, .int x4), (5, .ref a5), (6, .int x6), (7, .int x7)] [] G I L Q := by
  refine wp_iload (i := 7) (x := x7) 6 (by decide +kernel) rfl ?_
  refine wp_iconst (z := 1) (v := 1) (by decide +kernel) (by decide) ?_
  refine wp_iload (i := 6) (x := x6) 5 (by decide +kernel) rfl ?_
  refine wp_ishl (by decide +kernel) ?_
  refine wp_icmp_ge (off := 53) (tgt := 110) (by decide +kernel) (by decide) (fun c1 => ?_) (fun c1 => ?_)
  · rw [if_pos c1] at H
    refine wp_iinc (i := 6) (z := 1) (v := 1) (lv' := [(6, .int (x6 + 1)), (0, .ref h), (2, .int x2), (3, .int x3), (4, .int x4), (5, .ref a5), (7, .int x7)]) 5 (by decide +kernel) rfl (by decide) (by decide) rfl ?_
    refine wp_goto (off := -72) (tgt := 41) (by decide +kernel) (by decide) ?_
    exact wp_sub [1, 2, 3, 4, 5, 0] rfl H
  · rw [if_neg c1] at H
    refine wp_aload_n (z := 0) (i := 0) (r := (some h)) 0 (by decide +kernel) rfl rfl ?_
    refine wp_getS (idx := 48) (q := (h + 58)) (by decide +kernel) fl8_48 rfl ok.1 (okr8_6 ok) ?_
    refine wp_iload_n (z := 2) (i := 2) (x := x2) 1 (by decide +kernel) rfl rfl ?_
    obtain ⟨o12, H⟩ := H
    refine wp_iald (j := (cl x2)) (by decide +kernel) (oks8_6 ok) o12 rfl ?_
    refine wp_iload (i := 7) (x := x7) 6 (by decide +kernel) rfl ?_
    refine wp_callS (idx := 272) (B2 := B8_feltBy) (As := [.int (I (h + 58) (cl x2)), .int x7]) (st := []) (by decide +kernel) m8_feltBy ml8_272 k8_feltBy (⟨Nat.le_of_ble_eq_true rfl, Nat.le_of_ble_eq_true rfl⟩ : rOK B8_play B8_feltBy) rfl (Nat.le_of_ble_eq_true rfl) (Nat.le_of_ble_eq_true rfl) ⟨Nat.le_of_ble_eq_true rfl, Nat.le_of_ble_eq_true rfl⟩ rfl (wp_mono H (fun v9 M9 hq9 => ?_))
    clear H
    obtain ⟨r4, I2, L3, rfl, rfl, H⟩ := hq9
    show wp X B8_play 71 [(0, .ref h), (2, .int x2), (3, .int x3), (4, .int x4), (5, .ref a5), (6, .int x6), (7, .int x7)] [.int r4] (G, I2, L3) 0 0 _
    refine wp_aload (i := 5) (r := (some a5)) 4 (by decide +kernel) rfl ?_
    refine wp_getS (idx := 148) (q := (a5 + 4)) (by decide +kernel) fl8_148 rfl ok5.1 (okr7_8 ok5) ?_
    refine wp_iload_n (z := 3) (i := 3) (x := x3) 2 (by decide +kernel) rfl rfl ?_
    obtain ⟨o11, H⟩ := H
    refine wp_iald (j := (cl x3)) (by decide +kernel) (oks7_8 ok5) o11 rfl ?_
    refine wp_aload (i := 5) (r := (some a5)) 4 (by decide +kernel) rfl ?_
    refine wp_getS (idx := 145) (q := (a5 + 5)) (by decide +kernel) fl8_145 rfl ok5.1 (okr7_9 ok5) ?_
    refine wp_iload_n (z := 3) (i := 3) (x := x3) 2 (by decide +kernel) rfl rfl ?_
    obtain ⟨o10, H⟩ := H
    refine wp_iald (j := (cl x3)) (by decide +kernel) (oks7_9 ok5) o10 rfl ?_
    refine wp_callS (idx := 292) (B2 := B8_isTold) (As := [.int r4, .int (I2 (a5 + 4) (cl x3)), .int (I2 (a5 + 5) (cl x3))]) (st := []) (by decide +kernel) m8_isTold ml8_292 k8_isTold (⟨Nat.le_of_ble_eq_true rfl, Nat.le_of_ble_eq_true rfl⟩ : rOK B8_play B8_isTold) rfl (Nat.le_of_ble_eq_true rfl) (Nat.le_of_ble_eq_true rfl) ⟨Nat.le_of_ble_eq_true rfl, Nat.le_of_ble_eq_true rfl⟩ rfl (wp_mono H (fun v9 M9 hq9 => ?_))
    clear H
    obtain ⟨r7, I5, L6, rfl, rfl, H⟩ := hq9
    show wp X B8_play 88 [(0, .ref h), (2, .int x2), (3, .int x3), (4, .int x4), (5, .ref a5), (6, .int x6), (7, .int x7)] [.int r7] (G, I5, L6) 0 0 _
    refine wp_if_eq (off := 16) (tgt := 104) (by decide +kernel) (by decide) (fun c8 => ?_) (fun c8 => ?_)
    · rw [if_pos c8] at H
      refine wp_iinc (i := 7) (z := 1) (v := 1) (lv' := [(7, .int (x7 + 1)), (0, .ref h), (2, .int x2), (3, .int x3), (4, .int x4), (5, .ref a5), (6, .int x6)]) 6 (by decide +kernel) rfl (by decide) (by decide) rfl ?_
      refine wp_goto (off := -56) (tgt := 51) (by decide +kernel) (by decide) ?_
      exact wp_sub [1, 2, 3, 4, 5, 6, 0] rfl H
    · rw [if_neg c8] at H
      refine wp_iload (i := 4) (x := x4) 3 (by decide +kernel) rfl ?_
      refine wp_if_eq (off := 8) (tgt := 101) (by decide +kernel) (by decide) (fun c9 => ?_) (fun c9 => ?_)
      · rw [if_pos c9] at H
        refine wp_iload (i := 6) (x := x6) 5 (by decide +kernel) rfl ?_
        exact wp_iret (by decide +kernel) rfl (Nat.zero_le _) (Nat.zero_le _) ⟨_, _, _, rfl, rfl, H⟩
      · rw [if_neg c9] at H
        refine wp_iload (i := 7) (x := x7) 6 (by decide +kernel) rfl ?_
        refine wp_goto (off := 5) (tgt := 103) (by decide +kernel) (by decide) ?_
        exact wp_iret (by decide +kernel) rfl (Nat.zero_le _) (Nat.zero_le _) ⟨_, _, _, rfl, rfl, H⟩
/-! DeafWall.couplesTold(LDeafWall$Wall;I)I -/
set_option maxRecDepth 20000 in
theorem b8_couplesTold {X : XX} {G : GG} {I : Nat → Nat → Int32} {L : Nat → Nat → Int64} {h : Nat} {a1 : Nat} {x2 : Int32} {Q : Int32 → (Nat → Nat → Int32) → (Nat → Nat → Int64) → Prop} (ok : OK8 G h) (ok1 : OK7 G a1) (H : wpI X B8_couplesTold 5 [(0, .ref h), (1, .ref a1), (2, .int x2), (3, .int 0), (4, .int 0)] [] G I L Q) : wpI X B8_couplesTold 0 [(0, .ref h), (1, .ref a1), (2, .int x2)] [] G I L Q := by
  refine wp_iconst (z := 0) (v := 0) (by decide +kernel) (by decide) ?_
  refine wp_istore_n (z := 3) (i := 3) (lv' := [(3, .int 0), (0, .ref h), (1, .ref a1), (2, .int x2)]) (by decide +kernel) rfl (by decide) rfl ?_
  refine wp_iconst (z := 0) (v := 0) (by decide +kernel) (by decide) ?_
  refine wp_istore (i := 4) (lv' := [(4, .int 0), (3, .int 0), (0, .ref h), (1, .ref a1), (2, .int x2)]) (by decide +kernel) (by decide) rfl ?_
  exact wp_sub [2, 3, 4, 1, 0] rfl H
set_option maxRecDepth 20000 in
theorem b8_couplesTold_5 {X : XX} {G : GG} {I : Nat → Nat → Int32} {L : Nat → Nat → Int64} {h : Nat} {a1 : Nat} {x2 : Int32} {x3 : Int32} {x4 : Int32} {Q : Int32 → (Nat → Nat → Int32) → (Nat → Nat → Int64) → Prop} (ok : OK8 G h) (ok1 : OK7 G a1) (H : if (I a1 4) ≤ x4 then (Q x3 I L) else (vp_in x4 6 ∧ (wpI X B8_feltBy 0 [(0, .int (I (h + 58) (cl x4))), (1, .int x2)] [] G I L (fun r4 I2 L3 => wpI X B8_talesTold 0 [(0, .ref a1), (1, .int r4)] [] G I2 L3 (fun r7 I5 L6 => ∀ u8, u8 = (x3 + (v12_bitCount r7)) → wpI X B8_couplesTold 5 [(0, .ref h), (1, .ref a1), (2, .int x2), (3, .int u8), (4, .int (x4 + 1))] [] G I5 L6 Q))))) : wpI X B8_couplesTold 5 [(0, .ref h), (1, .ref a1), (2, .int x2), (3, .int x3), (4, .int x4)] [] G I L Q := by
  refine wp_iload (i := 4) (x := x4) 4 (by decide +kernel) rfl ?_
  refine wp_aload_n (z := 1) (i := 1) (r := (some a1)) 1 (by decide +kernel) rfl rfl ?_
  refine wp_getI (idx := 169) (by decide +kernel) fl8_169 rfl ok1.1 ?_
  refine wp_icmp_ge (off := 30) (tgt := 41) (by decide +kernel) (by decide) (fun c1 => ?_) (fun c1 => ?_)
  · rw [if_pos c1] at H
    refine wp_iload_n (z := 3) (i := 3) (x := x3) 3 (by decide +kernel) rfl rfl ?_
    exact wp_iret (by decide +kernel) rfl (Nat.zero_le _) (Nat.zero_le _) ⟨_, _, _, rfl, rfl, H⟩
  · rw [if_neg c1] at H
    refine wp_iload_n (z := 3) (i := 3) (x := x3) 3 (by decide +kernel) rfl rfl ?_
    refine wp_aload_n (z := 1) (i := 1) (r := (some a1)) 1 (by decide +kernel) rfl rfl ?_
    refine wp_aload_n (z := 0) (i := 0) (r := (some h)) 0 (by decide +kernel) rfl rfl ?_
    refine wp_getS (idx := 48) (q := (h + 58)) (by decide +kernel) fl8_48 rfl ok.1 (okr8_6 ok) ?_
    refine wp_iload (i := 4) (x := x4) 4 (by decide +kernel) rfl ?_
    obtain ⟨o10, H⟩ := H
    refine wp_iald (j := (cl x4)) (by decide +kernel) (oks8_6 ok) o10 rfl ?_
    refine wp_iload_n (z := 2) (i := 2) (x := x2) 2 (by decide +kernel) rfl rfl ?_
    refine wp_callS (idx := 272) (B2 := B8_feltBy) (As := [.int (I (h + 58) (cl x4)), .int x2]) (st := [.ref a1, .int x3]) (by decide +kernel) m8_feltBy ml8_272 k8_feltBy (⟨Nat.le_of_ble_eq_true rfl, Nat.le_of_ble_eq_true rfl⟩ : rOK B8_couplesTold B8_feltBy) rfl (Nat.le_of_ble_eq_true rfl) (Nat.le_of_ble_eq_true rfl) ⟨Nat.le_of_ble_eq_true rfl, Nat.le_of_ble_eq_true rfl⟩ rfl (wp_mono H (fun v9 M9 hq9 => ?_))
    clear H
    obtain ⟨r4, I2, L3, rfl, rfl, H⟩ := hq9
    show wp X B8_couplesTold 27 [(0, .ref h), (1, .ref a1), (2, .int x2), (3, .int x3), (4, .int x4)] [.int r4, .ref a1, .int x3] (G, I2, L3) 0 0 _
    refine wp_callS (idx := 275) (B2 := B8_talesTold) (As := [.ref a1, .int r4]) (st := [.int x3]) (by decide +kernel) m8_talesTold ml8_275 k8_talesTold (⟨Nat.le_of_ble_eq_true rfl, Nat.le_of_ble_eq_true rfl⟩ : rOK B8_couplesTold B8_talesTold) rfl (Nat.le_of_ble_eq_true rfl) (Nat.le_of_ble_eq_true rfl) ⟨Nat.le_of_ble_eq_true rfl, Nat.le_of_ble_eq_true rfl⟩ rfl (wp_mono H (fun v9 M9 hq9 => ?_))
    clear H
    obtain ⟨r7, I5, L6, rfl, rfl, H⟩ := hq9
    show wp X B8_couplesTold 30 [(0, .ref h), (1, .ref a1), (2, .int x2), (3, .int x3), (4, .int x4)] [.int r7, .int x3] (G, I5, L6) 0 0 _
    refine wp_callS (idx := 305) (B2 := B12_bitCount) (As := [.int r7]) (st := [.int x3]) (by decide +kernel) m12_bitCount ml8_305 k12_bitCount (⟨Nat.le_of_ble_eq_true rfl, Nat.le_of_ble_eq_true rfl⟩ : rOK B8_couplesTold B12_bitCount) rfl (Nat.le_of_ble_eq_true rfl) (Nat.le_of_ble_eq_true rfl) ⟨Nat.le_of_ble_eq_true rfl, Nat.le_of_ble_eq_true rfl⟩ rfl (wp_mono (b12_bitCount (Q := (fun r I' L' => r = (v12_bitCount r7) ∧ I5 = I' ∧ L6 = L'))  ⟨rfl, rfl, rfl⟩) (fun v9 M9 hq9 => ?_))
    obtain ⟨_, _, _, rfl, rfl, rfl, rfl, rfl⟩ := hq9
    show wp X B8_couplesTold 33 [(0, .ref h), (1, .ref a1), (2, .int x2), (3, .int x3), (4, .int x4)] [.int (v12_bitCount r7), .int x3] (G, I5, L6) 0 0 _
    refine wp_iadd (by decide +kernel) ?_
    refine wp_topi (fun u8 eu8 => ?_)
    replace H := H u8 eu8
    refine wp_istore_n (z := 3) (i := 3) (lv' := [(3, .int u8), (0, .ref h), (1, .ref a1), (2, .int x2), (4, .int x4)]) (by decide +kernel) rfl (by decide) rfl ?_
    refine wp_iinc (i := 4) (z := 1) (v := 1) (lv' := [(4, .int (x4 + 1)), (3, .int u8), (0, .ref h), (1, .ref a1), (2, .int x2)]) 4 (by decide +kernel) rfl (by decide) (by decide) rfl ?_
    refine wp_goto (off := -33) (tgt := 5) (by decide +kernel) (by decide) ?_
    exact wp_sub [2, 3, 4, 1, 0] rfl H
/-! DeafWall.beatsFeltByAll(LDeafWall$Wall;I)I -/
set_option maxRecDepth 20000 in
theorem b8_beatsFeltByAll {X : XX} {G : GG} {I : Nat → Nat → Int32} {L : Nat → Nat → Int64} {h : Nat} {a1 : Nat} {x2 : Int32} {Q : Int32 → (Nat → Nat → Int32) → (Nat → Nat → Int64) → Prop} (ok : OK8 G h) (ok1 : OK7 G a1) (H : wpI X B8_beatsFeltByAll 5 [(0, .ref h), (1, .ref a1), (2, .int x2), (3, .int 0), (4, .int 0)] [] G I L Q) : wpI X B8_beatsFeltByAll 0 [(0, .ref h), (1, .ref a1), (2, .int x2)] [] G I L Q := by
  refine wp_iconst (z := 0) (v := 0) (by decide +kernel) (by decide) ?_
  refine wp_istore_n (z := 3) (i := 3) (lv' := [(3, .int 0), (0, .ref h), (1, .ref a1), (2, .int x2)]) (by decide +kernel) rfl (by decide) rfl ?_
  refine wp_iconst (z := 0) (v := 0) (by decide +kernel) (by decide) ?_
  refine wp_istore (i := 4) (lv' := [(4, .int 0), (3, .int 0), (0, .ref h), (1, .ref a1), (2, .int x2)]) (by decide +kernel) (by decide) rfl ?_
  exact wp_sub [2, 3, 4, 1, 0] rfl H
set_option maxRecDepth 20000 in
theorem b8_beatsFeltByAll_5 {X : XX} {G : GG} {I : Nat → Nat → Int32} {L : Nat → Nat → Int64} {h : Nat} {a1 : Nat} {x2 : Int32} {x3 : Int32} {x4 : Int32} {Q : Int32 → (Nat → Nat → Int32) → (Nat → Nat → Int64) → Prop} (ok : OK8 G h) (ok1 : OK7 G a1) (H : if (I a1 4) ≤ x4 then (Q x3 I L) else (vp_in x4 6 ∧ (wpI X B8_feltBy 0 [(0, .int (I (h + 58) (cl x4))), (1, .int x2)] [] G I L (fun r4 I2 L3 => ∀ u5, u5 = (x3 + (v12_bitCount r4)) → wpI X B8_beatsFeltByAll 5 [(0, .ref h), (1, .ref a1), (2, .int x2), (3, .int u5), (4, .int (x4 + 1))] [] G I2 L3 Q)))) : wpI X B8_beatsFeltByAll 5 [(0, .ref h), (1, .ref a1), (2, .int x2), (3, .int x3), (4, .int x4)] [] G I L Q := by
  refine wp_iload (i := 4) (x := x4) 4 (by decide +kernel) rfl ?_
  refine wp_aload_n (z := 1) (i := 1) (r := (some a1)) 1 (by decide +kernel) rfl rfl ?_
  refine wp_getI (idx := 169) (by decide +kernel) fl8_169 rfl ok1.1 ?_
  refine wp_icmp_ge (off := 26) (tgt := 37) (by decide +kernel) (by decide) (fun c1 => ?_) (fun c1 => ?_)
  · rw [if_pos c1] at H
    refine wp_iload_n (z := 3) (i := 3) (x := x3) 3 (by decide +kernel) rfl rfl ?_
    exact wp_iret (by decide +kernel) rfl (Nat.zero_le _) (Nat.zero_le _) ⟨_, _, _, rfl, rfl, H⟩
  · rw [if_neg c1] at H
    refine wp_iload_n (z := 3) (i := 3) (x := x3) 3 (by decide +kernel) rfl rfl ?_
    refine wp_aload_n (z := 0) (i := 0) (r := (some h)) 0 (by decide +kernel) rfl rfl ?_
    refine wp_getS (idx := 48) (q := (h + 58)) (by decide +kernel) fl8_48 rfl ok.1 (okr8_6 ok) ?_
    refine wp_iload (i := 4) (x := x4) 4 (by decide +kernel) rfl ?_
    obtain ⟨o7, H⟩ := H
    refine wp_iald (j := (cl x4)) (by decide +kernel) (oks8_6 ok) o7 rfl ?_
    refine wp_iload_n (z := 2) (i := 2) (x := x2) 2 (by decide +kernel) rfl rfl ?_
    refine wp_callS (idx := 272) (B2 := B8_feltBy) (As := [.int (I (h + 58) (cl x4)), .int x2]) (st := [.int x3]) (by decide +kernel) m8_feltBy ml8_272 k8_feltBy (⟨Nat.le_of_ble_eq_true rfl, Nat.le_of_ble_eq_true rfl⟩ : rOK B8_beatsFeltByAll B8_feltBy) rfl (Nat.le_of_ble_eq_true rfl) (Nat.le_of_ble_eq_true rfl) ⟨Nat.le_of_ble_eq_true rfl, Nat.le_of_ble_eq_true rfl⟩ rfl (wp_mono H (fun v9 M9 hq9 => ?_))
    clear H
    obtain ⟨r4, I2, L3, rfl, rfl, H⟩ := hq9
    show wp X B8_beatsFeltByAll 26 [(0, .ref h), (1, .ref a1), (2, .int x2), (3, .int x3), (4, .int x4)] [.int r4, .int x3] (G, I2, L3) 0 0 _
    refine wp_callS (idx := 305) (B2 := B12_bitCount) (As := [.int r4]) (st := [.int x3]) (by decide +kernel) m12_bitCount ml8_305 k12_bitCount (⟨Nat.le_of_ble_eq_true rfl, Nat.le_of_ble_eq_true rfl⟩ : rOK B8_beatsFeltByAll B12_bitCount) rfl (Nat.le_of_ble_eq_true rfl) (Nat.le_of_ble_eq_true rfl) ⟨Nat.le_of_ble_eq_true rfl, Nat.le_of_ble_eq_true rfl⟩ rfl (wp_mono (b12_bitCount (Q := (fun r I' L' => r = (v12_bitCount r4) ∧ I2 = I' ∧ L3 = L'))  ⟨rfl, rfl, rfl⟩) (fun v9 M9 hq9 => ?_))
    obtain ⟨_, _, _, rfl, rfl, rfl, rfl, rfl⟩ := hq9
    show wp X B8_beatsFeltByAll 29 [(0, .ref h), (1, .ref a1), (2, .int x2), (3, .int x3), (4, .int x4)] [.int (v12_bitCount r4), .int x3] (G, I2, L3) 0 0 _
    refine wp_iadd (by decide +kernel) ?_
    refine wp_topi (fun u5 eu5 => ?_)
    replace H := H u5 eu5
    refine wp_istore_n (z := 3) (i := 3) (lv' := [(3, .int u5), (0, .ref h), (1, .ref a1), (2, .int x2), (4, .int x4)]) (by decide +kernel) rfl (by decide) rfl ?_
    refine wp_iinc (i := 4) (z := 1) (v := 1) (lv' := [(4, .int (x4 + 1)), (3, .int u5), (0, .ref h), (1, .ref a1), (2, .int x2)]) 4 (by decide +kernel) rfl (by decide) (by decide) rfl ?_
    refine wp_goto (off := -29) (tgt := 5) (by decide +kernel) (by decide) ?_
    exact wp_sub [2, 3, 4, 1, 0] rfl H
/-! DeafWall.best(LDeafWall$Wall;IZZ)I -/
set_option maxRecDepth 20000 in
theorem b8_best {X : XX} {G : GG} {I : Nat → Nat → Int32} {L : Nat → Nat → Int64} {h : Nat} {a1 : Nat} {x2 : Int32} {x3 : Int32} {x4 : Int32} {Q : Int32 → (Nat → Nat → Int32) → (Nat → Nat → Int64) → Prop} (ok : OK8 G h) (ok1 : OK7 G a1) (H : wpV X B8_listen 0 [(0, .ref h), (1, .ref a1)] [] G I L (fun I1 L2 => wpI X B8_best 14 [(0, .ref h), (1, .ref a1), (2, .int x2), (3, .int x3), (4, .int x4), (5, .int (-1)), (6, .int 0), (7, .int 0)] [] G I1 L2 Q)) : wpI X B8_best 0 [(0, .ref h), (1, .ref a1), (2, .int x2), (3, .int x3), (4, .int x4)] [] G I L Q := by
  refine wp_aload_n (z := 0) (i := 0) (r := (some h)) 0 (by decide +kernel) rfl rfl ?_
  refine wp_aload_n (z := 1) (i := 1) (r := (some a1)) 1 (by decide +kernel) rfl rfl ?_
  refine wp_callV (idx := 261) (B2 := B8_listen) (As := [.ref a1]) (a := h) (st := []) (by decide +kernel) m8_listen ml8_261 k8_listen e8_listen ck8 ok.1 (⟨Nat.le_of_ble_eq_true rfl, Nat.le_of_ble_eq_true rfl⟩ : rOK B8_best B8_listen) rfl (Nat.le_of_ble_eq_true rfl) (Nat.le_of_ble_eq_true rfl) ⟨Nat.le_of_ble_eq_true rfl, Nat.le_of_ble_eq_true rfl⟩ rfl (wp_mono H (fun v9 M9 hq9 => ?_))
  clear H
  obtain ⟨I1, L2, rfl, rfl, H⟩ := hq9
  show wp X B8_best 5 [(0, .ref h), (1, .ref a1), (2, .int x2), (3, .int x3), (4, .int x4)] [] (G, I1, L2) 0 0 _
  refine wp_iconst (z := -1) (v := (-1)) (by decide +kernel) (by decide) ?_
  refine wp_istore (i := 5) (lv' := [(5, .int (-1)), (0, .ref h), (1, .ref a1), (2, .int x2), (3, .int x3), (4, .int x4)]) (by decide +kernel) (by decide) rfl ?_
  refine wp_iconst (z := 0) (v := 0) (by decide +kernel) (by decide) ?_
  refine wp_istore (i := 6) (lv' := [(6, .int 0), (5, .int (-1)), (0, .ref h), (1, .ref a1), (2, .int x2), (3, .int x3), (4, .int x4)]) (by decide +kernel) (by decide) rfl ?_
  refine wp_iconst (z := 0) (v := 0) (by decide +kernel) (by decide) ?_
  refine wp_istore (i := 7) (lv' := [(7, .int 0), (6, .int 0), (5, .int (-1)), (0, .ref h), (1, .ref a1), (2, .int x2), (3, .int x3), (4, .int x4)]) (by decide +kernel) (by decide) rfl ?_
  exact wp_sub [3, 4, 5, 6, 7, 2, 1, 0] rfl H
set_option maxRecDepth 20000 in
theorem b8_best_14 {X : XX} {G : GG} {I : Nat → Nat → Int32} {L : Nat → Nat → Int64} {h : Nat} {a1 : Nat} {x2 : Int32} {x3 : Int32} {x4 : Int32} {x5 : Int32} {x6 : Int32} {x7 : Int32} {Q : Int32 → (Nat → Nat → Int32) → (Nat → Nat → Int64) → Prop} (ok : OK8 G h) (ok1 : OK7 G a1) (H : if ((1 : Int32) <<< (x2 &&& 31)) ≤ x7 then (if x4 = (0 : Int32) then (Q x5 I L) else (Q x6 I L)) else (if x3 = (0 : Int32) then (wpI X B8_beatsFeltByAll 0 [(0, .ref h), (1, .ref a1), (2, .int x7)] [] G I L (fun r6 I4 L5 => if r6 ≤ x5 then (wpI X B8_best 14 [(0, .ref h), (1, .ref a1), (2, .int x2), (3, .int x3), (4, .int x4), (5, .int x5), (6, .int x6), (7, .int (x7 + 1))] [] G I4 L5 Q) else (wpI X B8_best 14 [(0, .ref h), (1, .ref a1), (2, .int x2), (3, .int x3), (4, .int x4), (5, .int r6), (6, .int x7), (7, .int (x7 + 1))] [] G I4 L5 Q))) else (wpI X B8_couplesTold 0 [(0, .ref h), (1, .ref a1), (2, .int x7)] [] G I L (fun r10 I8 L9 => if r10 ≤ x5 then (wpI X B8_best 14 [(0, .ref h), (1, .ref a1), (2, .int x2), (3, .int x3), (4, .int x4), (5, .int x5), (6, .int x6), (7, .int (x7 + 1))] [] G I8 L9 Q) else (wpI X B8_best 14 [(0, .ref h), (1, .ref a1), (2, .int x2), (3, .int x3), (4, .int x4), (5, .int r10), (6, .int x7), (7, .int (x7 + 1))] [] G I8 L9 Q))))) : wpI X B8_best 14 [(0, .ref h), (1, .ref a1), (2, .int x2), (3, .int x3), (4, .int x4), (5, .int x5), (6, .int x6), (7, .int x7)] [] G I L Q := by
  refine wp_iload (i := 7) (x := x7) 7 (by decide +kernel) rfl ?_
  refine wp_iconst (z := 1) (v := 1) (by decide +kernel) (by decide) ?_
  refine wp_iload_n (z := 2) (i := 2) (x := x2) 2 (by decide +kernel) rfl rfl ?_
  refine wp_ishl (by decide +kernel) ?_
  refine wp_icmp_ge (off := 47) (tgt := 66) (by decide +kernel) (by decide) (fun c1 => ?_) (fun c1 => ?_)
  · rw [if_pos c1] at H
    refine wp_iload (i := 4) (x := x4) 4 (by decide +kernel) rfl ?_
    refine wp_if_eq (off := 8) (tgt := 76) (by decide +kernel) (by decide) (fun c2 => ?_) (fun c2 => ?_)
    · rw [if_pos c2] at H
      refine wp_iload (i := 5) (x := x5) 5 (by decide +kernel) rfl ?_
      exact wp_iret (by decide +kernel) rfl (Nat.zero_le _) (Nat.zero_le _) ⟨_, _, _, rfl, rfl, H⟩
    · rw [if_neg c2] at H
      refine wp_iload (i := 6) (x := x6) 6 (by decide +kernel) rfl ?_
      refine wp_goto (off := 5) (tgt := 78) (by decide +kernel) (by decide) ?_
      exact wp_iret (by decide +kernel) rfl (Nat.zero_le _) (Nat.zero_le _) ⟨_, _, _, rfl, rfl, H⟩
  · rw [if_neg c1] at H
    refine wp_iload_n (z := 3) (i := 3) (x := x3) 3 (by decide +kernel) rfl rfl ?_
    refine wp_if_eq (off := 13) (tgt := 36) (by decide +kernel) (by decide) (fun c3 => ?_) (fun c3 => ?_)
    · rw [if_pos c3] at H
      refine wp_aload_n (z := 0) (i := 0) (r := (some h)) 0 (by decide +kernel) rfl rfl ?_
      refine wp_aload_n (z := 1) (i := 1) (r := (some a1)) 1 (by decide +kernel) rfl rfl ?_
      refine wp_iload (i := 7) (x := x7) 7 (by decide +kernel) rfl ?_
      refine wp_callV (idx := 302) (B2 := B8_beatsFeltByAll) (As := [.ref a1, .int x7]) (a := h) (st := []) (by decide +kernel) m8_beatsFeltByAll ml8_302 k8_beatsFeltByAll e8_beatsFeltByAll ck8 ok.1 (⟨Nat.le_of_ble_eq_true rfl, Nat.le_of_ble_eq_true rfl⟩ : rOK B8_best B8_beatsFeltByAll) rfl (Nat.le_of_ble_eq_true rfl) (Nat.le_of_ble_eq_true rfl) ⟨Nat.le_of_ble_eq_true rfl, Nat.le_of_ble_eq_true rfl⟩ rfl (wp_mono H (fun v9 M9 hq9 => ?_))
      clear H
      obtain ⟨r6, I4, L5, rfl, rfl, H⟩ := hq9
      show wp X B8_best 43 [(0, .ref h), (1, .ref a1), (2, .int x2), (3, .int x3), (4, .int x4), (5, .int x5), (6, .int x6), (7, .int x7)] [.int r6] (G, I4, L5) 0 0 _
      refine wp_istore (i := 8) (lv' := [(8, .int r6), (0, .ref h), (1, .ref a1), (2, .int x2), (3, .int x3), (4, .int x4), (5, .int x5), (6, .int x6), (7, .int x7)]) (by decide +kernel) (by decide) rfl ?_
      refine wp_iload (i := 8) (x := r6) 0 (by decide +kernel) rfl ?_
      refine wp_iload (i := 5) (x := x5) 6 (by decide +kernel) rfl ?_
      refine wp_icmp_le (off := 11) (tgt := 60) (by decide +kernel) (by decide) (fun c7 => ?_) (fun c7 => ?_)
      · rw [if_pos c7] at H
        refine wp_iinc (i := 7) (z := 1) (v := 1) (lv' := [(7, .int (x7 + 1)), (8, .int r6), (0, .ref h), (1, .ref a1), (2, .int x2), (3, .int x3), (4, .int x4), (5, .int x5), (6, .int x6)]) 8 (by decide +kernel) rfl (by decide) (by decide) rfl ?_
        refine wp_goto (off := -49) (tgt := 14) (by decide +kernel) (by decide) ?_
        exact wp_sub [2, 3, 4, 5, 6, 7, 8, 0] rfl H
      · rw [if_neg c7] at H
        refine wp_iload (i := 8) (x := r6) 0 (by decide +kernel) rfl ?_
        refine wp_istore (i := 5) (lv' := [(5, .int r6), (8, .int r6), (0, .ref h), (1, .ref a1), (2, .int x2), (3, .int x3), (4, .int x4), (6, .int x6), (7, .int x7)]) (by decide +kernel) (by decide) rfl ?_
        refine wp_iload (i := 7) (x := x7) 8 (by decide +kernel) rfl ?_
        refine wp_istore (i := 6) (lv' := [(6, .int x7), (5, .int r6), (8, .int r6), (0, .ref h), (1, .ref a1), (2, .int x2), (3, .int x3), (4, .int x4), (7, .int x7)]) (by decide +kernel) (by decide) rfl ?_
        refine wp_iinc (i := 7) (z := 1) (v := 1) (lv' := [(7, .int (x7 + 1)), (6, .int x7), (5, .int r6), (8, .int r6), (0, .ref h), (1, .ref a1), (2, .int x2), (3, .int x3), (4, .int x4)]) 8 (by decide +kernel) rfl (by decide) (by decide) rfl ?_
        refine wp_goto (off := -49) (tgt := 14) (by decide +kernel) (by decide) ?_
        exact wp_sub [4, 5, 6, 7, 8, 2, 1, 0] rfl H
    · rw [if_neg c3] at H
      refine wp_aload_n (z := 0) (i := 0) (r := (some h)) 0 (by decide +kernel) rfl rfl ?_
      refine wp_aload_n (z := 1) (i := 1) (r := (some a1)) 1 (by decide +kernel) rfl rfl ?_
      refine wp_iload (i := 7) (x := x7) 7 (by decide +kernel) rfl ?_
      refine wp_callV (idx := 299) (B2 := B8_couplesTold) (As := [.ref a1, .int x7]) (a := h) (st := []) (by decide +kernel) m8_couplesTold ml8_299 k8_couplesTold e8_couplesTold ck8 ok.1 (⟨Nat.le_of_ble_eq_true rfl, Nat.le_of_ble_eq_true rfl⟩ : rOK B8_best B8_couplesTold) rfl (Nat.le_of_ble_eq_true rfl) (Nat.le_of_ble_eq_true rfl) ⟨Nat.le_of_ble_eq_true rfl, Nat.le_of_ble_eq_true rfl⟩ rfl (wp_mono H (fun v9 M9 hq9 => ?_))
      clear H
      obtain ⟨r10, I8, L9, rfl, rfl, H⟩ := hq9
      show wp X B8_best 33 [(0, .ref h), (1, .ref a1), (2, .int x2), (3, .int x3), (4, .int x4), (5, .int x5), (6, .int x6), (7, .int x7)] [.int r10] (G, I8, L9) 0 0 _
      refine wp_goto (off := 10) (tgt := 43) (by decide +kernel) (by decide) ?_
      refine wp_istore (i := 8) (lv' := [(8, .int r10), (0, .ref h), (1, .ref a1), (2, .int x2), (3, .int x3), (4, .int x4), (5, .int x5), (6, .int x6), (7, .int x7)]) (by decide +kernel) (by decide) rfl ?_
      refine wp_iload (i := 8) (x := r10) 0 (by decide +kernel) rfl ?_
      refine wp_iload (i := 5) (x := x5) 6 (by decide +kernel) rfl ?_
      refine wp_icmp_le (off := 11) (tgt := 60) (by decide +kernel) (by decide) (fun c11 => ?_) (fun c11 => ?_)
      · rw [if_pos c11] at H
        refine wp_iinc (i := 7) (z := 1) (v := 1) (lv' := [(7, .int (x7 + 1)), (8, .int r10), (0, .ref h), (1, .ref a1), (2, .int x2), (3, .int x3), (4, .int x4), (5, .int x5), (6, .int x6)]) 8 (by decide +kernel) rfl (by decide) (by decide) rfl ?_
        refine wp_goto (off := -49) (tgt := 14) (by decide +kernel) (by decide) ?_
        exact wp_sub [2, 3, 4, 5, 6, 7, 8, 0] rfl H
      · rw [if_neg c11] at H
        refine wp_iload (i := 8) (x := r10) 0 (by decide +kernel) rfl ?_
        refine wp_istore (i := 5) (lv' := [(5, .int r10), (8, .int r10), (0, .ref h), (1, .ref a1), (2, .int x2), (3, .int x3), (4, .int x4), (6, .int x6), (7, .int x7)]) (by decide +kernel) (by decide) rfl ?_
        refine wp_iload (i := 7) (x := x7) 8 (by decide +kernel) rfl ?_
        refine wp_istore (i := 6) (lv' := [(6, .int x7), (5, .int r10), (8, .int r10), (0, .ref h), (1, .ref a1), (2, .int x2), (3, .int x3), (4, .int x4), (7, .int x7)]) (by decide +kernel) (by decide) rfl ?_
        refine wp_iinc (i := 7) (z := 1) (v := 1) (lv' := [(7, .int (x7 + 1)), (6, .int x7), (5, .int r10), (8, .int r10), (0, .ref h), (1, .ref a1), (2, .int x2), (3, .int x3), (4, .int x4)]) 8 (by decide +kernel) rfl (by decide) (by decide) rfl ?_
        refine wp_goto (off := -49) (tgt := 14) (by decide +kernel) (by decide) ?_
        exact wp_sub [4, 5, 6, 7, 8, 2, 1, 0] rfl H
/-! DeafWall.most(IIZ)I -/
set_option maxRecDepth 20000 in
theorem b8_most {X : XX} {G : GG} {I : Nat → Nat → Int32} {L : Nat → Nat → Int64} {h : Nat} {x1 : Int32} {x2 : Int32} {x3 : Int32} {Q : Int32 → (Nat → Nat → Int32) → (Nat → Nat → Int64) → Prop} (ok : OK8 G h) (H : wpR X B8_wallAt 0 [(0, .ref h), (1, .int x1)] [] G I L (fun r3 I1 L2 => (r3 = none → Q (-1) I1 L2) ∧ (∀ q5, r3 = some q5 → if (v8_isLength x2) = (0 : Int32) then (Q (-1) I1 L2) else (wpI X B8_best 0 [(0, .ref h), (1, .ref q5), (2, .int x2), (3, .int 1), (4, .int x3)] [] G I1 L2 (fun r9 I7 L8 => Q r9 I7 L8))))) : wpI X B8_most 0 [(0, .ref h), (1, .int x1), (2, .int x2), (3, .int x3)] [] G I L Q := by
  refine wp_aload_n (z := 0) (i := 0) (r := (some h)) 0 (by decide +kernel) rfl rfl ?_
  refine wp_iload_n (z := 1) (i := 1) (x := x1) 1 (by decide +kernel) rfl rfl ?_
  refine wp_callV (idx := 129) (B2 := B8_wallAt) (As := [.int x1]) (a := h) (st := []) (by decide +kernel) m8_wallAt ml8_129 k8_wallAt e8_wallAt ck8 ok.1 (⟨Nat.le_of_ble_eq_true rfl, Nat.le_of_ble_eq_true rfl⟩ : rOK B8_most B8_wallAt) rfl (Nat.le_of_ble_eq_true rfl) (Nat.le_of_ble_eq_true rfl) ⟨Nat.le_of_ble_eq_true rfl, Nat.le_of_ble_eq_true rfl⟩ rfl (wp_mono H (fun v9 M9 hq9 => ?_))
  clear H
  obtain ⟨r3, I1, L2, rfl, rfl, H⟩ := hq9
  show wp X B8_most 5 [(0, .ref h), (1, .int x1), (2, .int x2), (3, .int x3)] [va_rf r3] (G, I1, L2) 0 0 _
  refine wp_astore (i := 4) (lv' := [(4, va_rf r3), (0, .ref h), (1, .int x1), (2, .int x2), (3, .int x3)]) (r := r3) (by decide +kernel) (by decide) (by cases r3 <;> rfl) ?_
  refine wp_aload (i := 4) (r := r3) 0 (by decide +kernel) rfl ?_
  refine wp_ifnull (off := 10) (tgt := 19) (r := r3) (by decide +kernel) (by decide) (fun c4 => ?_) (fun q5 c4 => ?_)
  · replace H := H.1 c4
    subst c4
    show wp X B8_most 19 [(4, .null), (0, .ref h), (1, .int x1), (2, .int x2), (3, .int x3)] [] (G, I1, L2) 0 0 _
    refine wp_iconst (z := -1) (v := (-1)) (by decide +kernel) (by decide) ?_
    exact wp_iret (by decide +kernel) rfl (Nat.zero_le _) (Nat.zero_le _) ⟨_, _, _, rfl, rfl, H⟩
  · replace H := H.2 q5 c4
    subst c4
    show wp X B8_most 12 [(4, .ref q5), (0, .ref h), (1, .int x1), (2, .int x2), (3, .int x3)] [] (G, I1, L2) 0 0 _
    refine wp_iload_n (z := 2) (i := 2) (x := x2) 3 (by decide +kernel) rfl rfl ?_
    refine wp_callS (idx := 278) (B2 := B8_isLength) (As := [.int x2]) (st := []) (by decide +kernel) m8_isLength ml8_278 k8_isLength (⟨Nat.le_of_ble_eq_true rfl, Nat.le_of_ble_eq_true rfl⟩ : rOK B8_most B8_isLength) rfl (Nat.le_of_ble_eq_true rfl) (Nat.le_of_ble_eq_true rfl) ⟨Nat.le_of_ble_eq_true rfl, Nat.le_of_ble_eq_true rfl⟩ rfl (wp_mono (b8_isLength (Q := (fun r I' L' => r = (v8_isLength x2) ∧ I1 = I' ∧ L2 = L'))  ⟨rfl, rfl, rfl⟩) (fun v9 M9 hq9 => ?_))
    obtain ⟨_, _, _, rfl, rfl, rfl, rfl, rfl⟩ := hq9
    show wp X B8_most 16 [(4, .ref q5), (0, .ref h), (1, .int x1), (2, .int x2), (3, .int x3)] [.int (v8_isLength x2)] (G, I1, L2) 0 0 _
    refine wp_if_ne (off := 5) (tgt := 21) (by decide +kernel) (by decide) (fun c6 => ?_) (fun c6 => ?_)
    · rw [if_neg c6] at H
      refine wp_aload_n (z := 0) (i := 0) (r := (some h)) 1 (by decide +kernel) rfl rfl ?_
      refine wp_aload (i := 4) (r := (some q5)) 0 (by decide +kernel) rfl ?_
      refine wp_iload_n (z := 2) (i := 2) (x := x2) 3 (by decide +kernel) rfl rfl ?_
      refine wp_iconst (z := 1) (v := 1) (by decide +kernel) (by decide) ?_
      refine wp_iload_n (z := 3) (i := 3) (x := x3) 4 (by decide +kernel) rfl rfl ?_
      refine wp_callV (idx := 295) (B2 := B8_best) (As := [.ref q5, .int x2, .int 1, .int x3]) (a := h) (st := []) (by decide +kernel) m8_best ml8_295 k8_best e8_best ck8 ok.1 (⟨Nat.le_of_ble_eq_true rfl, Nat.le_of_ble_eq_true rfl⟩ : rOK B8_most B8_best) rfl (Nat.le_of_ble_eq_true rfl) (Nat.le_of_ble_eq_true rfl) ⟨Nat.le_of_ble_eq_true rfl, Nat.le_of_ble_eq_true rfl⟩ rfl (wp_mono H (fun v9 M9 hq9 => ?_))
      clear H
      obtain ⟨r9, I7, L8, rfl, rfl, H⟩ := hq9
      show wp X B8_most 30 [(4, .ref q5), (0, .ref h), (1, .int x1), (2, .int x2), (3, .int x3)] [.int r9] (G, I7, L8) 0 0 _
      exact wp_iret (by decide +kernel) rfl (Nat.zero_le _) (Nat.zero_le _) ⟨_, _, _, rfl, rfl, H⟩
    · rw [if_pos c6] at H
      refine wp_iconst (z := -1) (v := (-1)) (by decide +kernel) (by decide) ?_
      exact wp_iret (by decide +kernel) rfl (Nat.zero_le _) (Nat.zero_le _) ⟨_, _, _, rfl, rfl, H⟩
/-! DeafWall.loud(IIZ)I -/
set_option maxRecDepth 20000 in
theorem b8_loud {X : XX} {G : GG} {I : Nat → Nat → Int32} {L : Nat → Nat → Int64} {h : Nat} {x1 : Int32} {x2 : Int32} {x3 : Int32} {Q : Int32 → (Nat → Nat → Int32) → (Nat → Nat → Int64) → Prop} (ok : OK8 G h) (H : wpR X B8_wallAt 0 [(0, .ref h), (1, .int x1)] [] G I L (fun r3 I1 L2 => (r3 = none → Q (-1) I1 L2) ∧ (∀ q5, r3 = some q5 → if (v8_isLength x2) = (0 : Int32) then (Q (-1) I1 L2) else (wpI X B8_best 0 [(0, .ref h), (1, .ref q5), (2, .int x2), (3, .int 0), (4, .int x3)] [] G I1 L2 (fun r9 I7 L8 => Q r9 I7 L8))))) : wpI X B8_loud 0 [(0, .ref h), (1, .int x1), (2, .int x2), (3, .int x3)] [] G I L Q := by
  refine wp_aload_n (z := 0) (i := 0) (r := (some h)) 0 (by decide +kernel) rfl rfl ?_
  refine wp_iload_n (z := 1) (i := 1) (x := x1) 1 (by decide +kernel) rfl rfl ?_
  refine wp_callV (idx := 129) (B2 := B8_wallAt) (As := [.int x1]) (a := h) (st := []) (by decide +kernel) m8_wallAt ml8_129 k8_wallAt e8_wallAt ck8 ok.1 (⟨Nat.le_of_ble_eq_true rfl, Nat.le_of_ble_eq_true rfl⟩ : rOK B8_loud B8_wallAt) rfl (Nat.le_of_ble_eq_true rfl) (Nat.le_of_ble_eq_true rfl) ⟨Nat.le_of_ble_eq_true rfl, Nat.le_of_ble_eq_true rfl⟩ rfl (wp_mono H (fun v9 M9 hq9 => ?_))
  clear H
  obtain ⟨r3, I1, L2, rfl, rfl, H⟩ := hq9
  show wp X B8_loud 5 [(0, .ref h), (1, .int x1), (2, .int x2), (3, .int x3)] [va_rf r3] (G, I1, L2) 0 0 _
  refine wp_astore (i := 4) (lv' := [(4, va_rf r3), (0, .ref h), (1, .int x1), (2, .int x2), (3, .int x3)]) (r := r3) (by decide +kernel) (by decide) (by cases r3 <;> rfl) ?_
  refine wp_aload (i := 4) (r := r3) 0 (by decide +kernel) rfl ?_
  refine wp_ifnull (off := 10) (tgt := 19) (r := r3) (by decide +kernel) (by decide) (fun c4 => ?_) (fun q5 c4 => ?_)
  · replace H := H.1 c4
    subst c4
    show wp X B8_loud 19 [(4, .null), (0, .ref h), (1, .int x1), (2, .int x2), (3, .int x3)] [] (G, I1, L2) 0 0 _
    refine wp_iconst (z := -1) (v := (-1)) (by decide +kernel) (by decide) ?_
    exact wp_iret (by decide +kernel) rfl (Nat.zero_le _) (Nat.zero_le _) ⟨_, _, _, rfl, rfl, H⟩
  · replace H := H.2 q5 c4
    subst c4
    show wp X B8_loud 12 [(4, .ref q5), (0, .ref h), (1, .int x1), (2, .int x2), (3, .int x3)] [] (G, I1, L2) 0 0 _
    refine wp_iload_n (z := 2) (i := 2) (x := x2) 3 (by decide +kernel) rfl rfl ?_
    refine wp_callS (idx := 278) (B2 := B8_isLength) (As := [.int x2]) (st := []) (by decide +kernel) m8_isLength ml8_278 k8_isLength (⟨Nat.le_of_ble_eq_true rfl, Nat.le_of_ble_eq_true rfl⟩ : rOK B8_loud B8_isLength) rfl (Nat.le_of_ble_eq_true rfl) (Nat.le_of_ble_eq_true rfl) ⟨Nat.le_of_ble_eq_true rfl, Nat.le_of_ble_eq_true rfl⟩ rfl (wp_mono (b8_isLength (Q := (fun r I' L' => r = (v8_isLength x2) ∧ I1 = I' ∧ L2 = L'))  ⟨rfl, rfl, rfl⟩) (fun v9 M9 hq9 => ?_))
    obtain ⟨_, _, _, rfl, rfl, rfl, rfl, rfl⟩ := hq9
    show wp X B8_loud 16 [(4, .ref q5), (0, .ref h), (1, .int x1), (2, .int x2), (3, .int x3)] [.int (v8_isLength x2)] (G, I1, L2) 0 0 _
    refine wp_if_ne (off := 5) (tgt := 21) (by decide +kernel) (by decide) (fun c6 => ?_) (fun c6 => ?_)
    · rw [if_neg c6] at H
      refine wp_aload_n (z := 0) (i := 0) (r := (some h)) 1 (by decide +kernel) rfl rfl ?_
      refine wp_aload (i := 4) (r := (some q5)) 0 (by decide +kernel) rfl ?_
      refine wp_iload_n (z := 2) (i := 2) (x := x2) 3 (by decide +kernel) rfl rfl ?_
      refine wp_iconst (z := 0) (v := 0) (by decide +kernel) (by decide) ?_
      refine wp_iload_n (z := 3) (i := 3) (x := x3) 4 (by decide +kernel) rfl rfl ?_
      refine wp_callV (idx := 295) (B2 := B8_best) (As := [.ref q5, .int x2, .int 0, .int x3]) (a := h) (st := []) (by decide +kernel) m8_best ml8_295 k8_best e8_best ck8 ok.1 (⟨Nat.le_of_ble_eq_true rfl, Nat.le_of_ble_eq_true rfl⟩ : rOK B8_loud B8_best) rfl (Nat.le_of_ble_eq_true rfl) (Nat.le_of_ble_eq_true rfl) ⟨Nat.le_of_ble_eq_true rfl, Nat.le_of_ble_eq_true rfl⟩ rfl (wp_mono H (fun v9 M9 hq9 => ?_))
      clear H
      obtain ⟨r9, I7, L8, rfl, rfl, H⟩ := hq9
      show wp X B8_loud 30 [(4, .ref q5), (0, .ref h), (1, .int x1), (2, .int x2), (3, .int x3)] [.int r9] (G, I7, L8) 0 0 _
      exact wp_iret (by decide +kernel) rfl (Nat.zero_le _) (Nat.zero_le _) ⟨_, _, _, rfl, rfl, H⟩
    · rw [if_pos c6] at H
      refine wp_iconst (z := -1) (v := (-1)) (by decide +kernel) (by decide) ?_
      exact wp_iret (by decide +kernel) rfl (Nat.zero_le _) (Nat.zero_le _) ⟨_, _, _, rfl, rfl, H⟩
/-! DeafWall.apart(IIII)I -/
set_option maxRecDepth 20000 in
theorem b8_apart {X : XX} {G : GG} {I : Nat → Nat → Int32} {L : Nat → Nat → Int64} {h : Nat} {x1 : Int32} {x2 : Int32} {x3 : Int32} {x4 : Int32} {Q : Int32 → (Nat → Nat → Int32) → (Nat → Nat → Int64) → Prop} (ok : OK8 G h) (H : wpR X B8_wallAt 0 [(0, .ref h), (1, .int x1)] [] G I L (fun r3 I1 L2 => (r3 = none → Q (-1) I1 L2) ∧ (∀ q5, r3 = some q5 → OK7 G q5 ∧ (if (v8_areTwo I1 q5 x2 x3) = (0 : Int32) then (Q (-1) I1 L2) else (if (v8_isLength x4) = (0 : Int32) then (Q (-1) I1 L2) else (wpV X B8_listen 0 [(0, .ref h), (1, .ref q5)] [] G I1 L2 (fun I9 L10 => wpI X B8_apart 44 [(0, .ref h), (2, .int x2), (3, .int x3), (4, .int x4), (6, .int 0), (7, .int 0)] [] G I9 L10 Q))))))) : wpI X B8_apart 0 [(0, .ref h), (1, .int x1), (2, .int x2), (3, .int x3), (4, .int x4)] [] G I L Q := by
  refine wp_aload_n (z := 0) (i := 0) (r := (some h)) 0 (by decide +kernel) rfl rfl ?_
  refine wp_iload_n (z := 1) (i := 1) (x := x1) 1 (by decide +kernel) rfl rfl ?_
  refine wp_callV (idx := 129) (B2 := B8_wallAt) (As := [.int x1]) (a := h) (st := []) (by decide +kernel) m8_wallAt ml8_129 k8_wallAt e8_wallAt ck8 ok.1 (⟨Nat.le_of_ble_eq_true rfl, Nat.le_of_ble_eq_true rfl⟩ : rOK B8_apart B8_wallAt) rfl (Nat.le_of_ble_eq_true rfl) (Nat.le_of_ble_eq_true rfl) ⟨Nat.le_of_ble_eq_true rfl, Nat.le_of_ble_eq_true rfl⟩ rfl (wp_mono H (fun v9 M9 hq9 => ?_))
  clear H
  obtain ⟨r3, I1, L2, rfl, rfl, H⟩ := hq9
  show wp X B8_apart 5 [(0, .ref h), (1, .int x1), (2, .int x2), (3, .int x3), (4, .int x4)] [va_rf r3] (G, I1, L2) 0 0 _
  refine wp_astore (i := 5) (lv' := [(5, va_rf r3), (0, .ref h), (1, .int x1), (2, .int x2), (3, .int x3), (4, .int x4)]) (r := r3) (by decide +kernel) (by decide) (by cases r3 <;> rfl) ?_
  refine wp_aload (i := 5) (r := r3) 0 (by decide +kernel) rfl ?_
  refine wp_ifnull (off := 21) (tgt := 30) (r := r3) (by decide +kernel) (by decide) (fun c4 => ?_) (fun q5 c4 => ?_)
  · replace H := H.1 c4
    subst c4
    show wp X B8_apart 30 [(5, .null), (0, .ref h), (1, .int x1), (2, .int x2), (3, .int x3), (4, .int x4)] [] (G, I1, L2) 0 0 _
    refine wp_iconst (z := -1) (v := (-1)) (by decide +kernel) (by decide) ?_
    exact wp_iret (by decide +kernel) rfl (Nat.zero_le _) (Nat.zero_le _) ⟨_, _, _, rfl, rfl, H⟩
  · replace H := H.2 q5 c4
    subst c4
    show wp X B8_apart 12 [(5, .ref q5), (0, .ref h), (1, .int x1), (2, .int x2), (3, .int x3), (4, .int x4)] [] (G, I1, L2) 0 0 _
    refine wp_aload (i := 5) (r := (some q5)) 0 (by decide +kernel) rfl ?_
    refine wp_iload_n (z := 2) (i := 2) (x := x2) 3 (by decide +kernel) rfl rfl ?_
    refine wp_iload_n (z := 3) (i := 3) (x := x3) 4 (by decide +kernel) rfl rfl ?_
    obtain ⟨f6, H⟩ := H
    refine wp_callS (idx := 310) (B2 := B8_areTwo) (As := [.ref q5, .int x2, .int x3]) (st := []) (by decide +kernel) m8_areTwo ml8_310 k8_areTwo (⟨Nat.le_of_ble_eq_true rfl, Nat.le_of_ble_eq_true rfl⟩ : rOK B8_apart B8_areTwo) rfl (Nat.le_of_ble_eq_true rfl) (Nat.le_of_ble_eq_true rfl) ⟨Nat.le_of_ble_eq_true rfl, Nat.le_of_ble_eq_true rfl⟩ rfl (wp_mono (b8_areTwo (Q := (fun r I' L' => r = (v8_areTwo I1 q5 x2 x3) ∧ I1 = I' ∧ L2 = L')) f6 ⟨rfl, rfl, rfl⟩) (fun v9 M9 hq9 => ?_))
    obtain ⟨_, _, _, rfl, rfl, rfl, rfl, rfl⟩ := hq9
    show wp X B8_apart 19 [(5, .ref q5), (0, .ref h), (1, .int x1), (2, .int x2), (3, .int x3), (4, .int x4)] [.int (v8_areTwo I1 q5 x2 x3)] (G, I1, L2) 0 0 _
    refine wp_if_eq (off := 11) (tgt := 30) (by decide +kernel) (by decide) (fun c7 => ?_) (fun c7 => ?_)
    · rw [if_pos c7] at H
      refine wp_iconst (z := -1) (v := (-1)) (by decide +kernel) (by decide) ?_
      exact wp_iret (by decide +kernel) rfl (Nat.zero_le _) (Nat.zero_le _) ⟨_, _, _, rfl, rfl, H⟩
    · rw [if_neg c7] at H
      refine wp_iload (i := 4) (x := x4) 5 (by decide +kernel) rfl ?_
      refine wp_callS (idx := 278) (B2 := B8_isLength) (As := [.int x4]) (st := []) (by decide +kernel) m8_isLength ml8_278 k8_isLength (⟨Nat.le_of_ble_eq_true rfl, Nat.le_of_ble_eq_true rfl⟩ : rOK B8_apart B8_isLength) rfl (Nat.le_of_ble_eq_true rfl) (Nat.le_of_ble_eq_true rfl) ⟨Nat.le_of_ble_eq_true rfl, Nat.le_of_ble_eq_true rfl⟩ rfl (wp_mono (b8_isLength (Q := (fun r I' L' => r = (v8_isLength x4) ∧ I1 = I' ∧ L2 = L'))  ⟨rfl, rfl, rfl⟩) (fun v9 M9 hq9 => ?_))
      obtain ⟨_, _, _, rfl, rfl, rfl, rfl, rfl⟩ := hq9
      show wp X B8_apart 27 [(5, .ref q5), (0, .ref h), (1, .int x1), (2, .int x2), (3, .int x3), (4, .int x4)] [.int (v8_isLength x4)] (G, I1, L2) 0 0 _
      refine wp_if_ne (off := 5) (tgt := 32) (by decide +kernel) (by decide) (fun c8 => ?_) (fun c8 => ?_)
      · rw [if_neg c8] at H
        refine wp_aload_n (z := 0) (i := 0) (r := (some h)) 1 (by decide +kernel) rfl rfl ?_
        refine wp_aload (i := 5) (r := (some q5)) 0 (by decide +kernel) rfl ?_
        refine wp_callV (idx := 261) (B2 := B8_listen) (As := [.ref q5]) (a := h) (st := []) (by decide +kernel) m8_listen ml8_261 k8_listen e8_listen ck8 ok.1 (⟨Nat.le_of_ble_eq_true rfl, Nat.le_of_ble_eq_true rfl⟩ : rOK B8_apart B8_listen) rfl (Nat.le_of_ble_eq_true rfl) (Nat.le_of_ble_eq_true rfl) ⟨Nat.le_of_ble_eq_true rfl, Nat.le_of_ble_eq_true rfl⟩ rfl (wp_mono H (fun v9 M9 hq9 => ?_))
        clear H
        obtain ⟨I9, L10, rfl, rfl, H⟩ := hq9
        show wp X B8_apart 38 [(5, .ref q5), (0, .ref h), (1, .int x1), (2, .int x2), (3, .int x3), (4, .int x4)] [] (G, I9, L10) 0 0 _
        refine wp_iconst (z := 0) (v := 0) (by decide +kernel) (by decide) ?_
        refine wp_istore (i := 6) (lv' := [(6, .int 0), (5, .ref q5), (0, .ref h), (1, .int x1), (2, .int x2), (3, .int x3), (4, .int x4)]) (by decide +kernel) (by decide) rfl ?_
        refine wp_iconst (z := 0) (v := 0) (by decide +kernel) (by decide) ?_
        refine wp_istore (i := 7) (lv' := [(7, .int 0), (6, .int 0), (5, .ref q5), (0, .ref h), (1, .int x1), (2, .int x2), (3, .int x3), (4, .int x4)]) (by decide +kernel) (by decide) rfl ?_
        exact wp_sub [3, 5, 6, 7, 1, 0] rfl H
      · rw [if_pos c8] at H
        refine wp_iconst (z := -1) (v := (-1)) (by decide +kernel) (by decide) ?_
        exact wp_iret (by decide +kernel) rfl (Nat.zero_le _) (Nat.zero_le _) ⟨_, _, _, rfl, rfl, H⟩
set_option maxRecDepth 20000 in
theorem b8_apart_44 {X : XX} {G : GG} {I : Nat → Nat → Int32} {L : Nat → Nat → Int64} {h : Nat} {x2 : Int32} {x3 : Int32} {x4 : Int32} {x6 : Int32} {x7 : Int32} {Q : Int32 → (Nat → Nat → Int32) → (Nat → Nat → Int64) → Prop} (ok : OK8 G h) (H : if ((1 : Int32) <<< (x4 &&& 31)) ≤ x7 then (Q x6 I L) else (vp_in x2 6 ∧ (wpI X B8_feltBy 0 [(0, .int (I (h + 58) (cl x2))), (1, .int x7)] [] G I L (fun r4 I2 L3 => vp_in x3 6 ∧ (wpI X B8_feltBy 0 [(0, .int (I2 (h + 58) (cl x3))), (1, .int x7)] [] G I2 L3 (fun r7 I5 L6 => if r4 = r7 then (wpI X B8_apart 44 [(0, .ref h), (2, .int x2), (3, .int x3), (4, .int x4), (6, .int x6), (7, .int (x7 + 1))] [] G I5 L6 Q) else (wpI X B8_apart 44 [(0, .ref h), (2, .int x2), (3, .int x3), (4, .int x4), (6, .int (x6 + 1)), (7, .int (x7 + 1))] [] G I5 L6 Q))))))) : wpI X B8_apart 44 [(0, .ref h), (2, .int x2), (3, .int x3), (4, .int x4), (6, .int x6), (7, .int x7)] [] G I L Q := by
  refine wp_iload (i := 7) (x := x7) 5 (by decide +kernel) rfl ?_
  refine wp_iconst (z := 1) (v := 1) (by decide +kernel) (by decide) ?_
  refine wp_iload (i := 4) (x := x4) 3 (by decide +kernel) rfl ?_
  refine wp_ishl (by decide +kernel) ?_
  refine wp_icmp_ge (off := 37) (tgt := 87) (by decide +kernel) (by decide) (fun c1 => ?_) (fun c1 => ?_)
  · rw [if_pos c1] at H
    refine wp_iload (i := 6) (x := x6) 4 (by decide +kernel) rfl ?_
    exact wp_iret (by decide +kernel) rfl (Nat.zero_le _) (Nat.zero_le _) ⟨_, _, _, rfl, rfl, H⟩
  · rw [if_neg c1] at H
    refine wp_aload_n (z := 0) (i := 0) (r := (some h)) 0 (by decide +kernel) rfl rfl ?_
    refine wp_getS (idx := 48) (q := (h + 58)) (by decide +kernel) fl8_48 rfl ok.1 (okr8_6 ok) ?_
    refine wp_iload_n (z := 2) (i := 2) (x := x2) 1 (by decide +kernel) rfl rfl ?_
    obtain ⟨o10, H⟩ := H
    refine wp_iald (j := (cl x2)) (by decide +kernel) (oks8_6 ok) o10 rfl ?_
    refine wp_iload (i := 7) (x := x7) 5 (by decide +kernel) rfl ?_
    refine wp_callS (idx := 272) (B2 := B8_feltBy) (As := [.int (I (h + 58) (cl x2)), .int x7]) (st := []) (by decide +kernel) m8_feltBy ml8_272 k8_feltBy (⟨Nat.le_of_ble_eq_true rfl, Nat.le_of_ble_eq_true rfl⟩ : rOK B8_apart B8_feltBy) rfl (Nat.le_of_ble_eq_true rfl) (Nat.le_of_ble_eq_true rfl) ⟨Nat.le_of_ble_eq_true rfl, Nat.le_of_ble_eq_true rfl⟩ rfl (wp_mono H (fun v9 M9 hq9 => ?_))
    clear H
    obtain ⟨r4, I2, L3, rfl, rfl, H⟩ := hq9
    show wp X B8_apart 64 [(0, .ref h), (2, .int x2), (3, .int x3), (4, .int x4), (6, .int x6), (7, .int x7)] [.int r4] (G, I2, L3) 0 0 _
    refine wp_aload_n (z := 0) (i := 0) (r := (some h)) 0 (by decide +kernel) rfl rfl ?_
    refine wp_getS (idx := 48) (q := (h + 58)) (by decide +kernel) fl8_48 rfl ok.1 (okr8_6 ok) ?_
    refine wp_iload_n (z := 3) (i := 3) (x := x3) 2 (by decide +kernel) rfl rfl ?_
    obtain ⟨o9, H⟩ := H
    refine wp_iald (j := (cl x3)) (by decide +kernel) (oks8_6 ok) o9 rfl ?_
    refine wp_iload (i := 7) (x := x7) 5 (by decide +kernel) rfl ?_
    refine wp_callS (idx := 272) (B2 := B8_feltBy) (As := [.int (I2 (h + 58) (cl x3)), .int x7]) (st := [.int r4]) (by decide +kernel) m8_feltBy ml8_272 k8_feltBy (⟨Nat.le_of_ble_eq_true rfl, Nat.le_of_ble_eq_true rfl⟩ : rOK B8_apart B8_feltBy) rfl (Nat.le_of_ble_eq_true rfl) (Nat.le_of_ble_eq_true rfl) ⟨Nat.le_of_ble_eq_true rfl, Nat.le_of_ble_eq_true rfl⟩ rfl (wp_mono H (fun v9 M9 hq9 => ?_))
    clear H
    obtain ⟨r7, I5, L6, rfl, rfl, H⟩ := hq9
    show wp X B8_apart 75 [(0, .ref h), (2, .int x2), (3, .int x3), (4, .int x4), (6, .int x6), (7, .int x7)] [.int r7, .int r4] (G, I5, L6) 0 0 _
    refine wp_icmp_eq (off := 6) (tgt := 81) (by decide +kernel) (by decide) (fun c8 => ?_) (fun c8 => ?_)
    · rw [if_pos c8] at H
      refine wp_iinc (i := 7) (z := 1) (v := 1) (lv' := [(7, .int (x7 + 1)), (0, .ref h), (2, .int x2), (3, .int x3), (4, .int x4), (6, .int x6)]) 5 (by decide +kernel) rfl (by decide) (by decide) rfl ?_
      refine wp_goto (off := -40) (tgt := 44) (by decide +kernel) (by decide) ?_
      exact wp_sub [1, 2, 3, 4, 5, 0] rfl H
    · rw [if_neg c8] at H
      refine wp_iinc (i := 6) (z := 1) (v := 1) (lv' := [(6, .int (x6 + 1)), (0, .ref h), (2, .int x2), (3, .int x3), (4, .int x4), (7, .int x7)]) 4 (by decide +kernel) rfl (by decide) (by decide) rfl ?_
      refine wp_iinc (i := 7) (z := 1) (v := 1) (lv' := [(7, .int (x7 + 1)), (6, .int (x6 + 1)), (0, .ref h), (2, .int x2), (3, .int x3), (4, .int x4)]) 5 (by decide +kernel) rfl (by decide) (by decide) rfl ?_
      refine wp_goto (off := -40) (tgt := 44) (by decide +kernel) (by decide) ?_
      exact wp_sub [2, 3, 4, 5, 1, 0] rfl H
/-! DeafWall.leastPush(LDeafWall$Wall;I)I -/
set_option maxRecDepth 20000 in
theorem b8_leastPush {X : XX} {G : GG} {I : Nat → Nat → Int32} {L : Nat → Nat → Int64} {h : Nat} {a1 : Nat} {x2 : Int32} {Q : Int32 → (Nat → Nat → Int32) → (Nat → Nat → Int64) → Prop} (ok : OK8 G h) (ok1 : OK7 G a1) (H : wpI X B8_leastPush 2 [(0, .ref h), (1, .ref a1), (2, .int x2), (3, .int 1)] [] G I L Q) : wpI X B8_leastPush 0 [(0, .ref h), (1, .ref a1), (2, .int x2)] [] G I L Q := by
  refine wp_iconst (z := 1) (v := 1) (by decide +kernel) (by decide) ?_
  refine wp_istore_n (z := 3) (i := 3) (lv' := [(3, .int 1), (0, .ref h), (1, .ref a1), (2, .int x2)]) (by decide +kernel) rfl (by decide) rfl ?_
  exact wp_sub [1, 2, 3, 0] rfl H
set_option maxRecDepth 20000 in
theorem b8_leastPush_2 {X : XX} {G : GG} {I : Nat → Nat → Int32} {L : Nat → Nat → Int64} {h : Nat} {a1 : Nat} {x2 : Int32} {x3 : Int32} {Q : Int32 → (Nat → Nat → Int32) → (Nat → Nat → Int64) → Prop} (ok : OK8 G h) (ok1 : OK7 G a1) (H : if 9 < x3 then (Q (-1) I L) else (vp_in x2 6 ∧ (vp_in x2 6 ∧ (wpI X B1_beatsFelt 0 [(0, .ref (h + 24)), (1, .int (I (a1 + 2) (cl x2))), (2, .int (I (a1 + 3) (cl x2))), (3, .int x3)] [] G I L (fun r4 I2 L3 => if r4 = (0 : Int32) then (wpI X B8_leastPush 2 [(0, .ref h), (1, .ref a1), (2, .int x2), (3, .int (x3 + 1))] [] G I2 L3 Q) else (Q x3 I2 L3)))))) : wpI X B8_leastPush 2 [(0, .ref h), (1, .ref a1), (2, .int x2), (3, .int x3)] [] G I L Q := by
  refine wp_iload_n (z := 3) (i := 3) (x := x3) 3 (by decide +kernel) rfl rfl ?_
  refine wp_bipush (z := 9) (v := 9) (by decide +kernel) (by decide) ?_
  refine wp_icmp_gt (off := 34) (tgt := 39) (by decide +kernel) (by decide) (fun c1 => ?_) (fun c1 => ?_)
  · rw [if_pos c1] at H
    refine wp_iconst (z := -1) (v := (-1)) (by decide +kernel) (by decide) ?_
    exact wp_iret (by decide +kernel) rfl (Nat.zero_le _) (Nat.zero_le _) ⟨_, _, _, rfl, rfl, H⟩
  · rw [if_neg c1] at H
    refine wp_aload_n (z := 0) (i := 0) (r := (some h)) 0 (by decide +kernel) rfl rfl ?_
    refine wp_getS (idx := 37) (q := (h + 24)) (by decide +kernel) fl8_37 rfl ok.1 (okr8_4 ok) ?_
    refine wp_aload_n (z := 1) (i := 1) (r := (some a1)) 1 (by decide +kernel) rfl rfl ?_
    refine wp_getS (idx := 157) (q := (a1 + 2)) (by decide +kernel) fl8_157 rfl ok1.1 (okr7_5 ok1) ?_
    refine wp_iload_n (z := 2) (i := 2) (x := x2) 2 (by decide +kernel) rfl rfl ?_
    obtain ⟨o7, H⟩ := H
    refine wp_iald (j := (cl x2)) (by decide +kernel) (oks7_5 ok1) o7 rfl ?_
    refine wp_aload_n (z := 1) (i := 1) (r := (some a1)) 1 (by decide +kernel) rfl rfl ?_
    refine wp_getS (idx := 154) (q := (a1 + 3)) (by decide +kernel) fl8_154 rfl ok1.1 (okr7_6 ok1) ?_
    refine wp_iload_n (z := 2) (i := 2) (x := x2) 2 (by decide +kernel) rfl rfl ?_
    obtain ⟨o6, H⟩ := H
    refine wp_iald (j := (cl x2)) (by decide +kernel) (oks7_6 ok1) o6 rfl ?_
    refine wp_iload_n (z := 3) (i := 3) (x := x3) 3 (by decide +kernel) rfl rfl ?_
    refine wp_callV (idx := 287) (B2 := B1_beatsFelt) (As := [.int (I (a1 + 2) (cl x2)), .int (I (a1 + 3) (cl x2)), .int x3]) (a := (h + 24)) (st := []) (by decide +kernel) m1_beatsFelt ml8_287 k1_beatsFelt e1_beatsFelt ck1 (oko8_4 ok).1 (⟨Nat.le_of_ble_eq_true rfl, Nat.le_of_ble_eq_true rfl⟩ : rOK B8_leastPush B1_beatsFelt) rfl (Nat.le_of_ble_eq_true rfl) (Nat.le_of_ble_eq_true rfl) ⟨Nat.le_of_ble_eq_true rfl, Nat.le_of_ble_eq_true rfl⟩ rfl (wp_mono H (fun v9 M9 hq9 => ?_))
    clear H
    obtain ⟨r4, I2, L3, rfl, rfl, H⟩ := hq9
    show wp X B8_leastPush 28 [(0, .ref h), (1, .ref a1), (2, .int x2), (3, .int x3)] [.int r4] (G, I2, L3) 0 0 _
    refine wp_if_eq (off := 5) (tgt := 33) (by decide +kernel) (by decide) (fun c5 => ?_) (fun c5 => ?_)
    · rw [if_pos c5] at H
      refine wp_iinc (i := 3) (z := 1) (v := 1) (lv' := [(3, .int (x3 + 1)), (0, .ref h), (1, .ref a1), (2, .int x2)]) 3 (by decide +kernel) rfl (by decide) (by decide) rfl ?_
      refine wp_goto (off := -34) (tgt := 2) (by decide +kernel) (by decide) ?_
      exact wp_sub [1, 2, 3, 0] rfl H
    · rw [if_neg c5] at H
      refine wp_iload_n (z := 3) (i := 3) (x := x3) 3 (by decide +kernel) rfl rfl ?_
      exact wp_iret (by decide +kernel) rfl (Nat.zero_le _) (Nat.zero_le _) ⟨_, _, _, rfl, rfl, H⟩
/-! DeafWall.reach(IIZ)I -/
set_option maxRecDepth 20000 in
theorem b8_reach {X : XX} {G : GG} {I : Nat → Nat → Int32} {L : Nat → Nat → Int64} {h : Nat} {x1 : Int32} {x2 : Int32} {x3 : Int32} {Q : Int32 → (Nat → Nat → Int32) → (Nat → Nat → Int64) → Prop} (ok : OK8 G h) (H : wpR X B8_wallAt 0 [(0, .ref h), (1, .int x1)] [] G I L (fun r3 I1 L2 => (r3 = none → Q (-1) I1 L2) ∧ (∀ q5, r3 = some q5 → OK7 G q5 ∧ (if (v7_hasFeeler I1 q5 x2) = (0 : Int32) then (Q (-1) I1 L2) else (wpV X B1_sound 0 [(0, .ref (h + 24)), (1, .ref q5)] [] G I1 L2 (fun I8 L9 => wpI X B8_leastPush 0 [(0, .ref h), (1, .ref q5), (2, .int x2)] [] G I8 L9 (fun r13 I11 L12 => if r13 = (-1) then (Q r13 I11 L12) else (if x3 = (0 : Int32) then (Q r13 I11 L12) else (vp_in x2 6 ∧ (vp_in x2 6 ∧ (wpI X B1_beatsFelt 0 [(0, .ref (h + 24)), (1, .int (I11 (q5 + 2) (cl x2))), (2, .int (I11 (q5 + 3) (cl x2))), (3, .int r13)] [] G I11 L12 (fun r18 I16 L17 => Q (v12_numberOfTrailingZeros r18) I16 L17)))))))))))) : wpI X B8_reach 0 [(0, .ref h), (1, .int x1), (2, .int x2), (3, .int x3)] [] G I L Q := by
  refine wp_aload_n (z := 0) (i := 0) (r := (some h)) 0 (by decide +kernel) rfl rfl ?_
  refine wp_iload_n (z := 1) (i := 1) (x := x1) 1 (by decide +kernel) rfl rfl ?_
  refine wp_callV (idx := 129) (B2 := B8_wallAt) (As := [.int x1]) (a := h) (st := []) (by decide +kernel) m8_wallAt ml8_129 k8_wallAt e8_wallAt ck8 ok.1 (⟨Nat.le_of_ble_eq_true rfl, Nat.le_of_ble_eq_true rfl⟩ : rOK B8_reach B8_wallAt) rfl (Nat.le_of_ble_eq_true rfl) (Nat.le_of_ble_eq_true rfl) ⟨Nat.le_of_ble_eq_true rfl, Nat.le_of_ble_eq_true rfl⟩ rfl (wp_mono H (fun v9 M9 hq9 => ?_))
  clear H
  obtain ⟨r3, I1, L2, rfl, rfl, H⟩ := hq9
  show wp X B8_reach 5 [(0, .ref h), (1, .int x1), (2, .int x2), (3, .int x3)] [va_rf r3] (G, I1, L2) 0 0 _
  refine wp_astore (i := 4) (lv' := [(4, va_rf r3), (0, .ref h), (1, .int x1), (2, .int x2), (3, .int x3)]) (r := r3) (by decide +kernel) (by decide) (by cases r3 <;> rfl) ?_
  refine wp_aload (i := 4) (r := r3) 0 (by decide +kernel) rfl ?_
  refine wp_ifnull (off := 12) (tgt := 21) (r := r3) (by decide +kernel) (by decide) (fun c4 => ?_) (fun q5 c4 => ?_)
  · replace H := H.1 c4
    subst c4
    show wp X B8_reach 21 [(4, .null), (0, .ref h), (1, .int x1), (2, .int x2), (3, .int x3)] [] (G, I1, L2) 0 0 _
    refine wp_iconst (z := -1) (v := (-1)) (by decide +kernel) (by decide) ?_
    exact wp_iret (by decide +kernel) rfl (Nat.zero_le _) (Nat.zero_le _) ⟨_, _, _, rfl, rfl, H⟩
  · replace H := H.2 q5 c4
    subst c4
    show wp X B8_reach 12 [(4, .ref q5), (0, .ref h), (1, .int x1), (2, .int x2), (3, .int x3)] [] (G, I1, L2) 0 0 _
    refine wp_aload (i := 4) (r := (some q5)) 0 (by decide +kernel) rfl ?_
    refine wp_iload_n (z := 2) (i := 2) (x := x2) 3 (by decide +kernel) rfl rfl ?_
    obtain ⟨f6, H⟩ := H
    refine wp_callV (idx := 151) (B2 := B7_hasFeeler) (As := [.int x2]) (a := q5) (st := []) (by decide +kernel) m7_hasFeeler ml8_151 k7_hasFeeler e7_hasFeeler ck7 f6.1 (⟨Nat.le_of_ble_eq_true rfl, Nat.le_of_ble_eq_true rfl⟩ : rOK B8_reach B7_hasFeeler) rfl (Nat.le_of_ble_eq_true rfl) (Nat.le_of_ble_eq_true rfl) ⟨Nat.le_of_ble_eq_true rfl, Nat.le_of_ble_eq_true rfl⟩ rfl (wp_mono (b7_hasFeeler (Q := (fun r I' L' => r = (v7_hasFeeler I1 q5 x2) ∧ I1 = I' ∧ L2 = L')) f6 ⟨rfl, rfl, rfl⟩) (fun v9 M9 hq9 => ?_))
    obtain ⟨_, _, _, rfl, rfl, rfl, rfl, rfl⟩ := hq9
    show wp X B8_reach 18 [(4, .ref q5), (0, .ref h), (1, .int x1), (2, .int x2), (3, .int x3)] [.int (v7_hasFeeler I1 q5 x2)] (G, I1, L2) 0 0 _
    refine wp_if_ne (off := 5) (tgt := 23) (by decide +kernel) (by decide) (fun c7 => ?_) (fun c7 => ?_)
    · rw [if_neg c7] at H
      refine wp_aload_n (z := 0) (i := 0) (r := (some h)) 1 (by decide +kernel) rfl rfl ?_
      refine wp_getS (idx := 37) (q := (h + 24)) (by decide +kernel) fl8_37 rfl ok.1 (okr8_4 ok) ?_
      refine wp_aload (i := 4) (r := (some q5)) 0 (by decide +kernel) rfl ?_
      refine wp_callV (idx := 281) (B2 := B1_sound) (As := [.ref q5]) (a := (h + 24)) (st := []) (by decide +kernel) m1_sound ml8_281 k1_sound e1_sound ck1 (oko8_4 ok).1 (⟨Nat.le_of_ble_eq_true rfl, Nat.le_of_ble_eq_true rfl⟩ : rOK B8_reach B1_sound) rfl (Nat.le_of_ble_eq_true rfl) (Nat.le_of_ble_eq_true rfl) ⟨Nat.le_of_ble_eq_true rfl, Nat.le_of_ble_eq_true rfl⟩ rfl (wp_mono H (fun v9 M9 hq9 => ?_))
      clear H
      obtain ⟨I8, L9, rfl, rfl, H⟩ := hq9
      show wp X B8_reach 32 [(4, .ref q5), (0, .ref h), (1, .int x1), (2, .int x2), (3, .int x3)] [] (G, I8, L9) 0 0 _
      refine wp_aload_n (z := 0) (i := 0) (r := (some h)) 1 (by decide +kernel) rfl rfl ?_
      refine wp_aload (i := 4) (r := (some q5)) 0 (by decide +kernel) rfl ?_
      refine wp_iload_n (z := 2) (i := 2) (x := x2) 3 (by decide +kernel) rfl rfl ?_
      refine wp_callV (idx := 314) (B2 := B8_leastPush) (As := [.ref q5, .int x2]) (a := h) (st := []) (by decide +kernel) m8_leastPush ml8_314 k8_leastPush e8_leastPush ck8 ok.1 (⟨Nat.le_of_ble_eq_true rfl, Nat.le_of_ble_eq_true rfl⟩ : rOK B8_reach B8_leastPush) rfl (Nat.le_of_ble_eq_true rfl) (Nat.le_of_ble_eq_true rfl) ⟨Nat.le_of_ble_eq_true rfl, Nat.le_of_ble_eq_true rfl⟩ rfl (wp_mono H (fun v9 M9 hq9 => ?_))
      clear H
      obtain ⟨r13, I11, L12, rfl, rfl, H⟩ := hq9
      show wp X B8_reach 39 [(4, .ref q5), (0, .ref h), (1, .int x1), (2, .int x2), (3, .int x3)] [.int r13] (G, I11, L12) 0 0 _
      refine wp_istore (i := 5) (lv' := [(5, .int r13), (4, .ref q5), (0, .ref h), (1, .int x1), (2, .int x2), (3, .int x3)]) (by decide +kernel) (by decide) rfl ?_
      refine wp_iload (i := 5) (x := r13) 0 (by decide +kernel) rfl ?_
      refine wp_iconst (z := -1) (v := (-1)) (by decide +kernel) (by decide) ?_
      refine wp_icmp_eq (off := 7) (tgt := 51) (by decide +kernel) (by decide) (fun c14 => ?_) (fun c14 => ?_)
      · rw [if_pos c14] at H
        refine wp_iload (i := 5) (x := r13) 0 (by decide +kernel) rfl ?_
        exact wp_iret (by decide +kernel) rfl (Nat.zero_le _) (Nat.zero_le _) ⟨_, _, _, rfl, rfl, H⟩
      · rw [if_neg c14] at H
        refine wp_iload_n (z := 3) (i := 3) (x := x3) 5 (by decide +kernel) rfl rfl ?_
        refine wp_if_ne (off := 6) (tgt := 54) (by decide +kernel) (by decide) (fun c15 => ?_) (fun c15 => ?_)
        · rw [if_neg c15] at H
          refine wp_aload_n (z := 0) (i := 0) (r := (some h)) 2 (by decide +kernel) rfl rfl ?_
          refine wp_getS (idx := 37) (q := (h + 24)) (by decide +kernel) fl8_37 rfl ok.1 (okr8_4 ok) ?_
          refine wp_aload (i := 4) (r := (some q5)) 1 (by decide +kernel) rfl ?_
          refine wp_getS (idx := 157) (q := (q5 + 2)) (by decide +kernel) fl8_157 rfl f6.1 (okr7_5 f6) ?_
          refine wp_iload_n (z := 2) (i := 2) (x := x2) 4 (by decide +kernel) rfl rfl ?_
          obtain ⟨o21, H⟩ := H
          refine wp_iald (j := (cl x2)) (by decide +kernel) (oks7_5 f6) o21 rfl ?_
          refine wp_aload (i := 4) (r := (some q5)) 1 (by decide +kernel) rfl ?_
          refine wp_getS (idx := 154) (q := (q5 + 3)) (by decide +kernel) fl8_154 rfl f6.1 (okr7_6 f6) ?_
          refine wp_iload_n (z := 2) (i := 2) (x := x2) 4 (by decide +kernel) rfl rfl ?_
          obtain ⟨o20, H⟩ := H
          refine wp_iald (j := (cl x2)) (by decide +kernel) (oks7_6 f6) o20 rfl ?_
          refine wp_iload (i := 5) (x := r13) 0 (by decide +kernel) rfl ?_
          refine wp_callV (idx := 287) (B2 := B1_beatsFelt) (As := [.int (I11 (q5 + 2) (cl x2)), .int (I11 (q5 + 3) (cl x2)), .int r13]) (a := (h + 24)) (st := []) (by decide +kernel) m1_beatsFelt ml8_287 k1_beatsFelt e1_beatsFelt ck1 (oko8_4 ok).1 (⟨Nat.le_of_ble_eq_true rfl, Nat.le_of_ble_eq_true rfl⟩ : rOK B8_reach B1_beatsFelt) rfl (Nat.le_of_ble_eq_true rfl) (Nat.le_of_ble_eq_true rfl) ⟨Nat.le_of_ble_eq_true rfl, Nat.le_of_ble_eq_true rfl⟩ rfl (wp_mono H (fun v9 M9 hq9 => ?_))
          clear H
          obtain ⟨r18, I16, L17, rfl, rfl, H⟩ := hq9
          show wp X B8_reach 77 [(5, .int r13), (4, .ref q5), (0, .ref h), (1, .int x1), (2, .int x2), (3, .int x3)] [.int r18] (G, I16, L17) 0 0 _
          refine wp_callS (idx := 317) (B2 := B12_numberOfTrailingZeros) (As := [.int r18]) (st := []) (by decide +kernel) m12_numberOfTrailingZeros ml8_317 k12_numberOfTrailingZeros (⟨Nat.le_of_ble_eq_true rfl, Nat.le_of_ble_eq_true rfl⟩ : rOK B8_reach B12_numberOfTrailingZeros) rfl (Nat.le_of_ble_eq_true rfl) (Nat.le_of_ble_eq_true rfl) ⟨Nat.le_of_ble_eq_true rfl, Nat.le_of_ble_eq_true rfl⟩ rfl (wp_mono (b12_numberOfTrailingZeros (Q := (fun r I' L' => r = (v12_numberOfTrailingZeros r18) ∧ I16 = I' ∧ L17 = L'))  ⟨rfl, rfl, rfl⟩) (fun v9 M9 hq9 => ?_))
          obtain ⟨_, _, _, rfl, rfl, rfl, rfl, rfl⟩ := hq9
          show wp X B8_reach 80 [(5, .int r13), (4, .ref q5), (0, .ref h), (1, .int x1), (2, .int x2), (3, .int x3)] [.int (v12_numberOfTrailingZeros r18)] (G, I16, L17) 0 0 _
          exact wp_iret (by decide +kernel) rfl (Nat.zero_le _) (Nat.zero_le _) ⟨_, _, _, rfl, rfl, H⟩
        · rw [if_pos c15] at H
          refine wp_iload (i := 5) (x := r13) 0 (by decide +kernel) rfl ?_
          exact wp_iret (by decide +kernel) rfl (Nat.zero_le _) (Nat.zero_le _) ⟨_, _, _, rfl, rfl, H⟩
    · rw [if_pos c7] at H
      refine wp_iconst (z := -1) (v := (-1)) (by decide +kernel) (by decide) ?_
      exact wp_iret (by decide +kernel) rfl (Nat.zero_le _) (Nat.zero_le _) ⟨_, _, _, rfl, rfl, H⟩
/-! DeafWall.keys(IIZ)I -/
set_option maxRecDepth 20000 in
theorem b8_keys {X : XX} {G : GG} {I : Nat → Nat → Int32} {L : Nat → Nat → Int64} {h : Nat} {x1 : Int32} {x2 : Int32} {x3 : Int32} {Q : Int32 → (Nat → Nat → Int32) → (Nat → Nat → Int64) → Prop} (ok : OK8 G h) (H : wpR X B8_wallAt 0 [(0, .ref h), (1, .int x1)] [] G I L (fun r3 I1 L2 => (r3 = none → Q (-2) I1 L2) ∧ (∀ q5, r3 = some q5 → OK7 G q5 ∧ (if (v7_hasFeeler I1 q5 x2) = (0 : Int32) then (Q (-2) I1 L2) else (wpV X B1_sound 0 [(0, .ref (h + 24)), (1, .ref q5)] [] G I1 L2 (fun I8 L9 => wpI X B8_leastPush 0 [(0, .ref h), (1, .ref q5), (2, .int x2)] [] G I8 L9 (fun r13 I11 L12 => if r13 = (-1) then (Q (-2) I11 L12) else (wpI X B8_keys 53 [(0, .ref h), (2, .int x2), (3, .int x3), (4, .ref q5), (5, .int 0), (6, .int 0)] [] G I11 L12 Q)))))))) : wpI X B8_keys 0 [(0, .ref h), (1, .int x1), (2, .int x2), (3, .int x3)] [] G I L Q := by
  refine wp_aload_n (z := 0) (i := 0) (r := (some h)) 0 (by decide +kernel) rfl rfl ?_
  refine wp_iload_n (z := 1) (i := 1) (x := x1) 1 (by decide +kernel) rfl rfl ?_
  refine wp_callV (idx := 129) (B2 := B8_wallAt) (As := [.int x1]) (a := h) (st := []) (by decide +kernel) m8_wallAt ml8_129 k8_wallAt e8_wallAt ck8 ok.1 (⟨Nat.le_of_ble_eq_true rfl, Nat.le_of_ble_eq_true rfl⟩ : rOK B8_keys B8_wallAt) rfl (Nat.le_of_ble_eq_true rfl) (Nat.le_of_ble_eq_true rfl) ⟨Nat.le_of_ble_eq_true rfl, Nat.le_of_ble_eq_true rfl⟩ rfl (wp_mono H (fun v9 M9 hq9 => ?_))
  clear H
  obtain ⟨r3, I1, L2, rfl, rfl, H⟩ := hq9
  show wp X B8_keys 5 [(0, .ref h), (1, .int x1), (2, .int x2), (3, .int x3)] [va_rf r3] (G, I1, L2) 0 0 _
  refine wp_astore (i := 4) (lv' := [(4, va_rf r3), (0, .ref h), (1, .int x1), (2, .int x2), (3, .int x3)]) (r := r3) (by decide +kernel) (by decide) (by cases r3 <;> rfl) ?_
  refine wp_aload (i := 4) (r := r3) 0 (by decide +kernel) rfl ?_
  refine wp_ifnull (off := 12) (tgt := 21) (r := r3) (by decide +kernel) (by decide) (fun c4 => ?_) (fun q5 c4 => ?_)
  · replace H := H.1 c4
    subst c4
    show wp X B8_keys 21 [(4, .null), (0, .ref h), (1, .int x1), (2, .int x2), (3, .int x3)] [] (G, I1, L2) 0 0 _
    refine wp_bipush (z := -2) (v := (-2)) (by decide +kernel) (by decide) ?_
    exact wp_iret (by decide +kernel) rfl (Nat.zero_le _) (Nat.zero_le _) ⟨_, _, _, rfl, rfl, H⟩
  · replace H := H.2 q5 c4
    subst c4
    show wp X B8_keys 12 [(4, .ref q5), (0, .ref h), (1, .int x1), (2, .int x2), (3, .int x3)] [] (G, I1, L2) 0 0 _
    refine wp_aload (i := 4) (r := (some q5)) 0 (by decide +kernel) rfl ?_
    refine wp_iload_n (z := 2) (i := 2) (x := x2) 3 (by decide +kernel) rfl rfl ?_
    obtain ⟨f6, H⟩ := H
    refine wp_callV (idx := 151) (B2 := B7_hasFeeler) (As := [.int x2]) (a := q5) (st := []) (by decide +kernel) m7_hasFeeler ml8_151 k7_hasFeeler e7_hasFeeler ck7 f6.1 (⟨Nat.le_of_ble_eq_true rfl, Nat.le_of_ble_eq_true rfl⟩ : rOK B8_keys B7_hasFeeler) rfl (Nat.le_of_ble_eq_true rfl) (Nat.le_of_ble_eq_true rfl) ⟨Nat.le_of_ble_eq_true rfl, Nat.le_of_ble_eq_true rfl⟩ rfl (wp_mono (b7_hasFeeler (Q := (fun r I' L' => r = (v7_hasFeeler I1 q5 x2) ∧ I1 = I' ∧ L2 = L')) f6 ⟨rfl, rfl, rfl⟩) (fun v9 M9 hq9 => ?_))
    obtain ⟨_, _, _, rfl, rfl, rfl, rfl, rfl⟩ := hq9
    show wp X B8_keys 18 [(4, .ref q5), (0, .ref h), (1, .int x1), (2, .int x2), (3, .int x3)] [.int (v7_hasFeeler I1 q5 x2)] (G, I1, L2) 0 0 _
    refine wp_if_ne (off := 6) (tgt := 24) (by decide +kernel) (by decide) (fun c7 => ?_) (fun c7 => ?_)
    · rw [if_neg c7] at H
      refine wp_aload_n (z := 0) (i := 0) (r := (some h)) 1 (by decide +kernel) rfl rfl ?_
      refine wp_getS (idx := 37) (q := (h + 24)) (by decide +kernel) fl8_37 rfl ok.1 (okr8_4 ok) ?_
      refine wp_aload (i := 4) (r := (some q5)) 0 (by decide +kernel) rfl ?_
      refine wp_callV (idx := 281) (B2 := B1_sound) (As := [.ref q5]) (a := (h + 24)) (st := []) (by decide +kernel) m1_sound ml8_281 k1_sound e1_sound ck1 (oko8_4 ok).1 (⟨Nat.le_of_ble_eq_true rfl, Nat.le_of_ble_eq_true rfl⟩ : rOK B8_keys B1_sound) rfl (Nat.le_of_ble_eq_true rfl) (Nat.le_of_ble_eq_true rfl) ⟨Nat.le_of_ble_eq_true rfl, Nat.le_of_ble_eq_true rfl⟩ rfl (wp_mono H (fun v9 M9 hq9 => ?_))
      clear H
      obtain ⟨I8, L9, rfl, rfl, H⟩ := hq9
      show wp X B8_keys 33 [(4, .ref q5), (0, .ref h), (1, .int x1), (2, .int x2), (3, .int x3)] [] (G, I8, L9) 0 0 _
      refine wp_aload_n (z := 0) (i := 0) (r := (some h)) 1 (by decide +kernel) rfl rfl ?_
      refine wp_aload (i := 4) (r := (some q5)) 0 (by decide +kernel) rfl ?_
      refine wp_iload_n (z := 2) (i := 2) (x := x2) 3 (by decide +kernel) rfl rfl ?_
      refine wp_callV (idx := 314) (B2 := B8_leastPush) (As := [.ref q5, .int x2]) (a := h) (st := []) (by decide +kernel) m8_leastPush ml8_314 k8_leastPush e8_leastPush ck8 ok.1 (⟨Nat.le_of_ble_eq_true rfl, Nat.le_of_ble_eq_true rfl⟩ : rOK B8_keys B8_leastPush) rfl (Nat.le_of_ble_eq_true rfl) (Nat.le_of_ble_eq_true rfl) ⟨Nat.le_of_ble_eq_true rfl, Nat.le_of_ble_eq_true rfl⟩ rfl (wp_mono H (fun v9 M9 hq9 => ?_))
      clear H
      obtain ⟨r13, I11, L12, rfl, rfl, H⟩ := hq9
      show wp X B8_keys 40 [(4, .ref q5), (0, .ref h), (1, .int x1), (2, .int x2), (3, .int x3)] [.int r13] (G, I11, L12) 0 0 _
      refine wp_iconst (z := -1) (v := (-1)) (by decide +kernel) (by decide) ?_
      refine wp_icmp_ne (off := 6) (tgt := 47) (by decide +kernel) (by decide) (fun c14 => ?_) (fun c14 => ?_)
      · rw [if_neg c14] at H
        refine wp_iconst (z := 0) (v := 0) (by decide +kernel) (by decide) ?_
        refine wp_istore (i := 5) (lv' := [(5, .int 0), (4, .ref q5), (0, .ref h), (1, .int x1), (2, .int x2), (3, .int x3)]) (by decide +kernel) (by decide) rfl ?_
        refine wp_iconst (z := 0) (v := 0) (by decide +kernel) (by decide) ?_
        refine wp_istore (i := 6) (lv' := [(6, .int 0), (5, .int 0), (4, .ref q5), (0, .ref h), (1, .int x1), (2, .int x2), (3, .int x3)]) (by decide +kernel) (by decide) rfl ?_
        exact wp_sub [3, 5, 6, 2, 1, 0] rfl H
      · rw [if_pos c14] at H
        refine wp_bipush (z := -2) (v := (-2)) (by decide +kernel) (by decide) ?_
        exact wp_iret (by decide +kernel) rfl (Nat.zero_le _) (Nat.zero_le _) ⟨_, _, _, rfl, rfl, H⟩
    · rw [if_pos c7] at H
      refine wp_bipush (z := -2) (v := (-2)) (by decide +kernel) (by decide) ?_
      exact wp_iret (by decide +kernel) rfl (Nat.zero_le _) (Nat.zero_le _) ⟨_, _, _, rfl, rfl, H⟩
set_option maxRecDepth 20000 in
theorem b8_keys_53 {X : XX} {G : GG} {I : Nat → Nat → Int32} {L : Nat → Nat → Int64} {h : Nat} {x2 : Int32} {x3 : Int32} {a4 : Nat} {x5 : Int32} {x6 : Int32} {Q : Int32 → (Nat → Nat → Int32) → (Nat → Nat → Int64) → Prop} (ok : OK8 G h) (ok4 : OK7 G a4) (H : if (v7_cells I a4) ≤ x6 then (if x3 = (0 : Int32) then (Q x5 I L) else (Q (-1) I L)) else (wpV X B1_soundWith 0 [(0, .ref (h + 24)), (1, .ref a4), (2, .int x6), (3, .int 9)] [] G I L (fun I3 L4 => wpI X B8_leastPush 0 [(0, .ref h), (1, .ref a4), (2, .int x2)] [] G I3 L4 (fun r8 I6 L7 => if r8 = (-1) then (if x3 = (0 : Int32) then (wpI X B8_keys 53 [(0, .ref h), (2, .int x2), (3, .int x3), (4, .ref a4), (5, .int (x5 + 1)), (6, .int (x6 + 1))] [] G I6 L7 Q) else (Q x6 I6 L7)) else (wpI X B8_keys 53 [(0, .ref h), (2, .int x2), (3, .int x3), (4, .ref a4), (5, .int x5), (6, .int (x6 + 1))] [] G I6 L7 Q))))) : wpI X B8_keys 53 [(0, .ref h), (2, .int x2), (3, .int x3), (4, .ref a4), (5, .int x5), (6, .int x6)] [] G I L Q := by
  refine wp_iload (i := 6) (x := x6) 5 (by decide +kernel) rfl ?_
  refine wp_aload (i := 4) (r := (some a4)) 3 (by decide +kernel) rfl ?_
  refine wp_callV (idx := 254) (B2 := B7_cells) (As := []) (a := a4) (st := [.int x6]) (by decide +kernel) m7_cells ml8_254 k7_cells e7_cells ck7 ok4.1 (⟨Nat.le_of_ble_eq_true rfl, Nat.le_of_ble_eq_true rfl⟩ : rOK B8_keys B7_cells) rfl (Nat.le_of_ble_eq_true rfl) (Nat.le_of_ble_eq_true rfl) ⟨Nat.le_of_ble_eq_true rfl, Nat.le_of_ble_eq_true rfl⟩ rfl (wp_mono (b7_cells (Q := (fun r I' L' => r = (v7_cells I a4) ∧ I = I' ∧ L = L')) ok4 ⟨rfl, rfl, rfl⟩) (fun v9 M9 hq9 => ?_))
  obtain ⟨_, _, _, rfl, rfl, rfl, rfl, rfl⟩ := hq9
  show wp X B8_keys 60 [(0, .ref h), (2, .int x2), (3, .int x3), (4, .ref a4), (5, .int x5), (6, .int x6)] [.int (v7_cells I a4), .int x6] (G, I, L) 0 0 _
  refine wp_icmp_ge (off := 43) (tgt := 103) (by decide +kernel) (by decide) (fun c1 => ?_) (fun c1 => ?_)
  · rw [if_pos c1] at H
    refine wp_iload_n (z := 3) (i := 3) (x := x3) 2 (by decide +kernel) rfl rfl ?_
    refine wp_if_eq (off := 7) (tgt := 111) (by decide +kernel) (by decide) (fun c2 => ?_) (fun c2 => ?_)
    · rw [if_pos c2] at H
      refine wp_iload (i := 5) (x := x5) 4 (by decide +kernel) rfl ?_
      exact wp_iret (by decide +kernel) rfl (Nat.zero_le _) (Nat.zero_le _) ⟨_, _, _, rfl, rfl, H⟩
    · rw [if_neg c2] at H
      refine wp_iconst (z := -1) (v := (-1)) (by decide +kernel) (by decide) ?_
      refine wp_goto (off := 5) (tgt := 113) (by decide +kernel) (by decide) ?_
      exact wp_iret (by decide +kernel) rfl (Nat.zero_le _) (Nat.zero_le _) ⟨_, _, _, rfl, rfl, H⟩
  · rw [if_neg c1] at H
    refine wp_aload_n (z := 0) (i := 0) (r := (some h)) 0 (by decide +kernel) rfl rfl ?_
    refine wp_getS (idx := 37) (q := (h + 24)) (by decide +kernel) fl8_37 rfl ok.1 (okr8_4 ok) ?_
    refine wp_aload (i := 4) (r := (some a4)) 3 (by decide +kernel) rfl ?_
    refine wp_iload (i := 6) (x := x6) 5 (by decide +kernel) rfl ?_
    refine wp_bipush (z := 9) (v := 9) (by decide +kernel) (by decide) ?_
    refine wp_callV (idx := 320) (B2 := B1_soundWith) (As := [.ref a4, .int x6, .int 9]) (a := (h + 24)) (st := []) (by decide +kernel) m1_soundWith ml8_320 k1_soundWith e1_soundWith ck1 (oko8_4 ok).1 (⟨Nat.le_of_ble_eq_true rfl, Nat.le_of_ble_eq_true rfl⟩ : rOK B8_keys B1_soundWith) rfl (Nat.le_of_ble_eq_true rfl) (Nat.le_of_ble_eq_true rfl) ⟨Nat.le_of_ble_eq_true rfl, Nat.le_of_ble_eq_true rfl⟩ rfl (wp_mono H (fun v9 M9 hq9 => ?_))
    clear H
    obtain ⟨I3, L4, rfl, rfl, H⟩ := hq9
    show wp X B8_keys 76 [(0, .ref h), (2, .int x2), (3, .int x3), (4, .ref a4), (5, .int x5), (6, .int x6)] [] (G, I3, L4) 0 0 _
    refine wp_aload_n (z := 0) (i := 0) (r := (some h)) 0 (by decide +kernel) rfl rfl ?_
    refine wp_aload (i := 4) (r := (some a4)) 3 (by decide +kernel) rfl ?_
    refine wp_iload_n (z := 2) (i := 2) (x := x2) 1 (by decide +kernel) rfl rfl ?_
    refine wp_callV (idx := 314) (B2 := B8_leastPush) (As := [.ref a4, .int x2]) (a := h) (st := []) (by decide +kernel) m8_leastPush ml8_314 k8_leastPush e8_leastPush ck8 ok.1 (⟨Nat.le_of_ble_eq_true rfl, Nat.le_of_ble_eq_true rfl⟩ : rOK B8_keys B8_leastPush) rfl (Nat.le_of_ble_eq_true rfl) (Nat.le_of_ble_eq_true rfl) ⟨Nat.le_of_ble_eq_true rfl, Nat.le_of_ble_eq_true rfl⟩ rfl (wp_mono H (fun v9 M9 hq9 => ?_))
    clear H
    obtain ⟨r8, I6, L7, rfl, rfl, H⟩ := hq9
    show wp X B8_keys 83 [(0, .ref h), (2, .int x2), (3, .int x3), (4, .ref a4), (5, .int x5), (6, .int x6)] [.int r8] (G, I6, L7) 0 0 _
    refine wp_iconst (z := -1) (v := (-1)) (by decide +kernel) (by decide) ?_
    refine wp_icmp_ne (off := 13) (tgt := 97) (by decide +kernel) (by decide) (fun c9 => ?_) (fun c9 => ?_)
    · rw [if_neg c9] at H
      refine wp_iinc (i := 6) (z := 1) (v := 1) (lv' := [(6, .int (x6 + 1)), (0, .ref h), (2, .int x2), (3, .int x3), (4, .ref a4), (5, .int x5)]) 5 (by decide +kernel) rfl (by decide) (by decide) rfl ?_
      refine wp_goto (off := -47) (tgt := 53) (by decide +kernel) (by decide) ?_
      exact wp_sub [1, 2, 3, 4, 5, 0] rfl H
    · rw [if_pos c9] at H
      refine wp_iload_n (z := 3) (i := 3) (x := x3) 2 (by decide +kernel) rfl rfl ?_
      refine wp_if_eq (off := 6) (tgt := 94) (by decide +kernel) (by decide) (fun c10 => ?_) (fun c10 => ?_)
      · rw [if_pos c10] at H
        refine wp_iinc (i := 5) (z := 1) (v := 1) (lv' := [(5, .int (x5 + 1)), (0, .ref h), (2, .int x2), (3, .int x3), (4, .ref a4), (6, .int x6)]) 4 (by decide +kernel) rfl (by decide) (by decide) rfl ?_
        refine wp_iinc (i := 6) (z := 1) (v := 1) (lv' := [(6, .int (x6 + 1)), (5, .int (x5 + 1)), (0, .ref h), (2, .int x2), (3, .int x3), (4, .ref a4)]) 5 (by decide +kernel) rfl (by decide) (by decide) rfl ?_
        refine wp_goto (off := -47) (tgt := 53) (by decide +kernel) (by decide) ?_
        exact wp_sub [2, 3, 4, 5, 1, 0] rfl H
      · rw [if_neg c10] at H
        refine wp_iload (i := 6) (x := x6) 5 (by decide +kernel) rfl ?_
        exact wp_iret (by decide +kernel) rfl (Nat.zero_le _) (Nat.zero_le _) ⟨_, _, _, rfl, rfl, H⟩
/-! DeafWall$Paths.shorten(LDeafWall$Wall;[I[IZ)Z -/
set_option maxRecDepth 20000 in
theorem b3_shorten {X : XX} {G : GG} {I : Nat → Nat → Int32} {L : Nat → Nat → Int64} {a0 : Nat} {a1 : Nat} {n1 : Nat} {a2 : Nat} {n2 : Nat} {x3 : Int32} {Q : Int32 → (Nat → Nat → Int32) → (Nat → Nat → Int64) → Prop} (ok0 : OK7 G a0) (s1 : G.1 a1 = some (11, n1)) (s2 : G.1 a2 = some (11, n2)) (H : wpI X B3_shorten 6 [(0, .ref a0), (1, .ref a1), (2, .ref a2), (3, .int x3), (4, .int 0), (5, .int 0)] [] G I L Q) : wpI X B3_shorten 0 [(0, .ref a0), (1, .ref a1), (2, .ref a2), (3, .int x3)] [] G I L Q := by
  refine wp_iconst (z := 0) (v := 0) (by decide +kernel) (by decide) ?_
  refine wp_istore (i := 4) (lv' := [(4, .int 0), (0, .ref a0), (1, .ref a1), (2, .ref a2), (3, .int x3)]) (by decide +kernel) (by decide) rfl ?_
  refine wp_iconst (z := 0) (v := 0) (by decide +kernel) (by decide) ?_
  refine wp_istore (i := 5) (lv' := [(5, .int 0), (4, .int 0), (0, .ref a0), (1, .ref a1), (2, .ref a2), (3, .int x3)]) (by decide +kernel) (by decide) rfl ?_
  exact wp_sub [2, 3, 4, 5, 1, 0] rfl H
set_option maxRecDepth 20000 in
theorem b3_shorten_6 {X : XX} {G : GG} {I : Nat → Nat → Int32} {L : Nat → Nat → Int64} {a0 : Nat} {a1 : Nat} {n1 : Nat} {a2 : Nat} {n2 : Nat} {x3 : Int32} {x4 : Int32} {x5 : Int32} {Q : Int32 → (Nat → Nat → Int32) → (Nat → Nat → Int64) → Prop} (ok0 : OK7 G a0) (s1 : G.1 a1 = some (11, n1)) (s2 : G.1 a2 = some (11, n2)) (H : if (I a0 1) ≤ x5 then ((x4 = 0 ∨ x4 = 1) ∧ (Q x4 I L)) else (wpI X B3_shorten 18 [(0, .ref a0), (1, .ref a1), (2, .ref a2), (3, .int x3), (4, .int x4), (5, .int x5), (6, .int 0)] [] G I L Q)) : wpI X B3_shorten 6 [(0, .ref a0), (1, .ref a1), (2, .ref a2), (3, .int x3), (4, .int x4), (5, .int x5)] [] G I L Q := by
  refine wp_iload (i := 5) (x := x5) 5 (by decide +kernel) rfl ?_
  refine wp_aload_n (z := 0) (i := 0) (r := (some a0)) 0 (by decide +kernel) rfl rfl ?_
  refine wp_getI (idx := 27) (by decide +kernel) fl3_27 rfl ok0.1 ?_
  refine wp_icmp_ge (off := 84) (tgt := 96) (by decide +kernel) (by decide) (fun c1 => ?_) (fun c1 => ?_)
  · rw [if_pos c1] at H
    refine wp_iload (i := 4) (x := x4) 4 (by decide +kernel) rfl ?_
    obtain ⟨o2, H⟩ := H
    exact wp_zret (by decide +kernel) rfl o2 (Nat.zero_le _) (Nat.zero_le _) ⟨_, _, _, rfl, rfl, H⟩
  · rw [if_neg c1] at H
    refine wp_iconst (z := 0) (v := 0) (by decide +kernel) (by decide) ?_
    refine wp_istore (i := 6) (lv' := [(6, .int 0), (0, .ref a0), (1, .ref a1), (2, .ref a2), (3, .int x3), (4, .int x4), (5, .int x5)]) (by decide +kernel) (by decide) rfl ?_
    exact wp_sub [1, 2, 3, 4, 5, 6, 0] rfl H
set_option maxRecDepth 20000 in
theorem b3_shorten_18 {X : XX} {G : GG} {I : Nat → Nat → Int32} {L : Nat → Nat → Int64} {a0 : Nat} {a1 : Nat} {n1 : Nat} {a2 : Nat} {n2 : Nat} {x3 : Int32} {x4 : Int32} {x5 : Int32} {x6 : Int32} {Q : Int32 → (Nat → Nat → Int32) → (Nat → Nat → Int64) → Prop} (ok0 : OK7 G a0) (s1 : G.1 a1 = some (11, n1)) (s2 : G.1 a2 = some (11, n2)) (H : if (I a0 0) ≤ x6 then (wpI X B3_shorten 6 [(0, .ref a0), (1, .ref a1), (2, .ref a2), (3, .int x3), (4, .int x4), (5, .int (x5 + 1))] [] G I L Q) else (∀ u2, u2 = ((x5 * (I a0 0)) + x6) → p3_leastBeside I a0 a1 n1 x6 x5 ∧ (if x3 = (0 : Int32) then (vp_in u2 32 ∧ (∀ u4, u4 = ((v3_leastBeside I a0 a1 n1 x6 x5) + (I (a0 + 1) (cl u2))) → vp_in u2 n2 ∧ (if (I a2 (cl u2)) ≤ u4 then (wpI X B3_shorten 18 [(0, .ref a0), (1, .ref a1), (2, .ref a2), (3, .int x3), (4, .int x4), (5, .int x5), (6, .int (x6 + 1))] [] G I L Q) else (vp_in u2 n2 ∧ (∀ I6, I6 = up2 I a2 (cl u2) u4 → wpI X B3_shorten 18 [(0, .ref a0), (1, .ref a1), (2, .ref a2), (3, .int x3), (4, .int 1), (5, .int x5), (6, .int (x6 + 1))] [] G I6 L Q))))) else (∀ u10, u10 = ((v3_leastBeside I a0 a1 n1 x6 x5) + 1) → vp_in u2 n2 ∧ (if (I a2 (cl u2)) ≤ u10 then (wpI X B3_shorten 18 [(0, .ref a0), (1, .ref a1), (2, .ref a2), (3, .int x3), (4, .int x4), (5, .int x5), (6, .int (x6 + 1))] [] G I L Q) else (vp_in u2 n2 ∧ (∀ I12, I12 = up2 I a2 (cl u2) u10 → wpI X B3_shorten 18 [(0, .ref a0), (1, .ref a1), (2, .ref a2), (3, .int x3), (4, .int 1), (5, .int x5), (6, .int (x6 + 1))] [] G I12 L Q))))))) : wpI X B3_shorten 18 [(0, .ref a0), (1, .ref a1), (2, .ref a2), (3, .int x3), (4, .int x4), (5, .int x5), (6, .int x6)] [] G I L Q := by
  refine wp_iload (i := 6) (x := x6) 6 (by decide +kernel) rfl ?_
  refine wp_aload_n (z := 0) (i := 0) (r := (some a0)) 0 (by decide +kernel) rfl rfl ?_
  refine wp_getI (idx := 33) (by decide +kernel) fl3_33 rfl ok0.1 ?_
  refine wp_icmp_ge (off := 66) (tgt := 90) (by decide +kernel) (by decide) (fun c1 => ?_) (fun c1 => ?_)
  · rw [if_pos c1] at H
    refine wp_iinc (i := 5) (z := 1) (v := 1) (lv' := [(5, .int (x5 + 1)), (0, .ref a0), (1, .ref a1), (2, .ref a2), (3, .int x3), (4, .int x4), (6, .int x6)]) 5 (by decide +kernel) rfl (by decide) (by decide) rfl ?_
    refine wp_goto (off := -87) (tgt := 6) (by decide +kernel) (by decide) ?_
    exact wp_sub [1, 2, 3, 4, 5, 0] rfl H
  · rw [if_neg c1] at H
    refine wp_iload (i := 5) (x := x5) 5 (by decide +kernel) rfl ?_
    refine wp_aload_n (z := 0) (i := 0) (r := (some a0)) 0 (by decide +kernel) rfl rfl ?_
    refine wp_getI (idx := 33) (by decide +kernel) fl3_33 rfl ok0.1 ?_
    refine wp_imul (by decide +kernel) ?_
    refine wp_iload (i := 6) (x := x6) 6 (by decide +kernel) rfl ?_
    refine wp_iadd (by decide +kernel) ?_
    refine wp_topi (fun u2 eu2 => ?_)
    replace H := H u2 eu2
    refine wp_istore (i := 7) (lv' := [(7, .int u2), (0, .ref a0), (1, .ref a1), (2, .ref a2), (3, .int x3), (4, .int x4), (5, .int x5), (6, .int x6)]) (by decide +kernel) (by decide) rfl ?_
    refine wp_aload_n (z := 0) (i := 0) (r := (some a0)) 1 (by decide +kernel) rfl rfl ?_
    refine wp_aload_n (z := 1) (i := 1) (r := (some a1)) 2 (by decide +kernel) rfl rfl ?_
    refine wp_iload (i := 6) (x := x6) 7 (by decide +kernel) rfl ?_
    refine wp_iload (i := 5) (x := x5) 6 (by decide +kernel) rfl ?_
    obtain ⟨o15, H⟩ := H
    refine wp_callS (idx := 36) (B2 := B3_leastBeside) (As := [.ref a0, .ref a1, .int x6, .int x5]) (st := []) (by decide +kernel) m3_leastBeside ml3_36 k3_leastBeside (⟨Nat.le_of_ble_eq_true rfl, Nat.le_of_ble_eq_true rfl⟩ : rOK B3_shorten B3_leastBeside) rfl (Nat.le_of_ble_eq_true rfl) (Nat.le_of_ble_eq_true rfl) ⟨Nat.le_of_ble_eq_true rfl, Nat.le_of_ble_eq_true rfl⟩ rfl (wp_mono (b3_leastBeside (Q := (fun r I' L' => r = (v3_leastBeside I a0 a1 n1 x6 x5) ∧ I = I' ∧ L = L')) ok0 s1 o15 ⟨rfl, rfl, rfl⟩) (fun v9 M9 hq9 => ?_))
    obtain ⟨_, _, _, rfl, rfl, rfl, rfl, rfl⟩ := hq9
    show wp X B3_shorten 48 [(7, .int u2), (0, .ref a0), (1, .ref a1), (2, .ref a2), (3, .int x3), (4, .int x4), (5, .int x5), (6, .int x6)] [.int (v3_leastBeside I a0 a1 n1 x6 x5)] (G, I, L) 0 0 _
    refine wp_iload_n (z := 3) (i := 3) (x := x3) 4 (by decide +kernel) rfl rfl ?_
    refine wp_if_eq (off := 7) (tgt := 56) (by decide +kernel) (by decide) (fun c3 => ?_) (fun c3 => ?_)
    · rw [if_pos c3] at H
      refine wp_aload_n (z := 0) (i := 0) (r := (some a0)) 1 (by decide +kernel) rfl rfl ?_
      refine wp_getS (idx := 40) (q := (a0 + 1)) (by decide +kernel) fl3_40 rfl ok0.1 (okr7_3 ok0) ?_
      refine wp_iload (i := 7) (x := u2) 0 (by decide +kernel) rfl ?_
      obtain ⟨o9, H⟩ := H
      refine wp_iald (j := (cl u2)) (by decide +kernel) (oks7_3 ok0) o9 rfl ?_
      refine wp_iadd (by decide +kernel) ?_
      refine wp_topi (fun u4 eu4 => ?_)
      replace H := H u4 eu4
      refine wp_istore (i := 8) (lv' := [(8, .int u4), (7, .int u2), (0, .ref a0), (1, .ref a1), (2, .ref a2), (3, .int x3), (4, .int x4), (5, .int x5), (6, .int x6)]) (by decide +kernel) (by decide) rfl ?_
      refine wp_iload (i := 8) (x := u4) 0 (by decide +kernel) rfl ?_
      refine wp_aload_n (z := 2) (i := 2) (r := (some a2)) 4 (by decide +kernel) rfl rfl ?_
      refine wp_iload (i := 7) (x := u2) 1 (by decide +kernel) rfl ?_
      obtain ⟨o8, H⟩ := H
      refine wp_iald (j := (cl u2)) (by decide +kernel) s2 o8 rfl ?_
      refine wp_icmp_ge (off := 12) (tgt := 84) (by decide +kernel) (by decide) (fun c5 => ?_) (fun c5 => ?_)
      · rw [if_pos c5] at H
        refine wp_iinc (i := 6) (z := 1) (v := 1) (lv' := [(6, .int (x6 + 1)), (8, .int u4), (7, .int u2), (0, .ref a0), (1, .ref a1), (2, .ref a2), (3, .int x3), (4, .int x4), (5, .int x5)]) 8 (by decide +kernel) rfl (by decide) (by decide) rfl ?_
        refine wp_goto (off := -69) (tgt := 18) (by decide +kernel) (by decide) ?_
        exact wp_sub [3, 4, 5, 6, 7, 8, 0] rfl H
      · rw [if_neg c5] at H
        refine wp_aload_n (z := 2) (i := 2) (r := (some a2)) 4 (by decide +kernel) rfl rfl ?_
        refine wp_iload (i := 7) (x := u2) 1 (by decide +kernel) rfl ?_
        refine wp_iload (i := 8) (x := u4) 0 (by decide +kernel) rfl ?_
        obtain ⟨o7, H⟩ := H
        refine wp_iast (j := (cl u2)) (by decide +kernel) s2 o7 rfl ?_
        refine wp_memI (fun I6 eI6 => ?_)
        replace H := H I6 eI6
        refine wp_iconst (z := 1) (v := 1) (by decide +kernel) (by decide) ?_
        refine wp_istore (i := 4) (lv' := [(4, .int 1), (8, .int u4), (7, .int u2), (0, .ref a0), (1, .ref a1), (2, .ref a2), (3, .int x3), (5, .int x5), (6, .int x6)]) (by decide +kernel) (by decide) rfl ?_
        refine wp_iinc (i := 6) (z := 1) (v := 1) (lv' := [(6, .int (x6 + 1)), (4, .int 1), (8, .int u4), (7, .int u2), (0, .ref a0), (1, .ref a1), (2, .ref a2), (3, .int x3), (5, .int x5)]) 8 (by decide +kernel) rfl (by decide) (by decide) rfl ?_
        refine wp_goto (off := -69) (tgt := 18) (by decide +kernel) (by decide) ?_
        exact wp_sub [4, 5, 6, 7, 1, 8, 0] rfl H
    · rw [if_neg c3] at H
      refine wp_iconst (z := 1) (v := 1) (by decide +kernel) (by decide) ?_
      refine wp_goto (off := 10) (tgt := 63) (by decide +kernel) (by decide) ?_
      refine wp_iadd (by decide +kernel) ?_
      refine wp_topi (fun u10 eu10 => ?_)
      replace H := H u10 eu10
      refine wp_istore (i := 8) (lv' := [(8, .int u10), (7, .int u2), (0, .ref a0), (1, .ref a1), (2, .ref a2), (3, .int x3), (4, .int x4), (5, .int x5), (6, .int x6)]) (by decide +kernel) (by decide) rfl ?_
      refine wp_iload (i := 8) (x := u10) 0 (by decide +kernel) rfl ?_
      refine wp_aload_n (z := 2) (i := 2) (r := (some a2)) 4 (by decide +kernel) rfl rfl ?_
      refine wp_iload (i := 7) (x := u2) 1 (by decide +kernel) rfl ?_
      obtain ⟨o14, H⟩ := H
      refine wp_iald (j := (cl u2)) (by decide +kernel) s2 o14 rfl ?_
      refine wp_icmp_ge (off := 12) (tgt := 84) (by decide +kernel) (by decide) (fun c11 => ?_) (fun c11 => ?_)
      · rw [if_pos c11] at H
        refine wp_iinc (i := 6) (z := 1) (v := 1) (lv' := [(6, .int (x6 + 1)), (8, .int u10), (7, .int u2), (0, .ref a0), (1, .ref a1), (2, .ref a2), (3, .int x3), (4, .int x4), (5, .int x5)]) 8 (by decide +kernel) rfl (by decide) (by decide) rfl ?_
        refine wp_goto (off := -69) (tgt := 18) (by decide +kernel) (by decide) ?_
        exact wp_sub [3, 4, 5, 6, 7, 8, 0] rfl H
      · rw [if_neg c11] at H
        refine wp_aload_n (z := 2) (i := 2) (r := (some a2)) 4 (by decide +kernel) rfl rfl ?_
        refine wp_iload (i := 7) (x := u2) 1 (by decide +kernel) rfl ?_
        refine wp_iload (i := 8) (x := u10) 0 (by decide +kernel) rfl ?_
        obtain ⟨o13, H⟩ := H
        refine wp_iast (j := (cl u2)) (by decide +kernel) s2 o13 rfl ?_
        refine wp_memI (fun I12 eI12 => ?_)
        replace H := H I12 eI12
        refine wp_iconst (z := 1) (v := 1) (by decide +kernel) (by decide) ?_
        refine wp_istore (i := 4) (lv' := [(4, .int 1), (8, .int u10), (7, .int u2), (0, .ref a0), (1, .ref a1), (2, .ref a2), (3, .int x3), (5, .int x5), (6, .int x6)]) (by decide +kernel) (by decide) rfl ?_
        refine wp_iinc (i := 6) (z := 1) (v := 1) (lv' := [(6, .int (x6 + 1)), (4, .int 1), (8, .int u10), (7, .int u2), (0, .ref a0), (1, .ref a1), (2, .ref a2), (3, .int x3), (5, .int x5)]) 8 (by decide +kernel) rfl (by decide) (by decide) rfl ?_
        refine wp_goto (off := -69) (tgt := 18) (by decide +kernel) (by decide) ?_
        exact wp_sub [4, 5, 6, 7, 1, 8, 0] rfl H
/-! DeafWall$Paths.lay(LDeafWall$Wall;II)V -/
set_option maxRecDepth 20000 in
theorem b3_lay {X : XX} {G : GG} {I : Nat → Nat → Int32} {L : Nat → Nat → Int64} {h : Nat} {a1 : Nat} {x2 : Int32} {x3 : Int32} {Q : (Nat → Nat → Int32) → (Nat → Nat → Int64) → Prop} (ok : OK3 G h) (ok1 : OK7 G a1) (H : wpV X B3_lay 3 [(0, .ref h), (1, .ref a1), (2, .int x2), (3, .int x3), (4, .int 0)] [] G I L Q) : wpV X B3_lay 0 [(0, .ref h), (1, .ref a1), (2, .int x2), (3, .int x3)] [] G I L Q := by
  refine wp_iconst (z := 0) (v := 0) (by decide +kernel) (by decide) ?_
  refine wp_istore (i := 4) (lv' := [(4, .int 0), (0, .ref h), (1, .ref a1), (2, .int x2), (3, .int x3)]) (by decide +kernel) (by decide) rfl ?_
  exact wp_sub [1, 2, 3, 4, 0] rfl H
set_option maxRecDepth 20000 in
theorem b3_lay_3 {X : XX} {G : GG} {I : Nat → Nat → Int32} {L : Nat → Nat → Int64} {h : Nat} {a1 : Nat} {x2 : Int32} {x3 : Int32} {x4 : Int32} {Q : (Nat → Nat → Int32) → (Nat → Nat → Int64) → Prop} (ok : OK3 G h) (ok1 : OK7 G a1) (H : if x3 < x4 then (Q I L) else (if 8 < x4 then (Q I L) else (vp_in x4 9 ∧ (wpV X B18_fillI 0 [(0, .ref (h + 2 + cl x4)), (1, .int 1000000)] [] G I L (fun I4 L5 => if x2 < (0 : Int32) then (if x4 ≤ (0 : Int32) then (wpV X B3_lay 81 [(0, .ref h), (1, .ref a1), (2, .int x2), (3, .int x3), (4, .int x4), (5, .int 1), (6, .int 0)] [] G I4 L5 Q) else (vp_in (x4 - 1) 9 ∧ (vp_in x4 9 ∧ (wpI X B3_shorten 0 [(0, .ref a1), (1, .ref (h + 2 + cl (x4 - 1))), (2, .ref (h + 2 + cl x4)), (3, .int 1)] [] G I4 L5 (fun r13 I11 L12 => wpV X B3_lay 81 [(0, .ref h), (1, .ref a1), (2, .int x2), (3, .int x3), (4, .int x4), (5, .int 1), (6, .int 0)] [] G I11 L12 Q))))) else (if 32 ≤ x2 then (if x4 ≤ (0 : Int32) then (wpV X B3_lay 81 [(0, .ref h), (1, .ref a1), (2, .int x2), (3, .int x3), (4, .int x4), (5, .int 1), (6, .int 0)] [] G I4 L5 Q) else (vp_in (x4 - 1) 9 ∧ (vp_in x4 9 ∧ (wpI X B3_shorten 0 [(0, .ref a1), (1, .ref (h + 2 + cl (x4 - 1))), (2, .ref (h + 2 + cl x4)), (3, .int 1)] [] G I4 L5 (fun r20 I18 L19 => wpV X B3_lay 81 [(0, .ref h), (1, .ref a1), (2, .int x2), (3, .int x3), (4, .int x4), (5, .int 1), (6, .int 0)] [] G I18 L19 Q))))) else (vp_in x4 9 ∧ (vp_in x2 32 ∧ (∀ I22, I22 = up2 I4 (h + 2 + cl x4) (cl x2) 0 → if x4 ≤ (0 : Int32) then (wpV X B3_lay 81 [(0, .ref h), (1, .ref a1), (2, .int x2), (3, .int x3), (4, .int x4), (5, .int 1), (6, .int 0)] [] G I22 L5 Q) else (vp_in (x4 - 1) 9 ∧ (vp_in x4 9 ∧ (wpI X B3_shorten 0 [(0, .ref a1), (1, .ref (h + 2 + cl (x4 - 1))), (2, .ref (h + 2 + cl x4)), (3, .int 1)] [] G I22 L5 (fun r28 I26 L27 => wpV X B3_lay 81 [(0, .ref h), (1, .ref a1), (2, .int x2), (3, .int x3), (4, .int x4), (5, .int 1), (6, .int 0)] [] G I26 L27 Q))))))))))))) : wpV X B3_lay 3 [(0, .ref h), (1, .ref a1), (2, .int x2), (3, .int x3), (4, .int x4)] [] G I L Q := by
  refine wp_iload (i := 4) (x := x4) 4 (by decide +kernel) rfl ?_
  refine wp_iload_n (z := 3) (i := 3) (x := x3) 3 (by decide +kernel) rfl rfl ?_
  refine wp_icmp_gt (off := 120) (tgt := 126) (by decide +kernel) (by decide) (fun c1 => ?_) (fun c1 => ?_)
  · rw [if_pos c1] at H
    exact wp_vret (by decide +kernel) rfl (Nat.zero_le _) (Nat.zero_le _) ⟨_, _, rfl, rfl, H⟩
  · rw [if_neg c1] at H
    refine wp_iload (i := 4) (x := x4) 4 (by decide +kernel) rfl ?_
    refine wp_bipush (z := 8) (v := 8) (by decide +kernel) (by decide) ?_
    refine wp_icmp_gt (off := 113) (tgt := 126) (by decide +kernel) (by decide) (fun c2 => ?_) (fun c2 => ?_)
    · rw [if_pos c2] at H
      exact wp_vret (by decide +kernel) rfl (Nat.zero_le _) (Nat.zero_le _) ⟨_, _, rfl, rfl, H⟩
    · rw [if_neg c2] at H
      refine wp_aload_n (z := 0) (i := 0) (r := (some h)) 0 (by decide +kernel) rfl rfl ?_
      refine wp_getS (idx := 11) (q := (h + 1)) (by decide +kernel) fl3_11 rfl ok.1 (okr3_0 ok) ?_
      refine wp_iload (i := 4) (x := x4) 4 (by decide +kernel) rfl ?_
      obtain ⟨o3, H⟩ := H
      refine wp_aaldR (q := (h + 2 + cl x4)) (by decide +kernel) (oks3_0 ok) o3 ((okw3 ok) (cl x4) (vin_lt o3)).1 ?_
      refine wp_ldc (idx := 16) (v := 1000000) (by decide +kernel) (in_g (List.mem_of_getElem? (i := 946) (by decide +kernel)) rfl) ?_
      refine wp_callS (idx := 17) (B2 := B18_fillI) (As := [.ref (h + 2 + cl x4), .int 1000000]) (st := []) (by decide +kernel) m18_fillI ml3_17 k18_fillI (⟨Nat.le_of_ble_eq_true rfl, Nat.le_of_ble_eq_true rfl⟩ : rOK B3_lay B18_fillI) rfl (Nat.le_of_ble_eq_true rfl) (Nat.le_of_ble_eq_true rfl) ⟨Nat.le_of_ble_eq_true rfl, Nat.le_of_ble_eq_true rfl⟩ rfl (wp_mono H (fun v9 M9 hq9 => ?_))
      clear H
      obtain ⟨I4, L5, rfl, rfl, H⟩ := hq9
      show wp X B3_lay 28 [(0, .ref h), (1, .ref a1), (2, .int x2), (3, .int x3), (4, .int x4)] [] (G, I4, L5) 0 0 _
      refine wp_iload_n (z := 2) (i := 2) (x := x2) 2 (by decide +kernel) rfl rfl ?_
      refine wp_if_lt (off := 19) (tgt := 48) (by decide +kernel) (by decide) (fun c7 => ?_) (fun c7 => ?_)
      · rw [if_pos c7] at H
        refine wp_iload (i := 4) (x := x4) 4 (by decide +kernel) rfl ?_
        refine wp_if_le (off := 25) (tgt := 75) (by decide +kernel) (by decide) (fun c8 => ?_) (fun c8 => ?_)
        · rw [if_pos c8] at H
          refine wp_iconst (z := 1) (v := 1) (by decide +kernel) (by decide) ?_
          refine wp_istore (i := 5) (lv' := [(5, .int 1), (0, .ref h), (1, .ref a1), (2, .int x2), (3, .int x3), (4, .int x4)]) (by decide +kernel) (by decide) rfl ?_
          refine wp_iconst (z := 0) (v := 0) (by decide +kernel) (by decide) ?_
          refine wp_istore (i := 6) (lv' := [(6, .int 0), (5, .int 1), (0, .ref h), (1, .ref a1), (2, .int x2), (3, .int x3), (4, .int x4)]) (by decide +kernel) (by decide) rfl ?_
          exact wp_sub [2, 3, 4, 5, 6, 1, 0] rfl H
        · rw [if_neg c8] at H
          refine wp_aload_n (z := 1) (i := 1) (r := (some a1)) 1 (by decide +kernel) rfl rfl ?_
          refine wp_aload_n (z := 0) (i := 0) (r := (some h)) 0 (by decide +kernel) rfl rfl ?_
          refine wp_getS (idx := 11) (q := (h + 1)) (by decide +kernel) fl3_11 rfl ok.1 (okr3_0 ok) ?_
          refine wp_iload (i := 4) (x := x4) 4 (by decide +kernel) rfl ?_
          refine wp_iconst (z := 1) (v := 1) (by decide +kernel) (by decide) ?_
          refine wp_isub (by decide +kernel) ?_
          obtain ⟨o9, H⟩ := H
          refine wp_aaldR (q := (h + 2 + cl (x4 - 1))) (by decide +kernel) (oks3_0 ok) o9 ((okw3 ok) (cl (x4 - 1)) (vin_lt o9)).1 ?_
          refine wp_aload_n (z := 0) (i := 0) (r := (some h)) 0 (by decide +kernel) rfl rfl ?_
          refine wp_getS (idx := 11) (q := (h + 1)) (by decide +kernel) fl3_11 rfl ok.1 (okr3_0 ok) ?_
          refine wp_iload (i := 4) (x := x4) 4 (by decide +kernel) rfl ?_
          obtain ⟨o10, H⟩ := H
          refine wp_aaldR (q := (h + 2 + cl x4)) (by decide +kernel) (oks3_0 ok) o10 ((okw3 ok) (cl x4) (vin_lt o10)).1 ?_
          refine wp_iconst (z := 1) (v := 1) (by decide +kernel) (by decide) ?_
          refine wp_callS (idx := 23) (B2 := B3_shorten) (As := [.ref a1, .ref (h + 2 + cl (x4 - 1)), .ref (h + 2 + cl x4), .int 1]) (st := []) (by decide +kernel) m3_shorten ml3_23 k3_shorten (⟨Nat.le_of_ble_eq_true rfl, Nat.le_of_ble_eq_true rfl⟩ : rOK B3_lay B3_shorten) rfl (Nat.le_of_ble_eq_true rfl) (Nat.le_of_ble_eq_true rfl) ⟨Nat.le_of_ble_eq_true rfl, Nat.le_of_ble_eq_true rfl⟩ rfl (wp_mono H (fun v9 M9 hq9 => ?_))
          clear H
          obtain ⟨r13, I11, L12, rfl, rfl, H⟩ := hq9
          show wp X B3_lay 74 [(0, .ref h), (1, .ref a1), (2, .int x2), (3, .int x3), (4, .int x4)] [.int r13] (G, I11, L12) 0 0 _
          refine wp_pop (by decide +kernel) rfl ?_
          refine wp_iconst (z := 1) (v := 1) (by decide +kernel) (by decide) ?_
          refine wp_istore (i := 5) (lv' := [(5, .int 1), (0, .ref h), (1, .ref a1), (2, .int x2), (3, .int x3), (4, .int x4)]) (by decide +kernel) (by decide) rfl ?_
          refine wp_iconst (z := 0) (v := 0) (by decide +kernel) (by decide) ?_
          refine wp_istore (i := 6) (lv' := [(6, .int 0), (5, .int 1), (0, .ref h), (1, .ref a1), (2, .int x2), (3, .int x3), (4, .int x4)]) (by decide +kernel) (by decide) rfl ?_
          exact wp_sub [2, 3, 4, 5, 6, 1, 0] rfl H
      · rw [if_neg c7] at H
        refine wp_iload_n (z := 2) (i := 2) (x := x2) 2 (by decide +kernel) rfl rfl ?_
        refine wp_bipush (z := 32) (v := 32) (by decide +kernel) (by decide) ?_
        refine wp_icmp_ge (off := 13) (tgt := 48) (by decide +kernel) (by decide) (fun c14 => ?_) (fun c14 => ?_)
        · rw [if_pos c14] at H
          refine wp_iload (i := 4) (x := x4) 4 (by decide +kernel) rfl ?_
          refine wp_if_le (off := 25) (tgt := 75) (by decide +kernel) (by decide) (fun c15 => ?_) (fun c15 => ?_)
          · rw [if_pos c15] at H
            refine wp_iconst (z := 1) (v := 1) (by decide +kernel) (by decide) ?_
            refine wp_istore (i := 5) (lv' := [(5, .int 1), (0, .ref h), (1, .ref a1), (2, .int x2), (3, .int x3), (4, .int x4)]) (by decide +kernel) (by decide) rfl ?_
            refine wp_iconst (z := 0) (v := 0) (by decide +kernel) (by decide) ?_
            refine wp_istore (i := 6) (lv' := [(6, .int 0), (5, .int 1), (0, .ref h), (1, .ref a1), (2, .int x2), (3, .int x3), (4, .int x4)]) (by decide +kernel) (by decide) rfl ?_
            exact wp_sub [2, 3, 4, 5, 6, 1, 0] rfl H
          · rw [if_neg c15] at H
            refine wp_aload_n (z := 1) (i := 1) (r := (some a1)) 1 (by decide +kernel) rfl rfl ?_
            refine wp_aload_n (z := 0) (i := 0) (r := (some h)) 0 (by decide +kernel) rfl rfl ?_
            refine wp_getS (idx := 11) (q := (h + 1)) (by decide +kernel) fl3_11 rfl ok.1 (okr3_0 ok) ?_
            refine wp_iload (i := 4) (x := x4) 4 (by decide +kernel) rfl ?_
            refine wp_iconst (z := 1) (v := 1) (by decide +kernel) (by decide) ?_
            refine wp_isub (by decide +kernel) ?_
            obtain ⟨o16, H⟩ := H
            refine wp_aaldR (q := (h + 2 + cl (x4 - 1))) (by decide +kernel) (oks3_0 ok) o16 ((okw3 ok) (cl (x4 - 1)) (vin_lt o16)).1 ?_
            refine wp_aload_n (z := 0) (i := 0) (r := (some h)) 0 (by decide +kernel) rfl rfl ?_
            refine wp_getS (idx := 11) (q := (h + 1)) (by decide +kernel) fl3_11 rfl ok.1 (okr3_0 ok) ?_
            refine wp_iload (i := 4) (x := x4) 4 (by decide +kernel) rfl ?_
            obtain ⟨o17, H⟩ := H
            refine wp_aaldR (q := (h + 2 + cl x4)) (by decide +kernel) (oks3_0 ok) o17 ((okw3 ok) (cl x4) (vin_lt o17)).1 ?_
            refine wp_iconst (z := 1) (v := 1) (by decide +kernel) (by decide) ?_
            refine wp_callS (idx := 23) (B2 := B3_shorten) (As := [.ref a1, .ref (h + 2 + cl (x4 - 1)), .ref (h + 2 + cl x4), .int 1]) (st := []) (by decide +kernel) m3_shorten ml3_23 k3_shorten (⟨Nat.le_of_ble_eq_true rfl, Nat.le_of_ble_eq_true rfl⟩ : rOK B3_lay B3_shorten) rfl (Nat.le_of_ble_eq_true rfl) (Nat.le_of_ble_eq_true rfl) ⟨Nat.le_of_ble_eq_true rfl, Nat.le_of_ble_eq_true rfl⟩ rfl (wp_mono H (fun v9 M9 hq9 => ?_))
            clear H
            obtain ⟨r20, I18, L19, rfl, rfl, H⟩ := hq9
            show wp X B3_lay 74 [(0, .ref h), (1, .ref a1), (2, .int x2), (3, .int x3), (4, .int x4)] [.int r20] (G, I18, L19) 0 0 _
            refine wp_pop (by decide +kernel) rfl ?_
            refine wp_iconst (z := 1) (v := 1) (by decide +kernel) (by decide) ?_
            refine wp_istore (i := 5) (lv' := [(5, .int 1), (0, .ref h), (1, .ref a1), (2, .int x2), (3, .int x3), (4, .int x4)]) (by decide +kernel) (by decide) rfl ?_
            refine wp_iconst (z := 0) (v := 0) (by decide +kernel) (by decide) ?_
            refine wp_istore (i := 6) (lv' := [(6, .int 0), (5, .int 1), (0, .ref h), (1, .ref a1), (2, .int x2), (3, .int x3), (4, .int x4)]) (by decide +kernel) (by decide) rfl ?_
            exact wp_sub [2, 3, 4, 5, 6, 1, 0] rfl H
        · rw [if_neg c14] at H
          refine wp_aload_n (z := 0) (i := 0) (r := (some h)) 0 (by decide +kernel) rfl rfl ?_
          refine wp_getS (idx := 11) (q := (h + 1)) (by decide +kernel) fl3_11 rfl ok.1 (okr3_0 ok) ?_
          refine wp_iload (i := 4) (x := x4) 4 (by decide +kernel) rfl ?_
          obtain ⟨o21, H⟩ := H
          refine wp_aaldR (q := (h + 2 + cl x4)) (by decide +kernel) (oks3_0 ok) o21 ((okw3 ok) (cl x4) (vin_lt o21)).1 ?_
          refine wp_iload_n (z := 2) (i := 2) (x := x2) 2 (by decide +kernel) rfl rfl ?_
          refine wp_iconst (z := 0) (v := 0) (by decide +kernel) (by decide) ?_
          obtain ⟨o29, H⟩ := H
          refine wp_iast (j := (cl x2)) (by decide +kernel) ((okw3 ok) (cl x4) (vin_lt o21)).2 o29 rfl ?_
          refine wp_memI (fun I22 eI22 => ?_)
          replace H := H I22 eI22
          refine wp_iload (i := 4) (x := x4) 4 (by decide +kernel) rfl ?_
          refine wp_if_le (off := 25) (tgt := 75) (by decide +kernel) (by decide) (fun c23 => ?_) (fun c23 => ?_)
          · rw [if_pos c23] at H
            refine wp_iconst (z := 1) (v := 1) (by decide +kernel) (by decide) ?_
            refine wp_istore (i := 5) (lv' := [(5, .int 1), (0, .ref h), (1, .ref a1), (2, .int x2), (3, .int x3), (4, .int x4)]) (by decide +kernel) (by decide) rfl ?_
            refine wp_iconst (z := 0) (v := 0) (by decide +kernel) (by decide) ?_
            refine wp_istore (i := 6) (lv' := [(6, .int 0), (5, .int 1), (0, .ref h), (1, .ref a1), (2, .int x2), (3, .int x3), (4, .int x4)]) (by decide +kernel) (by decide) rfl ?_
            exact wp_sub [2, 3, 4, 5, 6, 1, 0] rfl H
          · rw [if_neg c23] at H
            refine wp_aload_n (z := 1) (i := 1) (r := (some a1)) 1 (by decide +kernel) rfl rfl ?_
            refine wp_aload_n (z := 0) (i := 0) (r := (some h)) 0 (by decide +kernel) rfl rfl ?_
            refine wp_getS (idx := 11) (q := (h + 1)) (by decide +kernel) fl3_11 rfl ok.1 (okr3_0 ok) ?_
            refine wp_iload (i := 4) (x := x4) 4 (by decide +kernel) rfl ?_
            refine wp_iconst (z := 1) (v := 1) (by decide +kernel) (by decide) ?_
            refine wp_isub (by decide +kernel) ?_
            obtain ⟨o24, H⟩ := H
            refine wp_aaldR (q := (h + 2 + cl (x4 - 1))) (by decide +kernel) (oks3_0 ok) o24 ((okw3 ok) (cl (x4 - 1)) (vin_lt o24)).1 ?_
            refine wp_aload_n (z := 0) (i := 0) (r := (some h)) 0 (by decide +kernel) rfl rfl ?_
            refine wp_getS (idx := 11) (q := (h + 1)) (by decide +kernel) fl3_11 rfl ok.1 (okr3_0 ok) ?_
            refine wp_iload (i := 4) (x := x4) 4 (by decide +kernel) rfl ?_
            obtain ⟨o25, H⟩ := H
            refine wp_aaldR (q := (h + 2 + cl x4)) (by decide +kernel) (oks3_0 ok) o25 ((okw3 ok) (cl x4) (vin_lt o25)).1 ?_
            refine wp_iconst (z := 1) (v := 1) (by decide +kernel) (by decide) ?_
            refine wp_callS (idx := 23) (B2 := B3_shorten) (As := [.ref a1, .ref (h + 2 + cl (x4 - 1)), .ref (h + 2 + cl x4), .int 1]) (st := []) (by decide +kernel) m3_shorten ml3_23 k3_shorten (⟨Nat.le_of_ble_eq_true rfl, Nat.le_of_ble_eq_true rfl⟩ : rOK B3_lay B3_shorten) rfl (Nat.le_of_ble_eq_true rfl) (Nat.le_of_ble_eq_true rfl) ⟨Nat.le_of_ble_eq_true rfl, Nat.le_of_ble_eq_true rfl⟩ rfl (wp_mono H (fun v9 M9 hq9 => ?_))
            clear H
            obtain ⟨r28, I26, L27, rfl, rfl, H⟩ := hq9
            show wp X B3_lay 74 [(0, .ref h), (1, .ref a1), (2, .int x2), (3, .int x3), (4, .int x4)] [.int r28] (G, I26, L27) 0 0 _
            refine wp_pop (by decide +kernel) rfl ?_
            refine wp_iconst (z := 1) (v := 1) (by decide +kernel) (by decide) ?_
            refine wp_istore (i := 5) (lv' := [(5, .int 1), (0, .ref h), (1, .ref a1), (2, .int x2), (3, .int x3), (4, .int x4)]) (by decide +kernel) (by decide) rfl ?_
            refine wp_iconst (z := 0) (v := 0) (by decide +kernel) (by decide) ?_
            refine wp_istore (i := 6) (lv' := [(6, .int 0), (5, .int 1), (0, .ref h), (1, .ref a1), (2, .int x2), (3, .int x3), (4, .int x4)]) (by decide +kernel) (by decide) rfl ?_
            exact wp_sub [2, 3, 4, 5, 6, 1, 0] rfl H
set_option maxRecDepth 20000 in
theorem b3_lay_81 {X : XX} {G : GG} {I : Nat → Nat → Int32} {L : Nat → Nat → Int64} {h : Nat} {a1 : Nat} {x2 : Int32} {x3 : Int32} {x4 : Int32} {x5 : Int32} {x6 : Int32} {Q : (Nat → Nat → Int32) → (Nat → Nat → Int64) → Prop} (ok : OK3 G h) (ok1 : OK7 G a1) (H : if 32 ≤ x6 then (wpV X B3_lay 3 [(0, .ref h), (1, .ref a1), (2, .int x2), (3, .int x3), (4, .int (x4 + 1))] [] G I L Q) else (if x5 = (0 : Int32) then (wpV X B3_lay 3 [(0, .ref h), (1, .ref a1), (2, .int x2), (3, .int x3), (4, .int (x4 + 1))] [] G I L Q) else (vp_in x4 9 ∧ (vp_in x4 9 ∧ (wpI X B3_shorten 0 [(0, .ref a1), (1, .ref (h + 2 + cl x4)), (2, .ref (h + 2 + cl x4)), (3, .int 0)] [] G I L (fun r7 I5 L6 => wpV X B3_lay 81 [(0, .ref h), (1, .ref a1), (2, .int x2), (3, .int x3), (4, .int x4), (5, .int r7), (6, .int (x6 + 1))] [] G I5 L6 Q)))))) : wpV X B3_lay 81 [(0, .ref h), (1, .ref a1), (2, .int x2), (3, .int x3), (4, .int x4), (5, .int x5), (6, .int x6)] [] G I L Q := by
  refine wp_iload (i := 6) (x := x6) 6 (by decide +kernel) rfl ?_
  refine wp_bipush (z := 32) (v := 32) (by decide +kernel) (by decide) ?_
  refine wp_icmp_ge (off := 35) (tgt := 120) (by decide +kernel) (by decide) (fun c1 => ?_) (fun c1 => ?_)
  · rw [if_pos c1] at H
    refine wp_iinc (i := 4) (z := 1) (v := 1) (lv' := [(4, .int (x4 + 1)), (0, .ref h), (1, .ref a1), (2, .int x2), (3, .int x3), (5, .int x5), (6, .int x6)]) 4 (by decide +kernel) rfl (by decide) (by decide) rfl ?_
    refine wp_goto (off := -120) (tgt := 3) (by decide +kernel) (by decide) ?_
    exact wp_sub [1, 2, 3, 4, 0] rfl H
  · rw [if_neg c1] at H
    refine wp_iload (i := 5) (x := x5) 5 (by decide +kernel) rfl ?_
    refine wp_if_eq (off := 30) (tgt := 120) (by decide +kernel) (by decide) (fun c2 => ?_) (fun c2 => ?_)
    · rw [if_pos c2] at H
      refine wp_iinc (i := 4) (z := 1) (v := 1) (lv' := [(4, .int (x4 + 1)), (0, .ref h), (1, .ref a1), (2, .int x2), (3, .int x3), (5, .int x5), (6, .int x6)]) 4 (by decide +kernel) rfl (by decide) (by decide) rfl ?_
      refine wp_goto (off := -120) (tgt := 3) (by decide +kernel) (by decide) ?_
      exact wp_sub [1, 2, 3, 4, 0] rfl H
    · rw [if_neg c2] at H
      refine wp_aload_n (z := 1) (i := 1) (r := (some a1)) 1 (by decide +kernel) rfl rfl ?_
      refine wp_aload_n (z := 0) (i := 0) (r := (some h)) 0 (by decide +kernel) rfl rfl ?_
      refine wp_getS (idx := 11) (q := (h + 1)) (by decide +kernel) fl3_11 rfl ok.1 (okr3_0 ok) ?_
      refine wp_iload (i := 4) (x := x4) 4 (by decide +kernel) rfl ?_
      obtain ⟨o3, H⟩ := H
      refine wp_aaldR (q := (h + 2 + cl x4)) (by decide +kernel) (oks3_0 ok) o3 ((okw3 ok) (cl x4) (vin_lt o3)).1 ?_
      refine wp_aload_n (z := 0) (i := 0) (r := (some h)) 0 (by decide +kernel) rfl rfl ?_
      refine wp_getS (idx := 11) (q := (h + 1)) (by decide +kernel) fl3_11 rfl ok.1 (okr3_0 ok) ?_
      refine wp_iload (i := 4) (x := x4) 4 (by decide +kernel) rfl ?_
      obtain ⟨o4, H⟩ := H
      refine wp_aaldR (q := (h + 2 + cl x4)) (by decide +kernel) (oks3_0 ok) o4 ((okw3 ok) (cl x4) (vin_lt o4)).1 ?_
      refine wp_iconst (z := 0) (v := 0) (by decide +kernel) (by decide) ?_
      refine wp_callS (idx := 23) (B2 := B3_shorten) (As := [.ref a1, .ref (h + 2 + cl x4), .ref (h + 2 + cl x4), .int 0]) (st := []) (by decide +kernel) m3_shorten ml3_23 k3_shorten (⟨Nat.le_of_ble_eq_true rfl, Nat.le_of_ble_eq_true rfl⟩ : rOK B3_lay B3_shorten) rfl (Nat.le_of_ble_eq_true rfl) (Nat.le_of_ble_eq_true rfl) ⟨Nat.le_of_ble_eq_true rfl, Nat.le_of_ble_eq_true rfl⟩ rfl (wp_mono H (fun v9 M9 hq9 => ?_))
      clear H
      obtain ⟨r7, I5, L6, rfl, rfl, H⟩ := hq9
      show wp X B3_lay 112 [(0, .ref h), (1, .ref a1), (2, .int x2), (3, .int x3), (4, .int x4), (5, .int x5), (6, .int x6)] [.int r7] (G, I5, L6) 0 0 _
      refine wp_istore (i := 5) (lv' := [(5, .int r7), (0, .ref h), (1, .ref a1), (2, .int x2), (3, .int x3), (4, .int x4), (6, .int x6)]) (by decide +kernel) (by decide) rfl ?_
      refine wp_iinc (i := 6) (z := 1) (v := 1) (lv' := [(6, .int (x6 + 1)), (5, .int r7), (0, .ref h), (1, .ref a1), (2, .int x2), (3, .int x3), (4, .int x4)]) 6 (by decide +kernel) rfl (by decide) (by decide) rfl ?_
      refine wp_goto (off := -36) (tgt := 81) (by decide +kernel) (by decide) ?_
      exact wp_sub [2, 3, 4, 5, 6, 1, 0] rfl H
/-! DeafWall$Paths.lossTo(II)I -/
set_option maxRecDepth 20000 in
theorem b3_lossTo {X : XX} {G : GG} {I : Nat → Nat → Int32} {L : Nat → Nat → Int64} {h : Nat} {x1 : Int32} {x2 : Int32} {Q : Int32 → (Nat → Nat → Int32) → (Nat → Nat → Int64) → Prop} (ok : OK3 G h) (H : if x1 < (0 : Int32) then (Q 1000000 I L) else (if 32 ≤ x1 then (Q 1000000 I L) else (if x2 < (0 : Int32) then (Q 1000000 I L) else (if 8 < x2 then (Q 1000000 I L) else (vp_in x2 9 ∧ (vp_in x1 32 ∧ (Q (I (h + 2 + cl x2) (cl x1)) I L))))))) : wpI X B3_lossTo 0 [(0, .ref h), (1, .int x1), (2, .int x2)] [] G I L Q := by
  refine wp_iload_n (z := 1) (i := 1) (x := x1) 1 (by decide +kernel) rfl rfl ?_
  refine wp_if_lt (off := 30) (tgt := 31) (by decide +kernel) (by decide) (fun c1 => ?_) (fun c1 => ?_)
  · rw [if_pos c1] at H
    refine wp_ldc (idx := 16) (v := 1000000) (by decide +kernel) (in_g (List.mem_of_getElem? (i := 946) (by decide +kernel)) rfl) ?_
    exact wp_iret (by decide +kernel) rfl (Nat.zero_le _) (Nat.zero_le _) ⟨_, _, _, rfl, rfl, H⟩
  · rw [if_neg c1] at H
    refine wp_iload_n (z := 1) (i := 1) (x := x1) 1 (by decide +kernel) rfl rfl ?_
    refine wp_bipush (z := 32) (v := 32) (by decide +kernel) (by decide) ?_
    refine wp_icmp_ge (off := 24) (tgt := 31) (by decide +kernel) (by decide) (fun c2 => ?_) (fun c2 => ?_)
    · rw [if_pos c2] at H
      refine wp_ldc (idx := 16) (v := 1000000) (by decide +kernel) (in_g (List.mem_of_getElem? (i := 946) (by decide +kernel)) rfl) ?_
      exact wp_iret (by decide +kernel) rfl (Nat.zero_le _) (Nat.zero_le _) ⟨_, _, _, rfl, rfl, H⟩
    · rw [if_neg c2] at H
      refine wp_iload_n (z := 2) (i := 2) (x := x2) 2 (by decide +kernel) rfl rfl ?_
      refine wp_if_lt (off := 20) (tgt := 31) (by decide +kernel) (by decide) (fun c3 => ?_) (fun c3 => ?_)
      · rw [if_pos c3] at H
        refine wp_ldc (idx := 16) (v := 1000000) (by decide +kernel) (in_g (List.mem_of_getElem? (i := 946) (by decide +kernel)) rfl) ?_
        exact wp_iret (by decide +kernel) rfl (Nat.zero_le _) (Nat.zero_le _) ⟨_, _, _, rfl, rfl, H⟩
      · rw [if_neg c3] at H
        refine wp_iload_n (z := 2) (i := 2) (x := x2) 2 (by decide +kernel) rfl rfl ?_
        refine wp_bipush (z := 8) (v := 8) (by decide +kernel) (by decide) ?_
        refine wp_icmp_gt (off := 14) (tgt := 31) (by decide +kernel) (by decide) (fun c4 => ?_) (fun c4 => ?_)
        · rw [if_pos c4] at H
          refine wp_ldc (idx := 16) (v := 1000000) (by decide +kernel) (in_g (List.mem_of_getElem? (i := 946) (by decide +kernel)) rfl) ?_
          exact wp_iret (by decide +kernel) rfl (Nat.zero_le _) (Nat.zero_le _) ⟨_, _, _, rfl, rfl, H⟩
        · rw [if_neg c4] at H
          refine wp_aload_n (z := 0) (i := 0) (r := (some h)) 0 (by decide +kernel) rfl rfl ?_
          refine wp_getS (idx := 11) (q := (h + 1)) (by decide +kernel) fl3_11 rfl ok.1 (okr3_0 ok) ?_
          refine wp_iload_n (z := 2) (i := 2) (x := x2) 2 (by decide +kernel) rfl rfl ?_
          obtain ⟨o5, H⟩ := H
          refine wp_aaldR (q := (h + 2 + cl x2)) (by decide +kernel) (oks3_0 ok) o5 ((okw3 ok) (cl x2) (vin_lt o5)).1 ?_
          refine wp_iload_n (z := 1) (i := 1) (x := x1) 1 (by decide +kernel) rfl rfl ?_
          obtain ⟨o6, H⟩ := H
          refine wp_iald (j := (cl x1)) (by decide +kernel) ((okw3 ok) (cl x2) (vin_lt o5)).2 o6 rfl ?_
          refine wp_goto (off := 5) (tgt := 33) (by decide +kernel) (by decide) ?_
          exact wp_iret (by decide +kernel) rfl (Nat.zero_le _) (Nat.zero_le _) ⟨_, _, _, rfl, rfl, H⟩
/-! DeafWall.dried(III)I -/
set_option maxRecDepth 20000 in
theorem b8_dried {X : XX} {G : GG} {I : Nat → Nat → Int32} {L : Nat → Nat → Int64} {h : Nat} {x1 : Int32} {x2 : Int32} {x3 : Int32} {Q : Int32 → (Nat → Nat → Int32) → (Nat → Nat → Int64) → Prop} (ok : OK8 G h) (H : wpR X B8_wallAt 0 [(0, .ref h), (1, .int x1)] [] G I L (fun r3 I1 L2 => (r3 = none → Q (-1) I1 L2) ∧ (∀ q5, r3 = some q5 → OK7 G q5 ∧ (if (v7_hasFeeler I1 q5 x2) = (0 : Int32) then (Q (-1) I1 L2) else (if x3 < (0 : Int32) then (Q (-1) I1 L2) else (if x3 ≤ 8 then (wpV X B3_lay 0 [(0, .ref (h + 47)), (1, .ref q5), (2, .int (I1 q5 2)), (3, .int x3)] [] G I1 L2 (fun I10 L11 => vp_in x2 6 ∧ (vp_in x2 6 ∧ (wpI X B3_lossTo 0 [(0, .ref (h + 47)), (1, .int (I10 (q5 + 2) (cl x2))), (2, .int x3)] [] G I10 L11 (fun r15 I13 L14 => ∀ u16, u16 = ((I10 (q5 + 3) (cl x2)) + r15) → if 9 < u16 then (Q (-1) I13 L14) else (Q u16 I13 L14)))))) else (Q (-1) I1 L2))))))) : wpI X B8_dried 0 [(0, .ref h), (1, .int x1), (2, .int x2), (3, .int x3)] [] G I L Q := by
  refine wp_aload_n (z := 0) (i := 0) (r := (some h)) 0 (by decide +kernel) rfl rfl ?_
  refine wp_iload_n (z := 1) (i := 1) (x := x1) 1 (by decide +kernel) rfl rfl ?_
  refine wp_callV (idx := 129) (B2 := B8_wallAt) (As := [.int x1]) (a := h) (st := []) (by decide +kernel) m8_wallAt ml8_129 k8_wallAt e8_wallAt ck8 ok.1 (⟨Nat.le_of_ble_eq_true rfl, Nat.le_of_ble_eq_true rfl⟩ : rOK B8_dried B8_wallAt) rfl (Nat.le_of_ble_eq_true rfl) (Nat.le_of_ble_eq_true rfl) ⟨Nat.le_of_ble_eq_true rfl, Nat.le_of_ble_eq_true rfl⟩ rfl (wp_mono H (fun v9 M9 hq9 => ?_))
  clear H
  obtain ⟨r3, I1, L2, rfl, rfl, H⟩ := hq9
  show wp X B8_dried 5 [(0, .ref h), (1, .int x1), (2, .int x2), (3, .int x3)] [va_rf r3] (G, I1, L2) 0 0 _
  refine wp_astore (i := 4) (lv' := [(4, va_rf r3), (0, .ref h), (1, .int x1), (2, .int x2), (3, .int x3)]) (r := r3) (by decide +kernel) (by decide) (by cases r3 <;> rfl) ?_
  refine wp_aload (i := 4) (r := r3) 0 (by decide +kernel) rfl ?_
  refine wp_ifnull (off := 22) (tgt := 31) (r := r3) (by decide +kernel) (by decide) (fun c4 => ?_) (fun q5 c4 => ?_)
  · replace H := H.1 c4
    subst c4
    show wp X B8_dried 31 [(4, .null), (0, .ref h), (1, .int x1), (2, .int x2), (3, .int x3)] [] (G, I1, L2) 0 0 _
    refine wp_iconst (z := -1) (v := (-1)) (by decide +kernel) (by decide) ?_
    exact wp_iret (by decide +kernel) rfl (Nat.zero_le _) (Nat.zero_le _) ⟨_, _, _, rfl, rfl, H⟩
  · replace H := H.2 q5 c4
    subst c4
    show wp X B8_dried 12 [(4, .ref q5), (0, .ref h), (1, .int x1), (2, .int x2), (3, .int x3)] [] (G, I1, L2) 0 0 _
    refine wp_aload (i := 4) (r := (some q5)) 0 (by decide +kernel) rfl ?_
    refine wp_iload_n (z := 2) (i := 2) (x := x2) 3 (by decide +kernel) rfl rfl ?_
    obtain ⟨f6, H⟩ := H
    refine wp_callV (idx := 151) (B2 := B7_hasFeeler) (As := [.int x2]) (a := q5) (st := []) (by decide +kernel) m7_hasFeeler ml8_151 k7_hasFeeler e7_hasFeeler ck7 f6.1 (⟨Nat.le_of_ble_eq_true rfl, Nat.le_of_ble_eq_true rfl⟩ : rOK B8_dried B7_hasFeeler) rfl (Nat.le_of_ble_eq_true rfl) (Nat.le_of_ble_eq_true rfl) ⟨Nat.le_of_ble_eq_true rfl, Nat.le_of_ble_eq_true rfl⟩ rfl (wp_mono (b7_hasFeeler (Q := (fun r I' L' => r = (v7_hasFeeler I1 q5 x2) ∧ I1 = I' ∧ L2 = L')) f6 ⟨rfl, rfl, rfl⟩) (fun v9 M9 hq9 => ?_))
    obtain ⟨_, _, _, rfl, rfl, rfl, rfl, rfl⟩ := hq9
    show wp X B8_dried 18 [(4, .ref q5), (0, .ref h), (1, .int x1), (2, .int x2), (3, .int x3)] [.int (v7_hasFeeler I1 q5 x2)] (G, I1, L2) 0 0 _
    refine wp_if_eq (off := 13) (tgt := 31) (by decide +kernel) (by decide) (fun c7 => ?_) (fun c7 => ?_)
    · rw [if_pos c7] at H
      refine wp_iconst (z := -1) (v := (-1)) (by decide +kernel) (by decide) ?_
      exact wp_iret (by decide +kernel) rfl (Nat.zero_le _) (Nat.zero_le _) ⟨_, _, _, rfl, rfl, H⟩
    · rw [if_neg c7] at H
      refine wp_iload_n (z := 3) (i := 3) (x := x3) 4 (by decide +kernel) rfl rfl ?_
      refine wp_if_lt (off := 9) (tgt := 31) (by decide +kernel) (by decide) (fun c8 => ?_) (fun c8 => ?_)
      · rw [if_pos c8] at H
        refine wp_iconst (z := -1) (v := (-1)) (by decide +kernel) (by decide) ?_
        exact wp_iret (by decide +kernel) rfl (Nat.zero_le _) (Nat.zero_le _) ⟨_, _, _, rfl, rfl, H⟩
      · rw [if_neg c8] at H
        refine wp_iload_n (z := 3) (i := 3) (x := x3) 4 (by decide +kernel) rfl rfl ?_
        refine wp_bipush (z := 8) (v := 8) (by decide +kernel) (by decide) ?_
        refine wp_icmp_le (off := 5) (tgt := 33) (by decide +kernel) (by decide) (fun c9 => ?_) (fun c9 => ?_)
        · rw [if_pos c9] at H
          refine wp_aload_n (z := 0) (i := 0) (r := (some h)) 1 (by decide +kernel) rfl rfl ?_
          refine wp_getS (idx := 44) (q := (h + 47)) (by decide +kernel) fl8_44 rfl ok.1 (okr8_5 ok) ?_
          refine wp_aload (i := 4) (r := (some q5)) 0 (by decide +kernel) rfl ?_
          refine wp_aload (i := 4) (r := (some q5)) 0 (by decide +kernel) rfl ?_
          refine wp_getI (idx := 166) (by decide +kernel) fl8_166 rfl f6.1 ?_
          refine wp_iload_n (z := 3) (i := 3) (x := x3) 4 (by decide +kernel) rfl rfl ?_
          refine wp_callV (idx := 324) (B2 := B3_lay) (As := [.ref q5, .int (I1 q5 2), .int x3]) (a := (h + 47)) (st := []) (by decide +kernel) m3_lay ml8_324 k3_lay e3_lay ck3 (oko8_5 ok).1 (⟨Nat.le_of_ble_eq_true rfl, Nat.le_of_ble_eq_true rfl⟩ : rOK B8_dried B3_lay) rfl (Nat.le_of_ble_eq_true rfl) (Nat.le_of_ble_eq_true rfl) ⟨Nat.le_of_ble_eq_true rfl, Nat.le_of_ble_eq_true rfl⟩ rfl (wp_mono H (fun v9 M9 hq9 => ?_))
          clear H
          obtain ⟨I10, L11, rfl, rfl, H⟩ := hq9
          show wp X B8_dried 48 [(4, .ref q5), (0, .ref h), (1, .int x1), (2, .int x2), (3, .int x3)] [] (G, I10, L11) 0 0 _
          refine wp_aload (i := 4) (r := (some q5)) 0 (by decide +kernel) rfl ?_
          refine wp_getS (idx := 154) (q := (q5 + 3)) (by decide +kernel) fl8_154 rfl f6.1 (okr7_6 f6) ?_
          refine wp_iload_n (z := 2) (i := 2) (x := x2) 3 (by decide +kernel) rfl rfl ?_
          obtain ⟨o19, H⟩ := H
          refine wp_iald (j := (cl x2)) (by decide +kernel) (oks7_6 f6) o19 rfl ?_
          refine wp_aload_n (z := 0) (i := 0) (r := (some h)) 1 (by decide +kernel) rfl rfl ?_
          refine wp_getS (idx := 44) (q := (h + 47)) (by decide +kernel) fl8_44 rfl ok.1 (okr8_5 ok) ?_
          refine wp_aload (i := 4) (r := (some q5)) 0 (by decide +kernel) rfl ?_
          refine wp_getS (idx := 157) (q := (q5 + 2)) (by decide +kernel) fl8_157 rfl f6.1 (okr7_5 f6) ?_
          refine wp_iload_n (z := 2) (i := 2) (x := x2) 3 (by decide +kernel) rfl rfl ?_
          obtain ⟨o18, H⟩ := H
          refine wp_iald (j := (cl x2)) (by decide +kernel) (oks7_5 f6) o18 rfl ?_
          refine wp_iload_n (z := 3) (i := 3) (x := x3) 4 (by decide +kernel) rfl rfl ?_
          refine wp_callV (idx := 327) (B2 := B3_lossTo) (As := [.int (I10 (q5 + 2) (cl x2)), .int x3]) (a := (h + 47)) (st := [.int (I10 (q5 + 3) (cl x2))]) (by decide +kernel) m3_lossTo ml8_327 k3_lossTo e3_lossTo ck3 (oko8_5 ok).1 (⟨Nat.le_of_ble_eq_true rfl, Nat.le_of_ble_eq_true rfl⟩ : rOK B8_dried B3_lossTo) rfl (Nat.le_of_ble_eq_true rfl) (Nat.le_of_ble_eq_true rfl) ⟨Nat.le_of_ble_eq_true rfl, Nat.le_of_ble_eq_true rfl⟩ rfl (wp_mono H (fun v9 M9 hq9 => ?_))
          clear H
          obtain ⟨r15, I13, L14, rfl, rfl, H⟩ := hq9
          show wp X B8_dried 70 [(4, .ref q5), (0, .ref h), (1, .int x1), (2, .int x2), (3, .int x3)] [.int r15, .int (I10 (q5 + 3) (cl x2))] (G, I13, L14) 0 0 _
          refine wp_iadd (by decide +kernel) ?_
          refine wp_topi (fun u16 eu16 => ?_)
          replace H := H u16 eu16
          refine wp_istore (i := 5) (lv' := [(5, .int u16), (4, .ref q5), (0, .ref h), (1, .int x1), (2, .int x2), (3, .int x3)]) (by decide +kernel) (by decide) rfl ?_
          refine wp_iload (i := 5) (x := u16) 0 (by decide +kernel) rfl ?_
          refine wp_bipush (z := 9) (v := 9) (by decide +kernel) (by decide) ?_
          refine wp_icmp_gt (off := 8) (tgt := 85) (by decide +kernel) (by decide) (fun c17 => ?_) (fun c17 => ?_)
          · rw [if_pos c17] at H
            refine wp_iconst (z := -1) (v := (-1)) (by decide +kernel) (by decide) ?_
            exact wp_iret (by decide +kernel) rfl (Nat.zero_le _) (Nat.zero_le _) ⟨_, _, _, rfl, rfl, H⟩
          · rw [if_neg c17] at H
            refine wp_iload (i := 5) (x := u16) 0 (by decide +kernel) rfl ?_
            refine wp_goto (off := 4) (tgt := 86) (by decide +kernel) (by decide) ?_
            exact wp_iret (by decide +kernel) rfl (Nat.zero_le _) (Nat.zero_le _) ⟨_, _, _, rfl, rfl, H⟩
        · rw [if_neg c9] at H
          refine wp_iconst (z := -1) (v := (-1)) (by decide +kernel) (by decide) ?_
          exact wp_iret (by decide +kernel) rfl (Nat.zero_le _) (Nat.zero_le _) ⟨_, _, _, rfl, rfl, H⟩
/-! DeafWall.longestRow(I)I -/
set_option maxRecDepth 20000 in
theorem b8_longestRow {X : XX} {G : GG} {I : Nat → Nat → Int32} {L : Nat → Nat → Int64} {x0 : Int32} {Q : Int32 → (Nat → Nat → Int32) → (Nat → Nat → Int64) → Prop}  (H : wpI X B8_longestRow 6 [(0, .int x0), (1, .int 0), (2, .int 0), (3, .int 0)] [] G I L Q) : wpI X B8_longestRow 0 [(0, .int x0)] [] G I L Q := by
  refine wp_iconst (z := 0) (v := 0) (by decide +kernel) (by decide) ?_
  refine wp_istore_n (z := 1) (i := 1) (lv' := [(1, .int 0), (0, .int x0)]) (by decide +kernel) rfl (by decide) rfl ?_
  refine wp_iconst (z := 0) (v := 0) (by decide +kernel) (by decide) ?_
  refine wp_istore_n (z := 2) (i := 2) (lv' := [(2, .int 0), (1, .int 0), (0, .int x0)]) (by decide +kernel) rfl (by decide) rfl ?_
  refine wp_iconst (z := 0) (v := 0) (by decide +kernel) (by decide) ?_
  refine wp_istore_n (z := 3) (i := 3) (lv' := [(3, .int 0), (2, .int 0), (1, .int 0), (0, .int x0)]) (by decide +kernel) rfl (by decide) rfl ?_
  exact wp_sub [3, 2, 1, 0] rfl H
set_option maxRecDepth 20000 in
theorem b8_longestRow_6 {X : XX} {G : GG} {I : Nat → Nat → Int32} {L : Nat → Nat → Int64} {x0 : Int32} {x1 : Int32} {x2 : Int32} {x3 : Int32} {Q : Int32 → (Nat → Nat → Int32) → (Nat → Nat → Int64) → Prop}  (H : if 20 ≤ x3 then (Q x1 I L) else (if ((x0 >>> (x3 &&& 31)) &&& 1) = 1 then (∀ u3, u3 = (mx x1 (x2 + 1)) → wpI X B8_longestRow 6 [(0, .int x0), (1, .int u3), (2, .int (x2 + 1)), (3, .int (x3 + 1))] [] G I L Q) else (wpI X B8_longestRow 6 [(0, .int x0), (1, .int (mx x1 0)), (2, .int 0), (3, .int (x3 + 1))] [] G I L Q))) : wpI X B8_longestRow 6 [(0, .int x0), (1, .int x1), (2, .int x2), (3, .int x3)] [] G I L Q := by
  refine wp_iload_n (z := 3) (i := 3) (x := x3) 3 (by decide +kernel) rfl rfl ?_
  refine wp_bipush (z := 20) (v := 20) (by decide +kernel) (by decide) ?_
  refine wp_icmp_ge (off := 32) (tgt := 41) (by decide +kernel) (by decide) (fun c1 => ?_) (fun c1 => ?_)
  · rw [if_pos c1] at H
    refine wp_iload_n (z := 1) (i := 1) (x := x1) 1 (by decide +kernel) rfl rfl ?_
    exact wp_iret (by decide +kernel) rfl (Nat.zero_le _) (Nat.zero_le _) ⟨_, _, _, rfl, rfl, H⟩
  · rw [if_neg c1] at H
    refine wp_iload_n (z := 0) (i := 0) (x := x0) 0 (by decide +kernel) rfl rfl ?_
    refine wp_iload_n (z := 3) (i := 3) (x := x3) 3 (by decide +kernel) rfl rfl ?_
    refine wp_ishr (by decide +kernel) ?_
    refine wp_iconst (z := 1) (v := 1) (by decide +kernel) (by decide) ?_
    refine wp_iand (by decide +kernel) ?_
    refine wp_iconst (z := 1) (v := 1) (by decide +kernel) (by decide) ?_
    refine wp_icmp_ne (off := 9) (tgt := 27) (by decide +kernel) (by decide) (fun c2 => ?_) (fun c2 => ?_)
    · rw [if_neg c2] at H
      refine wp_iconst (z := 0) (v := 0) (by decide +kernel) (by decide) ?_
      refine wp_istore_n (z := 2) (i := 2) (lv' := [(2, .int 0), (0, .int x0), (1, .int x1), (3, .int x3)]) (by decide +kernel) rfl (by decide) rfl ?_
      refine wp_iload_n (z := 1) (i := 1) (x := x1) 2 (by decide +kernel) rfl rfl ?_
      refine wp_iload_n (z := 2) (i := 2) (x := 0) 0 (by decide +kernel) rfl rfl ?_
      refine wp_mmax (idx := 333) (by decide +kernel) (in_g (List.mem_of_getElem? (i := 749) (by decide +kernel)) rfl) (in_g (List.mem_of_getElem? (i := 646) (by decide +kernel)) rfl) (in_g (List.mem_of_getElem? (i := 127) (by decide +kernel)) rfl) (in_g (List.mem_of_getElem? (i := 647) (by decide +kernel)) (by decide +kernel)) (Nat.le_of_ble_eq_true rfl) (Nat.le_of_ble_eq_true rfl) (Nat.le_of_ble_eq_true rfl) (Nat.le_of_ble_eq_true rfl) ?_
      refine wp_istore_n (z := 1) (i := 1) (lv' := [(1, .int (mx x1 0)), (2, .int 0), (0, .int x0), (3, .int x3)]) (by decide +kernel) rfl (by decide) rfl ?_
      refine wp_iinc (i := 3) (z := 1) (v := 1) (lv' := [(3, .int (x3 + 1)), (1, .int (mx x1 0)), (2, .int 0), (0, .int x0)]) 3 (by decide +kernel) rfl (by decide) (by decide) rfl ?_
      refine wp_goto (off := -32) (tgt := 6) (by decide +kernel) (by decide) ?_
      exact wp_sub [3, 1, 2, 0] rfl H
    · rw [if_pos c2] at H
      refine wp_iload_n (z := 2) (i := 2) (x := x2) 2 (by decide +kernel) rfl rfl ?_
      refine wp_iconst (z := 1) (v := 1) (by decide +kernel) (by decide) ?_
      refine wp_iadd (by decide +kernel) ?_
      refine wp_goto (off := 4) (tgt := 28) (by decide +kernel) (by decide) ?_
      refine wp_istore_n (z := 2) (i := 2) (lv' := [(2, .int (x2 + 1)), (0, .int x0), (1, .int x1), (3, .int x3)]) (by decide +kernel) rfl (by decide) rfl ?_
      refine wp_iload_n (z := 1) (i := 1) (x := x1) 2 (by decide +kernel) rfl rfl ?_
      refine wp_iload_n (z := 2) (i := 2) (x := (x2 + 1)) 0 (by decide +kernel) rfl rfl ?_
      refine wp_mmax (idx := 333) (by decide +kernel) (in_g (List.mem_of_getElem? (i := 749) (by decide +kernel)) rfl) (in_g (List.mem_of_getElem? (i := 646) (by decide +kernel)) rfl) (in_g (List.mem_of_getElem? (i := 127) (by decide +kernel)) rfl) (in_g (List.mem_of_getElem? (i := 647) (by decide +kernel)) (by decide +kernel)) (Nat.le_of_ble_eq_true rfl) (Nat.le_of_ble_eq_true rfl) (Nat.le_of_ble_eq_true rfl) (Nat.le_of_ble_eq_true rfl) ?_
      refine wp_topi (fun u3 eu3 => ?_)
      replace H := H u3 eu3
      refine wp_istore_n (z := 1) (i := 1) (lv' := [(1, .int u3), (2, .int (x2 + 1)), (0, .int x0), (3, .int x3)]) (by decide +kernel) rfl (by decide) rfl ?_
      refine wp_iinc (i := 3) (z := 1) (v := 1) (lv' := [(3, .int (x3 + 1)), (1, .int u3), (2, .int (x2 + 1)), (0, .int x0)]) 3 (by decide +kernel) rfl (by decide) (by decide) rfl ?_
      refine wp_goto (off := -32) (tgt := 6) (by decide +kernel) (by decide) ?_
      exact wp_sub [3, 1, 2, 0] rfl H
/-! DeafWall.hold(IIII)I -/
set_option maxRecDepth 20000 in
theorem b8_hold {X : XX} {G : GG} {I : Nat → Nat → Int32} {L : Nat → Nat → Int64} {h : Nat} {x1 : Int32} {x2 : Int32} {x3 : Int32} {x4 : Int32} {Q : Int32 → (Nat → Nat → Int32) → (Nat → Nat → Int64) → Prop} (ok : OK8 G h) (H : wpR X B8_wallAt 0 [(0, .ref h), (1, .int x1)] [] G I L (fun r3 I1 L2 => (r3 = none → Q (-2) I1 L2) ∧ (∀ q5, r3 = some q5 → OK7 G q5 ∧ (if (v7_hasFeeler I1 q5 x2) = (0 : Int32) then (Q (-2) I1 L2) else (if x3 < (0 : Int32) then (Q (-2) I1 L2) else (if x3 ≤ 9 then (wpV X B1_sound 0 [(0, .ref (h + 24)), (1, .ref q5)] [] G I1 L2 (fun I10 L11 => vp_in x2 6 ∧ (vp_in x2 6 ∧ (wpI X B1_beatsFelt 0 [(0, .ref (h + 24)), (1, .int (I10 (q5 + 2) (cl x2))), (2, .int (I10 (q5 + 3) (cl x2))), (3, .int x3)] [] G I10 L11 (fun r15 I13 L14 => wpI X B8_hold 73 [(4, .int x4), (6, .int r15), (7, .int 0), (8, .int 0)] [] G I13 L14 Q))))) else (Q (-2) I1 L2))))))) : wpI X B8_hold 0 [(0, .ref h), (1, .int x1), (2, .int x2), (3, .int x3), (4, .int x4)] [] G I L Q := by
  refine wp_aload_n (z := 0) (i := 0) (r := (some h)) 0 (by decide +kernel) rfl rfl ?_
  refine wp_iload_n (z := 1) (i := 1) (x := x1) 1 (by decide +kernel) rfl rfl ?_
  refine wp_callV (idx := 129) (B2 := B8_wallAt) (As := [.int x1]) (a := h) (st := []) (by decide +kernel) m8_wallAt ml8_129 k8_wallAt e8_wallAt ck8 ok.1 (⟨Nat.le_of_ble_eq_true rfl, Nat.le_of_ble_eq_true rfl⟩ : rOK B8_hold B8_wallAt) rfl (Nat.le_of_ble_eq_true rfl) (Nat.le_of_ble_eq_true rfl) ⟨Nat.le_of_ble_eq_true rfl, Nat.le_of_ble_eq_true rfl⟩ rfl (wp_mono H (fun v9 M9 hq9 => ?_))
  clear H
  obtain ⟨r3, I1, L2, rfl, rfl, H⟩ := hq9
  show wp X B8_hold 5 [(0, .ref h), (1, .int x1), (2, .int x2), (3, .int x3), (4, .int x4)] [va_rf r3] (G, I1, L2) 0 0 _
  refine wp_astore (i := 5) (lv' := [(5, va_rf r3), (0, .ref h), (1, .int x1), (2, .int x2), (3, .int x3), (4, .int x4)]) (r := r3) (by decide +kernel) (by decide) (by cases r3 <;> rfl) ?_
  refine wp_aload (i := 5) (r := r3) 0 (by decide +kernel) rfl ?_
  refine wp_ifnull (off := 22) (tgt := 31) (r := r3) (by decide +kernel) (by decide) (fun c4 => ?_) (fun q5 c4 => ?_)
  · replace H := H.1 c4
    subst c4
    show wp X B8_hold 31 [(5, .null), (0, .ref h), (1, .int x1), (2, .int x2), (3, .int x3), (4, .int x4)] [] (G, I1, L2) 0 0 _
    refine wp_bipush (z := -2) (v := (-2)) (by decide +kernel) (by decide) ?_
    exact wp_iret (by decide +kernel) rfl (Nat.zero_le _) (Nat.zero_le _) ⟨_, _, _, rfl, rfl, H⟩
  · replace H := H.2 q5 c4
    subst c4
    show wp X B8_hold 12 [(5, .ref q5), (0, .ref h), (1, .int x1), (2, .int x2), (3, .int x3), (4, .int x4)] [] (G, I1, L2) 0 0 _
    refine wp_aload (i := 5) (r := (some q5)) 0 (by decide +kernel) rfl ?_
    refine wp_iload_n (z := 2) (i := 2) (x := x2) 3 (by decide +kernel) rfl rfl ?_
    obtain ⟨f6, H⟩ := H
    refine wp_callV (idx := 151) (B2 := B7_hasFeeler) (As := [.int x2]) (a := q5) (st := []) (by decide +kernel) m7_hasFeeler ml8_151 k7_hasFeeler e7_hasFeeler ck7 f6.1 (⟨Nat.le_of_ble_eq_true rfl, Nat.le_of_ble_eq_true rfl⟩ : rOK B8_hold B7_hasFeeler) rfl (Nat.le_of_ble_eq_true rfl) (Nat.le_of_ble_eq_true rfl) ⟨Nat.le_of_ble_eq_true rfl, Nat.le_of_ble_eq_true rfl⟩ rfl (wp_mono (b7_hasFeeler (Q := (fun r I' L' => r = (v7_hasFeeler I1 q5 x2) ∧ I1 = I' ∧ L2 = L')) f6 ⟨rfl, rfl, rfl⟩) (fun v9 M9 hq9 => ?_))
    obtain ⟨_, _, _, rfl, rfl, rfl, rfl, rfl⟩ := hq9
    show wp X B8_hold 18 [(5, .ref q5), (0, .ref h), (1, .int x1), (2, .int x2), (3, .int x3), (4, .int x4)] [.int (v7_hasFeeler I1 q5 x2)] (G, I1, L2) 0 0 _
    refine wp_if_eq (off := 13) (tgt := 31) (by decide +kernel) (by decide) (fun c7 => ?_) (fun c7 => ?_)
    · rw [if_pos c7] at H
      refine wp_bipush (z := -2) (v := (-2)) (by decide +kernel) (by decide) ?_
      exact wp_iret (by decide +kernel) rfl (Nat.zero_le _) (Nat.zero_le _) ⟨_, _, _, rfl, rfl, H⟩
    · rw [if_neg c7] at H
      refine wp_iload_n (z := 3) (i := 3) (x := x3) 4 (by decide +kernel) rfl rfl ?_
      refine wp_if_lt (off := 9) (tgt := 31) (by decide +kernel) (by decide) (fun c8 => ?_) (fun c8 => ?_)
      · rw [if_pos c8] at H
        refine wp_bipush (z := -2) (v := (-2)) (by decide +kernel) (by decide) ?_
        exact wp_iret (by decide +kernel) rfl (Nat.zero_le _) (Nat.zero_le _) ⟨_, _, _, rfl, rfl, H⟩
      · rw [if_neg c8] at H
        refine wp_iload_n (z := 3) (i := 3) (x := x3) 4 (by decide +kernel) rfl rfl ?_
        refine wp_bipush (z := 9) (v := 9) (by decide +kernel) (by decide) ?_
        refine wp_icmp_le (off := 6) (tgt := 34) (by decide +kernel) (by decide) (fun c9 => ?_) (fun c9 => ?_)
        · rw [if_pos c9] at H
          refine wp_aload_n (z := 0) (i := 0) (r := (some h)) 1 (by decide +kernel) rfl rfl ?_
          refine wp_getS (idx := 37) (q := (h + 24)) (by decide +kernel) fl8_37 rfl ok.1 (okr8_4 ok) ?_
          refine wp_aload (i := 5) (r := (some q5)) 0 (by decide +kernel) rfl ?_
          refine wp_callV (idx := 281) (B2 := B1_sound) (As := [.ref q5]) (a := (h + 24)) (st := []) (by decide +kernel) m1_sound ml8_281 k1_sound e1_sound ck1 (oko8_4 ok).1 (⟨Nat.le_of_ble_eq_true rfl, Nat.le_of_ble_eq_true rfl⟩ : rOK B8_hold B1_sound) rfl (Nat.le_of_ble_eq_true rfl) (Nat.le_of_ble_eq_true rfl) ⟨Nat.le_of_ble_eq_true rfl, Nat.le_of_ble_eq_true rfl⟩ rfl (wp_mono H (fun v9 M9 hq9 => ?_))
          clear H
          obtain ⟨I10, L11, rfl, rfl, H⟩ := hq9
          show wp X B8_hold 43 [(5, .ref q5), (0, .ref h), (1, .int x1), (2, .int x2), (3, .int x3), (4, .int x4)] [] (G, I10, L11) 0 0 _
          refine wp_aload_n (z := 0) (i := 0) (r := (some h)) 1 (by decide +kernel) rfl rfl ?_
          refine wp_getS (idx := 37) (q := (h + 24)) (by decide +kernel) fl8_37 rfl ok.1 (okr8_4 ok) ?_
          refine wp_aload (i := 5) (r := (some q5)) 0 (by decide +kernel) rfl ?_
          refine wp_getS (idx := 157) (q := (q5 + 2)) (by decide +kernel) fl8_157 rfl f6.1 (okr7_5 f6) ?_
          refine wp_iload_n (z := 2) (i := 2) (x := x2) 3 (by decide +kernel) rfl rfl ?_
          obtain ⟨o17, H⟩ := H
          refine wp_iald (j := (cl x2)) (by decide +kernel) (oks7_5 f6) o17 rfl ?_
          refine wp_aload (i := 5) (r := (some q5)) 0 (by decide +kernel) rfl ?_
          refine wp_getS (idx := 154) (q := (q5 + 3)) (by decide +kernel) fl8_154 rfl f6.1 (okr7_6 f6) ?_
          refine wp_iload_n (z := 2) (i := 2) (x := x2) 3 (by decide +kernel) rfl rfl ?_
          obtain ⟨o16, H⟩ := H
          refine wp_iald (j := (cl x2)) (by decide +kernel) (oks7_6 f6) o16 rfl ?_
          refine wp_iload_n (z := 3) (i := 3) (x := x3) 4 (by decide +kernel) rfl rfl ?_
          refine wp_callV (idx := 287) (B2 := B1_beatsFelt) (As := [.int (I10 (q5 + 2) (cl x2)), .int (I10 (q5 + 3) (cl x2)), .int x3]) (a := (h + 24)) (st := []) (by decide +kernel) m1_beatsFelt ml8_287 k1_beatsFelt e1_beatsFelt ck1 (oko8_4 ok).1 (⟨Nat.le_of_ble_eq_true rfl, Nat.le_of_ble_eq_true rfl⟩ : rOK B8_hold B1_beatsFelt) rfl (Nat.le_of_ble_eq_true rfl) (Nat.le_of_ble_eq_true rfl) ⟨Nat.le_of_ble_eq_true rfl, Nat.le_of_ble_eq_true rfl⟩ rfl (wp_mono H (fun v9 M9 hq9 => ?_))
          clear H
          obtain ⟨r15, I13, L14, rfl, rfl, H⟩ := hq9
          show wp X B8_hold 65 [(5, .ref q5), (0, .ref h), (1, .int x1), (2, .int x2), (3, .int x3), (4, .int x4)] [.int r15] (G, I13, L14) 0 0 _
          refine wp_istore (i := 6) (lv' := [(6, .int r15), (5, .ref q5), (0, .ref h), (1, .int x1), (2, .int x2), (3, .int x3), (4, .int x4)]) (by decide +kernel) (by decide) rfl ?_
          refine wp_iconst (z := 0) (v := 0) (by decide +kernel) (by decide) ?_
          refine wp_istore (i := 7) (lv' := [(7, .int 0), (6, .int r15), (5, .ref q5), (0, .ref h), (1, .int x1), (2, .int x2), (3, .int x3), (4, .int x4)]) (by decide +kernel) (by decide) rfl ?_
          refine wp_iconst (z := 0) (v := 0) (by decide +kernel) (by decide) ?_
          refine wp_istore (i := 8) (lv' := [(8, .int 0), (7, .int 0), (6, .int r15), (5, .ref q5), (0, .ref h), (1, .int x1), (2, .int x2), (3, .int x3), (4, .int x4)]) (by decide +kernel) (by decide) rfl ?_
          exact wp_sub [8, 2, 1, 0] rfl H
        · rw [if_neg c9] at H
          refine wp_bipush (z := -2) (v := (-2)) (by decide +kernel) (by decide) ?_
          exact wp_iret (by decide +kernel) rfl (Nat.zero_le _) (Nat.zero_le _) ⟨_, _, _, rfl, rfl, H⟩
set_option maxRecDepth 20000 in
theorem b8_hold_73 {X : XX} {G : GG} {I : Nat → Nat → Int32} {L : Nat → Nat → Int64} {x4 : Int32} {x6 : Int32} {x7 : Int32} {x8 : Int32} {Q : Int32 → (Nat → Nat → Int32) → (Nat → Nat → Int64) → Prop}  (H : if 20 ≤ x8 then (if x4 = 0 then (Q (v12_bitCount x7) I L) else (if x4 = 1 then (if x7 = (0 : Int32) then (Q (-1) I L) else (Q (v12_numberOfTrailingZeros x7) I L)) else (if x4 = 2 then (wpI X B8_longestRow 0 [(0, .int x7)] [] G I L (fun r10 I8 L9 => Q r10 I8 L9)) else (Q (-2) I L)))) else (∀ u11, u11 = (x7 ||| ((x6 <<< (x8 &&& 31)) &&& 1048575)) → wpI X B8_hold 73 [(4, .int x4), (6, .int x6), (7, .int u11), (8, .int (x8 + 1))] [] G I L Q)) : wpI X B8_hold 73 [(4, .int x4), (6, .int x6), (7, .int x7), (8, .int x8)] [] G I L Q := by
  refine wp_iload (i := 8) (x := x8) 3 (by decide +kernel) rfl ?_
  refine wp_bipush (z := 20) (v := 20) (by decide +kernel) (by decide) ?_
  refine wp_icmp_ge (off := 23) (tgt := 100) (by decide +kernel) (by decide) (fun c1 => ?_) (fun c1 => ?_)
  · rw [if_pos c1] at H
    refine wp_iload (i := 4) (x := x4) 0 (by decide +kernel) rfl ?_
    by_cases c2 : x4 = 0
    · rw [if_pos c2] at H
      refine wp_tableIn (dflt := 53) (lo := 0) (hi := 2) (offs := #[26, 32, 47]) (len := 26) (off := 26) (tgt := 128) (by decide +kernel) (by rw [c2]; decide) (by rw [c2]; decide) (by rw [c2]; rfl) (by decide) ?_
      refine wp_iload (i := 7) (x := x7) 2 (by decide +kernel) rfl ?_
      refine wp_callS (idx := 305) (B2 := B12_bitCount) (As := [.int x7]) (st := []) (by decide +kernel) m12_bitCount ml8_305 k12_bitCount (⟨Nat.le_of_ble_eq_true rfl, Nat.le_of_ble_eq_true rfl⟩ : rOK B8_hold B12_bitCount) rfl (Nat.le_of_ble_eq_true rfl) (Nat.le_of_ble_eq_true rfl) ⟨Nat.le_of_ble_eq_true rfl, Nat.le_of_ble_eq_true rfl⟩ rfl (wp_mono (b12_bitCount (Q := (fun r I' L' => r = (v12_bitCount x7) ∧ I = I' ∧ L = L'))  ⟨rfl, rfl, rfl⟩) (fun v9 M9 hq9 => ?_))
      obtain ⟨_, _, _, rfl, rfl, rfl, rfl, rfl⟩ := hq9
      show wp X B8_hold 133 [(4, .int x4), (6, .int x6), (7, .int x7), (8, .int x8)] [.int (v12_bitCount x7)] (G, I, L) 0 0 _
      exact wp_iret (by decide +kernel) rfl (Nat.zero_le _) (Nat.zero_le _) ⟨_, _, _, rfl, rfl, H⟩
    rw [if_neg c2] at H
    by_cases c4 : x4 = 1
    · rw [if_pos c4] at H
      refine wp_tableIn (dflt := 53) (lo := 0) (hi := 2) (offs := #[26, 32, 47]) (len := 26) (off := 32) (tgt := 134) (by decide +kernel) (by rw [c4]; decide) (by rw [c4]; decide) (by rw [c4]; rfl) (by decide) ?_
      refine wp_iload (i := 7) (x := x7) 2 (by decide +kernel) rfl ?_
      refine wp_if_ne (off := 7) (tgt := 143) (by decide +kernel) (by decide) (fun c5 => ?_) (fun c5 => ?_)
      · rw [if_neg c5] at H
        refine wp_iload (i := 7) (x := x7) 2 (by decide +kernel) rfl ?_
        refine wp_callS (idx := 317) (B2 := B12_numberOfTrailingZeros) (As := [.int x7]) (st := []) (by decide +kernel) m12_numberOfTrailingZeros ml8_317 k12_numberOfTrailingZeros (⟨Nat.le_of_ble_eq_true rfl, Nat.le_of_ble_eq_true rfl⟩ : rOK B8_hold B12_numberOfTrailingZeros) rfl (Nat.le_of_ble_eq_true rfl) (Nat.le_of_ble_eq_true rfl) ⟨Nat.le_of_ble_eq_true rfl, Nat.le_of_ble_eq_true rfl⟩ rfl (wp_mono (b12_numberOfTrailingZeros (Q := (fun r I' L' => r = (v12_numberOfTrailingZeros x7) ∧ I = I' ∧ L = L'))  ⟨rfl, rfl, rfl⟩) (fun v9 M9 hq9 => ?_))
        obtain ⟨_, _, _, rfl, rfl, rfl, rfl, rfl⟩ := hq9
        show wp X B8_hold 148 [(4, .int x4), (6, .int x6), (7, .int x7), (8, .int x8)] [.int (v12_numberOfTrailingZeros x7)] (G, I, L) 0 0 _
        exact wp_iret (by decide +kernel) rfl (Nat.zero_le _) (Nat.zero_le _) ⟨_, _, _, rfl, rfl, H⟩
      · rw [if_pos c5] at H
        refine wp_iconst (z := -1) (v := (-1)) (by decide +kernel) (by decide) ?_
        refine wp_goto (off := 8) (tgt := 148) (by decide +kernel) (by decide) ?_
        exact wp_iret (by decide +kernel) rfl (Nat.zero_le _) (Nat.zero_le _) ⟨_, _, _, rfl, rfl, H⟩
    rw [if_neg c4] at H
    by_cases c7 : x4 = 2
    · rw [if_pos c7] at H
      refine wp_tableIn (dflt := 53) (lo := 0) (hi := 2) (offs := #[26, 32, 47]) (len := 26) (off := 47) (tgt := 149) (by decide +kernel) (by rw [c7]; decide) (by rw [c7]; decide) (by rw [c7]; rfl) (by decide) ?_
      refine wp_iload (i := 7) (x := x7) 2 (by decide +kernel) rfl ?_
      refine wp_callS (idx := 330) (B2 := B8_longestRow) (As := [.int x7]) (st := []) (by decide +kernel) m8_longestRow ml8_330 k8_longestRow (⟨Nat.le_of_ble_eq_true rfl, Nat.le_of_ble_eq_true rfl⟩ : rOK B8_hold B8_longestRow) rfl (Nat.le_of_ble_eq_true rfl) (Nat.le_of_ble_eq_true rfl) ⟨Nat.le_of_ble_eq_true rfl, Nat.le_of_ble_eq_true rfl⟩ rfl (wp_mono H (fun v9 M9 hq9 => ?_))
      clear H
      obtain ⟨r10, I8, L9, rfl, rfl, H⟩ := hq9
      show wp X B8_hold 154 [(4, .int x4), (6, .int x6), (7, .int x7), (8, .int x8)] [.int r10] (G, I8, L9) 0 0 _
      exact wp_iret (by decide +kernel) rfl (Nat.zero_le _) (Nat.zero_le _) ⟨_, _, _, rfl, rfl, H⟩
    rw [if_neg c7] at H
    have qc2 := sw_ne c2 (z := 0) (by decide)
    have qc4 := sw_ne c4 (z := 1) (by decide)
    have qc7 := sw_ne c7 (z := 2) (by decide)
    refine wp_tableOut (dflt := 53) (lo := 0) (hi := 2) (offs := #[26, 32, 47]) (len := 26) (tgt := 155) (by decide +kernel) (by omega) (by decide) ?_
    refine wp_bipush (z := -2) (v := (-2)) (by decide +kernel) (by decide) ?_
    exact wp_iret (by decide +kernel) rfl (Nat.zero_le _) (Nat.zero_le _) ⟨_, _, _, rfl, rfl, H⟩
  · rw [if_neg c1] at H
    refine wp_iload (i := 7) (x := x7) 2 (by decide +kernel) rfl ?_
    refine wp_iload (i := 6) (x := x6) 1 (by decide +kernel) rfl ?_
    refine wp_iload (i := 8) (x := x8) 3 (by decide +kernel) rfl ?_
    refine wp_ishl (by decide +kernel) ?_
    refine wp_ldcw (idx := 291) (v := 1048575) (by decide +kernel) (in_g (List.mem_of_getElem? (i := 872) (by decide +kernel)) rfl) ?_
    refine wp_iand (by decide +kernel) ?_
    refine wp_ior (by decide +kernel) ?_
    refine wp_topi (fun u11 eu11 => ?_)
    replace H := H u11 eu11
    refine wp_istore (i := 7) (lv' := [(7, .int u11), (4, .int x4), (6, .int x6), (8, .int x8)]) (by decide +kernel) (by decide) rfl ?_
    refine wp_iinc (i := 8) (z := 1) (v := 1) (lv' := [(8, .int (x8 + 1)), (7, .int u11), (4, .int x4), (6, .int x6)]) 3 (by decide +kernel) rfl (by decide) (by decide) rfl ?_
    refine wp_goto (off := -24) (tgt := 73) (by decide +kernel) (by decide) ?_
    exact wp_sub [2, 3, 1, 0] rfl H
/-! DeafWall.hearDuet(LDeafWall$Wall;II)V -/
set_option maxRecDepth 20000 in
theorem b8_hearDuet {X : XX} {G : GG} {I : Nat → Nat → Int32} {L : Nat → Nat → Int64} {h : Nat} {a1 : Nat} {x2 : Int32} {x3 : Int32} {Q : (Nat → Nat → Int32) → (Nat → Nat → Int64) → Prop} (ok : OK8 G h) (ok1 : OK7 G a1) (H : wpV X B1_sound 0 [(0, .ref (h + 24)), (1, .ref a1)] [] G I L (fun I1 L2 => wpV X B8_hearDuet 11 [(0, .ref h), (1, .ref a1), (2, .int x2), (3, .int x3), (4, .int 0)] [] G I1 L2 Q)) : wpV X B8_hearDuet 0 [(0, .ref h), (1, .ref a1), (2, .int x2), (3, .int x3)] [] G I L Q := by
  refine wp_aload_n (z := 0) (i := 0) (r := (some h)) 0 (by decide +kernel) rfl rfl ?_
  refine wp_getS (idx := 37) (q := (h + 24)) (by decide +kernel) fl8_37 rfl ok.1 (okr8_4 ok) ?_
  refine wp_aload_n (z := 1) (i := 1) (r := (some a1)) 1 (by decide +kernel) rfl rfl ?_
  refine wp_callV (idx := 281) (B2 := B1_sound) (As := [.ref a1]) (a := (h + 24)) (st := []) (by decide +kernel) m1_sound ml8_281 k1_sound e1_sound ck1 (oko8_4 ok).1 (⟨Nat.le_of_ble_eq_true rfl, Nat.le_of_ble_eq_true rfl⟩ : rOK B8_hearDuet B1_sound) rfl (Nat.le_of_ble_eq_true rfl) (Nat.le_of_ble_eq_true rfl) ⟨Nat.le_of_ble_eq_true rfl, Nat.le_of_ble_eq_true rfl⟩ rfl (wp_mono H (fun v9 M9 hq9 => ?_))
  clear H
  obtain ⟨I1, L2, rfl, rfl, H⟩ := hq9
  show wp X B8_hearDuet 8 [(0, .ref h), (1, .ref a1), (2, .int x2), (3, .int x3)] [] (G, I1, L2) 0 0 _
  refine wp_iconst (z := 0) (v := 0) (by decide +kernel) (by decide) ?_
  refine wp_istore (i := 4) (lv' := [(4, .int 0), (0, .ref h), (1, .ref a1), (2, .int x2), (3, .int x3)]) (by decide +kernel) (by decide) rfl ?_
  exact wp_sub [1, 2, 3, 4, 0] rfl H
set_option maxRecDepth 20000 in
theorem b8_hearDuet_11 {X : XX} {G : GG} {I : Nat → Nat → Int32} {L : Nat → Nat → Int64} {h : Nat} {a1 : Nat} {x2 : Int32} {x3 : Int32} {x4 : Int32} {Q : (Nat → Nat → Int32) → (Nat → Nat → Int64) → Prop} (ok : OK8 G h) (ok1 : OK7 G a1) (H : if 4 ≤ x4 then (Q I L) else (vp_in x2 6 ∧ (vp_in x2 6 ∧ (wpI X B1_beatsFelt 0 [(0, .ref (h + 24)), (1, .int (I (a1 + 2) (cl x2))), (2, .int (I (a1 + 3) (cl x2))), (3, .int (3 * x4))] [] G I L (fun r4 I2 L3 => vp_in x4 4 ∧ (∀ I5, I5 = up2 I2 (h + 63) (cl x4) r4 → vp_in x3 6 ∧ (vp_in x3 6 ∧ (wpI X B1_beatsFelt 0 [(0, .ref (h + 24)), (1, .int (I5 (a1 + 2) (cl x3))), (2, .int (I5 (a1 + 3) (cl x3))), (3, .int (3 * x4))] [] G I5 L3 (fun r8 I6 L7 => vp_in x4 4 ∧ (∀ I9, I9 = up2 I6 (h + 64) (cl x4) r8 → wpV X B8_hearDuet 11 [(0, .ref h), (1, .ref a1), (2, .int x2), (3, .int x3), (4, .int (x4 + 1))] [] G I9 L7 Q)))))))))) : wpV X B8_hearDuet 11 [(0, .ref h), (1, .ref a1), (2, .int x2), (3, .int x3), (4, .int x4)] [] G I L Q := by
  refine wp_iload (i := 4) (x := x4) 4 (by decide +kernel) rfl ?_
  refine wp_iconst (z := 4) (v := 4) (by decide +kernel) (by decide) ?_
  refine wp_icmp_ge (off := 69) (tgt := 83) (by decide +kernel) (by decide) (fun c1 => ?_) (fun c1 => ?_)
  · rw [if_pos c1] at H
    exact wp_vret (by decide +kernel) rfl (Nat.zero_le _) (Nat.zero_le _) ⟨_, _, rfl, rfl, H⟩
  · rw [if_neg c1] at H
    refine wp_aload_n (z := 0) (i := 0) (r := (some h)) 0 (by decide +kernel) rfl rfl ?_
    refine wp_getS (idx := 64) (q := (h + 63)) (by decide +kernel) fl8_64 rfl ok.1 (okr8_11 ok) ?_
    refine wp_iload (i := 4) (x := x4) 4 (by decide +kernel) rfl ?_
    refine wp_aload_n (z := 0) (i := 0) (r := (some h)) 0 (by decide +kernel) rfl rfl ?_
    refine wp_getS (idx := 37) (q := (h + 24)) (by decide +kernel) fl8_37 rfl ok.1 (okr8_4 ok) ?_
    refine wp_aload_n (z := 1) (i := 1) (r := (some a1)) 1 (by decide +kernel) rfl rfl ?_
    refine wp_getS (idx := 157) (q := (a1 + 2)) (by decide +kernel) fl8_157 rfl ok1.1 (okr7_5 ok1) ?_
    refine wp_iload_n (z := 2) (i := 2) (x := x2) 2 (by decide +kernel) rfl rfl ?_
    obtain ⟨o15, H⟩ := H
    refine wp_iald (j := (cl x2)) (by decide +kernel) (oks7_5 ok1) o15 rfl ?_
    refine wp_aload_n (z := 1) (i := 1) (r := (some a1)) 1 (by decide +kernel) rfl rfl ?_
    refine wp_getS (idx := 154) (q := (a1 + 3)) (by decide +kernel) fl8_154 rfl ok1.1 (okr7_6 ok1) ?_
    refine wp_iload_n (z := 2) (i := 2) (x := x2) 2 (by decide +kernel) rfl rfl ?_
    obtain ⟨o14, H⟩ := H
    refine wp_iald (j := (cl x2)) (by decide +kernel) (oks7_6 ok1) o14 rfl ?_
    refine wp_iconst (z := 3) (v := 3) (by decide +kernel) (by decide) ?_
    refine wp_iload (i := 4) (x := x4) 4 (by decide +kernel) rfl ?_
    refine wp_imul (by decide +kernel) ?_
    refine wp_callV (idx := 287) (B2 := B1_beatsFelt) (As := [.int (I (a1 + 2) (cl x2)), .int (I (a1 + 3) (cl x2)), .int (3 * x4)]) (a := (h + 24)) (st := [.int x4, .ref (h + 63)]) (by decide +kernel) m1_beatsFelt ml8_287 k1_beatsFelt e1_beatsFelt ck1 (oko8_4 ok).1 (⟨Nat.le_of_ble_eq_true rfl, Nat.le_of_ble_eq_true rfl⟩ : rOK B8_hearDuet B1_beatsFelt) rfl (Nat.le_of_ble_eq_true rfl) (Nat.le_of_ble_eq_true rfl) ⟨Nat.le_of_ble_eq_true rfl, Nat.le_of_ble_eq_true rfl⟩ rfl (wp_mono H (fun v9 M9 hq9 => ?_))
    clear H
    obtain ⟨r4, I2, L3, rfl, rfl, H⟩ := hq9
    show wp X B8_hearDuet 46 [(0, .ref h), (1, .ref a1), (2, .int x2), (3, .int x3), (4, .int x4)] [.int r4, .int x4, .ref (h + 63)] (G, I2, L3) 0 0 _
    obtain ⟨o13, H⟩ := H
    refine wp_iast (j := (cl x4)) (by decide +kernel) (oks8_11 ok) o13 rfl ?_
    refine wp_memI (fun I5 eI5 => ?_)
    replace H := H I5 eI5
    refine wp_aload_n (z := 0) (i := 0) (r := (some h)) 0 (by decide +kernel) rfl rfl ?_
    refine wp_getS (idx := 67) (q := (h + 64)) (by decide +kernel) fl8_67 rfl ok.1 (okr8_12 ok) ?_
    refine wp_iload (i := 4) (x := x4) 4 (by decide +kernel) rfl ?_
    refine wp_aload_n (z := 0) (i := 0) (r := (some h)) 0 (by decide +kernel) rfl rfl ?_
    refine wp_getS (idx := 37) (q := (h + 24)) (by decide +kernel) fl8_37 rfl ok.1 (okr8_4 ok) ?_
    refine wp_aload_n (z := 1) (i := 1) (r := (some a1)) 1 (by decide +kernel) rfl rfl ?_
    refine wp_getS (idx := 157) (q := (a1 + 2)) (by decide +kernel) fl8_157 rfl ok1.1 (okr7_5 ok1) ?_
    refine wp_iload_n (z := 3) (i := 3) (x := x3) 3 (by decide +kernel) rfl rfl ?_
    obtain ⟨o12, H⟩ := H
    refine wp_iald (j := (cl x3)) (by decide +kernel) (oks7_5 ok1) o12 rfl ?_
    refine wp_aload_n (z := 1) (i := 1) (r := (some a1)) 1 (by decide +kernel) rfl rfl ?_
    refine wp_getS (idx := 154) (q := (a1 + 3)) (by decide +kernel) fl8_154 rfl ok1.1 (okr7_6 ok1) ?_
    refine wp_iload_n (z := 3) (i := 3) (x := x3) 3 (by decide +kernel) rfl rfl ?_
    obtain ⟨o11, H⟩ := H
    refine wp_iald (j := (cl x3)) (by decide +kernel) (oks7_6 ok1) o11 rfl ?_
    refine wp_iconst (z := 3) (v := 3) (by decide +kernel) (by decide) ?_
    refine wp_iload (i := 4) (x := x4) 4 (by decide +kernel) rfl ?_
    refine wp_imul (by decide +kernel) ?_
    refine wp_callV (idx := 287) (B2 := B1_beatsFelt) (As := [.int (I5 (a1 + 2) (cl x3)), .int (I5 (a1 + 3) (cl x3)), .int (3 * x4)]) (a := (h + 24)) (st := [.int x4, .ref (h + 64)]) (by decide +kernel) m1_beatsFelt ml8_287 k1_beatsFelt e1_beatsFelt ck1 (oko8_4 ok).1 (⟨Nat.le_of_ble_eq_true rfl, Nat.le_of_ble_eq_true rfl⟩ : rOK B8_hearDuet B1_beatsFelt) rfl (Nat.le_of_ble_eq_true rfl) (Nat.le_of_ble_eq_true rfl) ⟨Nat.le_of_ble_eq_true rfl, Nat.le_of_ble_eq_true rfl⟩ rfl (wp_mono H (fun v9 M9 hq9 => ?_))
    clear H
    obtain ⟨r8, I6, L7, rfl, rfl, H⟩ := hq9
    show wp X B8_hearDuet 76 [(0, .ref h), (1, .ref a1), (2, .int x2), (3, .int x3), (4, .int x4)] [.int r8, .int x4, .ref (h + 64)] (G, I6, L7) 0 0 _
    obtain ⟨o10, H⟩ := H
    refine wp_iast (j := (cl x4)) (by decide +kernel) (oks8_12 ok) o10 rfl ?_
    refine wp_memI (fun I9 eI9 => ?_)
    replace H := H I9 eI9
    refine wp_iinc (i := 4) (z := 1) (v := 1) (lv' := [(4, .int (x4 + 1)), (0, .ref h), (1, .ref a1), (2, .int x2), (3, .int x3)]) 4 (by decide +kernel) rfl (by decide) (by decide) rfl ?_
    refine wp_goto (off := -69) (tgt := 11) (by decide +kernel) (by decide) ?_
    exact wp_sub [1, 2, 3, 4, 0] rfl H
/-! DeafWall.gain(II)I -/
set_option maxRecDepth 20000 in
theorem b8_gain {X : XX} {G : GG} {I : Nat → Nat → Int32} {L : Nat → Nat → Int64} {h : Nat} {x1 : Int32} {x2 : Int32} {Q : Int32 → (Nat → Nat → Int32) → (Nat → Nat → Int64) → Prop} (ok : OK8 G h) (H : wpI X B8_gain 8 [(0, .ref h), (1, .int x1), (2, .int x2), (3, .int 0), (4, .int 0), (5, .int 0)] [] G I L Q) : wpI X B8_gain 0 [(0, .ref h), (1, .int x1), (2, .int x2)] [] G I L Q := by
  refine wp_iconst (z := 0) (v := 0) (by decide +kernel) (by decide) ?_
  refine wp_istore_n (z := 3) (i := 3) (lv' := [(3, .int 0), (0, .ref h), (1, .int x1), (2, .int x2)]) (by decide +kernel) rfl (by decide) rfl ?_
  refine wp_iconst (z := 0) (v := 0) (by decide +kernel) (by decide) ?_
  refine wp_istore (i := 4) (lv' := [(4, .int 0), (3, .int 0), (0, .ref h), (1, .int x1), (2, .int x2)]) (by decide +kernel) (by decide) rfl ?_
  refine wp_iconst (z := 0) (v := 0) (by decide +kernel) (by decide) ?_
  refine wp_istore (i := 5) (lv' := [(5, .int 0), (4, .int 0), (3, .int 0), (0, .ref h), (1, .int x1), (2, .int x2)]) (by decide +kernel) (by decide) rfl ?_
  exact wp_sub [3, 4, 5, 2, 1, 0] rfl H
set_option maxRecDepth 20000 in
theorem b8_gain_8 {X : XX} {G : GG} {I : Nat → Nat → Int32} {L : Nat → Nat → Int64} {h : Nat} {x1 : Int32} {x2 : Int32} {x3 : Int32} {x4 : Int32} {x5 : Int32} {Q : Int32 → (Nat → Nat → Int32) → (Nat → Nat → Int64) → Prop} (ok : OK8 G h) (H : if x2 ≤ x5 then (Q ((v12_bitCount (x3 &&& 1048575)) - (v12_bitCount (x4 &&& 1048575))) I L) else (∀ u4, u4 = ((x1 >>> ((2 * ((x2 - 1) - x5)) &&& 31)) &&& 3) → vp_in u4 4 ∧ (∀ u5, u5 = (x3 ||| ((I (h + 63) (cl u4)) <<< (x5 &&& 31))) → vp_in u4 4 ∧ (∀ u6, u6 = (x4 ||| ((I (h + 64) (cl u4)) <<< (x5 &&& 31))) → wpI X B8_gain 8 [(0, .ref h), (1, .int x1), (2, .int x2), (3, .int u5), (4, .int u6), (5, .int (x5 + 1))] [] G I L Q)))) : wpI X B8_gain 8 [(0, .ref h), (1, .int x1), (2, .int x2), (3, .int x3), (4, .int x4), (5, .int x5)] [] G I L Q := by
  refine wp_iload (i := 5) (x := x5) 5 (by decide +kernel) rfl ?_
  refine wp_iload_n (z := 2) (i := 2) (x := x2) 2 (by decide +kernel) rfl rfl ?_
  refine wp_icmp_ge (off := 51) (tgt := 62) (by decide +kernel) (by decide) (fun c1 => ?_) (fun c1 => ?_)
  · rw [if_pos c1] at H
    refine wp_iload_n (z := 3) (i := 3) (x := x3) 3 (by decide +kernel) rfl rfl ?_
    refine wp_ldcw (idx := 291) (v := 1048575) (by decide +kernel) (in_g (List.mem_of_getElem? (i := 872) (by decide +kernel)) rfl) ?_
    refine wp_iand (by decide +kernel) ?_
    refine wp_callS (idx := 305) (B2 := B12_bitCount) (As := [.int (x3 &&& 1048575)]) (st := []) (by decide +kernel) m12_bitCount ml8_305 k12_bitCount (⟨Nat.le_of_ble_eq_true rfl, Nat.le_of_ble_eq_true rfl⟩ : rOK B8_gain B12_bitCount) rfl (Nat.le_of_ble_eq_true rfl) (Nat.le_of_ble_eq_true rfl) ⟨Nat.le_of_ble_eq_true rfl, Nat.le_of_ble_eq_true rfl⟩ rfl (wp_mono (b12_bitCount (Q := (fun r I' L' => r = (v12_bitCount (x3 &&& 1048575)) ∧ I = I' ∧ L = L'))  ⟨rfl, rfl, rfl⟩) (fun v9 M9 hq9 => ?_))
    obtain ⟨_, _, _, rfl, rfl, rfl, rfl, rfl⟩ := hq9
    show wp X B8_gain 70 [(0, .ref h), (1, .int x1), (2, .int x2), (3, .int x3), (4, .int x4), (5, .int x5)] [.int (v12_bitCount (x3 &&& 1048575))] (G, I, L) 0 0 _
    refine wp_iload (i := 4) (x := x4) 4 (by decide +kernel) rfl ?_
    refine wp_ldcw (idx := 291) (v := 1048575) (by decide +kernel) (in_g (List.mem_of_getElem? (i := 872) (by decide +kernel)) rfl) ?_
    refine wp_iand (by decide +kernel) ?_
    refine wp_callS (idx := 305) (B2 := B12_bitCount) (As := [.int (x4 &&& 1048575)]) (st := [.int (v12_bitCount (x3 &&& 1048575))]) (by decide +kernel) m12_bitCount ml8_305 k12_bitCount (⟨Nat.le_of_ble_eq_true rfl, Nat.le_of_ble_eq_true rfl⟩ : rOK B8_gain B12_bitCount) rfl (Nat.le_of_ble_eq_true rfl) (Nat.le_of_ble_eq_true rfl) ⟨Nat.le_of_ble_eq_true rfl, Nat.le_of_ble_eq_true rfl⟩ rfl (wp_mono (b12_bitCount (Q := (fun r I' L' => r = (v12_bitCount (x4 &&& 1048575)) ∧ I = I' ∧ L = L'))  ⟨rfl, rfl, rfl⟩) (fun v9 M9 hq9 => ?_))
    obtain ⟨_, _, _, rfl, rfl, rfl, rfl, rfl⟩ := hq9
    show wp X B8_gain 79 [(0, .ref h), (1, .int x1), (2, .int x2), (3, .int x3), (4, .int x4), (5, .int x5)] [.int (v12_bitCount (x4 &&& 1048575)), .int (v12_bitCount (x3 &&& 1048575))] (G, I, L) 0 0 _
    refine wp_isub (by decide +kernel) ?_
    exact wp_iret (by decide +kernel) rfl (Nat.zero_le _) (Nat.zero_le _) ⟨_, _, _, rfl, rfl, H⟩
  · rw [if_neg c1] at H
    refine wp_iload_n (z := 1) (i := 1) (x := x1) 1 (by decide +kernel) rfl rfl ?_
    refine wp_iconst (z := 2) (v := 2) (by decide +kernel) (by decide) ?_
    refine wp_iload_n (z := 2) (i := 2) (x := x2) 2 (by decide +kernel) rfl rfl ?_
    refine wp_iconst (z := 1) (v := 1) (by decide +kernel) (by decide) ?_
    refine wp_isub (by decide +kernel) ?_
    refine wp_iload (i := 5) (x := x5) 5 (by decide +kernel) rfl ?_
    refine wp_isub (by decide +kernel) ?_
    refine wp_imul (by decide +kernel) ?_
    refine wp_ishr (by decide +kernel) ?_
    refine wp_iconst (z := 3) (v := 3) (by decide +kernel) (by decide) ?_
    refine wp_iand (by decide +kernel) ?_
    refine wp_topi (fun u4 eu4 => ?_)
    replace H := H u4 eu4
    refine wp_istore (i := 6) (lv' := [(6, .int u4), (0, .ref h), (1, .int x1), (2, .int x2), (3, .int x3), (4, .int x4), (5, .int x5)]) (by decide +kernel) (by decide) rfl ?_
    refine wp_iload_n (z := 3) (i := 3) (x := x3) 4 (by decide +kernel) rfl rfl ?_
    refine wp_aload_n (z := 0) (i := 0) (r := (some h)) 1 (by decide +kernel) rfl rfl ?_
    refine wp_getS (idx := 64) (q := (h + 63)) (by decide +kernel) fl8_64 rfl ok.1 (okr8_11 ok) ?_
    refine wp_iload (i := 6) (x := u4) 0 (by decide +kernel) rfl ?_
    obtain ⟨o8, H⟩ := H
    refine wp_iald (j := (cl u4)) (by decide +kernel) (oks8_11 ok) o8 rfl ?_
    refine wp_iload (i := 5) (x := x5) 6 (by decide +kernel) rfl ?_
    refine wp_ishl (by decide +kernel) ?_
    refine wp_ior (by decide +kernel) ?_
    refine wp_topi (fun u5 eu5 => ?_)
    replace H := H u5 eu5
    refine wp_istore_n (z := 3) (i := 3) (lv' := [(3, .int u5), (6, .int u4), (0, .ref h), (1, .int x1), (2, .int x2), (4, .int x4), (5, .int x5)]) (by decide +kernel) rfl (by decide) rfl ?_
    refine wp_iload (i := 4) (x := x4) 5 (by decide +kernel) rfl ?_
    refine wp_aload_n (z := 0) (i := 0) (r := (some h)) 2 (by decide +kernel) rfl rfl ?_
    refine wp_getS (idx := 67) (q := (h + 64)) (by decide +kernel) fl8_67 rfl ok.1 (okr8_12 ok) ?_
    refine wp_iload (i := 6) (x := u4) 1 (by decide +kernel) rfl ?_
    obtain ⟨o7, H⟩ := H
    refine wp_iald (j := (cl u4)) (by decide +kernel) (oks8_12 ok) o7 rfl ?_
    refine wp_iload (i := 5) (x := x5) 6 (by decide +kernel) rfl ?_
    refine wp_ishl (by decide +kernel) ?_
    refine wp_ior (by decide +kernel) ?_
    refine wp_topi (fun u6 eu6 => ?_)
    replace H := H u6 eu6
    refine wp_istore (i := 4) (lv' := [(4, .int u6), (3, .int u5), (6, .int u4), (0, .ref h), (1, .int x1), (2, .int x2), (5, .int x5)]) (by decide +kernel) (by decide) rfl ?_
    refine wp_iinc (i := 5) (z := 1) (v := 1) (lv' := [(5, .int (x5 + 1)), (4, .int u6), (3, .int u5), (6, .int u4), (0, .ref h), (1, .int x1), (2, .int x2)]) 6 (by decide +kernel) rfl (by decide) (by decide) rfl ?_
    refine wp_goto (off := -51) (tgt := 8) (by decide +kernel) (by decide) ?_
    exact wp_sub [4, 5, 6, 2, 1, 0] rfl H
