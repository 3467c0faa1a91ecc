/-! DeafWall.fit(LDeafWall$Wall;LDeafWall$Lines;I)I -/
set_option maxRecDepth 20000 in
theorem b8_fit {X : XX} {G : GG} {I : Nat → Nat → Int32} {L : Nat → Nat → Int64} {h : Nat} {a1 : Nat} {a2 : Nat} {na2 : Nat} {x3 : Int32} {Q : Int32 → (Nat → Nat → Int32) → (Nat → Nat → Int64) → Prop} (ok : OK8 G h) (ok1 : OK7 G a1) (ok2 : OK2 G a2 na2) (H : wpV X B8_listen 0 [(0, .ref h), (1, .ref a1)] [] G I L (fun I1 L2 => wpI X B8_fit 11 [(0, .ref h), (1, .ref a1), (2, .ref a2), (3, .int x3), (4, .int 0), (5, .int 0)] [] G I1 L2 Q)) : wpI X B8_fit 0 [(0, .ref h), (1, .ref a1), (2, .ref a2), (3, .int x3)] [] G I L Q := by
  refine wp_aload_n (z := 0) (i := 0) (r := (some h)) 0 (by decide +kernel) rfl rfl ?_
  refine wp_aload_n (z := 1) (i := 1) (r := (some a1)) 1 (by decide +kernel) rfl rfl ?_
  refine wp_callV (idx := 261) (B2 := B8_listen) (As := [.ref a1]) (a := h) (st := []) (by decide +kernel) m8_listen ml8_261 k8_listen e8_listen ck8 ok.1 (⟨Nat.le_of_ble_eq_true rfl, Nat.le_of_ble_eq_true rfl⟩ : rOK B8_fit B8_listen) rfl (Nat.le_of_ble_eq_true rfl) (Nat.le_of_ble_eq_true rfl) ⟨Nat.le_of_ble_eq_true rfl, Nat.le_of_ble_eq_true rfl⟩ rfl (wp_mono H (fun v9 M9 hq9 => ?_))
  clear H
  obtain ⟨I1, L2, rfl, rfl, H⟩ := hq9
  show wp X B8_fit 5 [(0, .ref h), (1, .ref a1), (2, .ref a2), (3, .int x3)] [] (G, I1, L2) 0 0 _
  refine wp_iconst (z := 0) (v := 0) (by decide +kernel) (by decide) ?_
  refine wp_istore (i := 4) (lv' := [(4, .int 0), (0, .ref h), (1, .ref a1), (2, .ref a2), (3, .int x3)]) (by decide +kernel) (by decide) rfl ?_
  refine wp_iconst (z := 0) (v := 0) (by decide +kernel) (by decide) ?_
  refine wp_istore (i := 5) (lv' := [(5, .int 0), (4, .int 0), (0, .ref h), (1, .ref a1), (2, .ref a2), (3, .int x3)]) (by decide +kernel) (by decide) rfl ?_
  exact wp_sub [2, 3, 4, 5, 1, 0] rfl H
set_option maxRecDepth 20000 in
theorem b8_fit_11 {X : XX} {G : GG} {I : Nat → Nat → Int32} {L : Nat → Nat → Int64} {h : Nat} {a1 : Nat} {a2 : Nat} {na2 : Nat} {x3 : Int32} {x4 : Int32} {x5 : Int32} {Q : Int32 → (Nat → Nat → Int32) → (Nat → Nat → Int64) → Prop} (ok : OK8 G h) (ok1 : OK7 G a1) (ok2 : OK2 G a2 na2) (H : if ((1 : Int32) <<< (x3 &&& 31)) ≤ x5 then (Q x4 I L) else (wpI X B8_factsAreSo 0 [(0, .ref h), (1, .ref a1), (2, .ref a2), (3, .int x5)] [] G I L (fun r4 I2 L3 => if r4 = (0 : Int32) then (wpI X B8_fit 11 [(0, .ref h), (1, .ref a1), (2, .ref a2), (3, .int x3), (4, .int x4), (5, .int (x5 + 1))] [] G I2 L3 Q) else (vp_in x4 256 ∧ (∀ I6, I6 = up2 I2 (h + 59) (cl x4) x5 → wpI X B8_fit 11 [(0, .ref h), (1, .ref a1), (2, .ref a2), (3, .int x3), (4, .int (x4 + 1)), (5, .int (x5 + 1))] [] G I6 L3 Q))))) : wpI X B8_fit 11 [(0, .ref h), (1, .ref a1), (2, .ref a2), (3, .int x3), (4, .int x4), (5, .int x5)] [] G I L Q := by
  refine wp_iload (i := 5) (x := x5) 5 (by decide +kernel) rfl ?_
  refine wp_iconst (z := 1) (v := 1) (by decide +kernel) (by decide) ?_
  refine wp_iload_n (z := 3) (i := 3) (x := x3) 3 (by decide +kernel) rfl rfl ?_
  refine wp_ishl (by decide +kernel) ?_
  refine wp_icmp_ge (off := 32) (tgt := 48) (by decide +kernel) (by decide) (fun c1 => ?_) (fun c1 => ?_)
  · rw [if_pos c1] at H
    refine wp_iload (i := 4) (x := x4) 4 (by decide +kernel) rfl ?_
    exact wp_iret (by decide +kernel) rfl (Nat.zero_le _) (Nat.zero_le _) ⟨_, _, _, rfl, rfl, H⟩
  · rw [if_neg c1] at H
    refine wp_aload_n (z := 0) (i := 0) (r := (some h)) 0 (by decide +kernel) rfl rfl ?_
    refine wp_aload_n (z := 1) (i := 1) (r := (some a1)) 1 (by decide +kernel) rfl rfl ?_
    refine wp_aload_n (z := 2) (i := 2) (r := (some a2)) 2 (by decide +kernel) rfl rfl ?_
    refine wp_iload (i := 5) (x := x5) 5 (by decide +kernel) rfl ?_
    refine wp_callV (idx := 421) (B2 := B8_factsAreSo) (As := [.ref a1, .ref a2, .int x5]) (a := h) (st := []) (by decide +kernel) m8_factsAreSo ml8_421 k8_factsAreSo e8_factsAreSo ck8 ok.1 (⟨Nat.le_of_ble_eq_true rfl, Nat.le_of_ble_eq_true rfl⟩ : rOK B8_fit B8_factsAreSo) rfl (Nat.le_of_ble_eq_true rfl) (Nat.le_of_ble_eq_true rfl) ⟨Nat.le_of_ble_eq_true rfl, Nat.le_of_ble_eq_true rfl⟩ rfl (wp_mono H (fun v9 M9 hq9 => ?_))
    clear H
    obtain ⟨r4, I2, L3, rfl, rfl, H⟩ := hq9
    show wp X B8_fit 27 [(0, .ref h), (1, .ref a1), (2, .ref a2), (3, .int x3), (4, .int x4), (5, .int x5)] [.int r4] (G, I2, L3) 0 0 _
    refine wp_if_eq (off := 15) (tgt := 42) (by decide +kernel) (by decide) (fun c5 => ?_) (fun c5 => ?_)
    · rw [if_pos c5] at H
      refine wp_iinc (i := 5) (z := 1) (v := 1) (lv' := [(5, .int (x5 + 1)), (0, .ref h), (1, .ref a1), (2, .ref a2), (3, .int x3), (4, .int x4)]) 5 (by decide +kernel) rfl (by decide) (by decide) rfl ?_
      refine wp_goto (off := -34) (tgt := 11) (by decide +kernel) (by decide) ?_
      exact wp_sub [1, 2, 3, 4, 5, 0] rfl H
    · rw [if_neg c5] at H
      refine wp_aload_n (z := 0) (i := 0) (r := (some h)) 0 (by decide +kernel) rfl rfl ?_
      refine wp_getS (idx := 52) (q := (h + 59)) (by decide +kernel) fl8_52 rfl ok.1 (okr8_7 ok) ?_
      refine wp_iload (i := 4) (x := x4) 4 (by decide +kernel) rfl ?_
      refine wp_iload (i := 5) (x := x5) 5 (by decide +kernel) rfl ?_
      obtain ⟨o7, H⟩ := H
      refine wp_iast (j := (cl x4)) (by decide +kernel) (oks8_7 ok) o7 rfl ?_
      refine wp_memI (fun I6 eI6 => ?_)
      replace H := H I6 eI6
      refine wp_iinc (i := 4) (z := 1) (v := 1) (lv' := [(4, .int (x4 + 1)), (0, .ref h), (1, .ref a1), (2, .ref a2), (3, .int x3), (5, .int x5)]) 4 (by decide +kernel) rfl (by decide) (by decide) rfl ?_
      refine wp_iinc (i := 5) (z := 1) (v := 1) (lv' := [(5, .int (x5 + 1)), (4, .int (x4 + 1)), (0, .ref h), (1, .ref a1), (2, .ref a2), (3, .int x3)]) 5 (by decide +kernel) rfl (by decide) (by decide) rfl ?_
      refine wp_goto (off := -34) (tgt := 11) (by decide +kernel) (by decide) ?_
      exact wp_sub [2, 3, 4, 5, 1, 0] rfl H
/-! DeafWall.sure(IIZ)I -/
set_option maxRecDepth 20000 in
theorem b8_sure {X : XX} {G : GG} {I : Nat → Nat → Int32} {L : Nat → Nat → Int64} {h : Nat} {x1 : Int32} {x2 : Int32} {x3 : Int32} {Q : Int32 → (Nat → Nat → Int32) → (Nat → Nat → Int64) → Prop} (ok : OK8 G h) (H : if x1 = (0 : Int32) then (Q 0 I L) else (∀ u2, u2 = (((1 : Int32) <<< (x2 &&& 31)) - 1) → wpI X B8_sure 16 [(0, .ref h), (1, .int x1), (3, .int x3), (4, .int u2), (5, .int 0)] [] G I L Q)) : wpI X B8_sure 0 [(0, .ref h), (1, .int x1), (2, .int x2), (3, .int x3)] [] G I L Q := by
  refine wp_iload_n (z := 1) (i := 1) (x := x1) 1 (by decide +kernel) rfl rfl ?_
  refine wp_if_ne (off := 5) (tgt := 6) (by decide +kernel) (by decide) (fun c1 => ?_) (fun c1 => ?_)
  · rw [if_neg c1] at H
    refine wp_iconst (z := 1) (v := 1) (by decide +kernel) (by decide) ?_
    refine wp_iload_n (z := 2) (i := 2) (x := x2) 2 (by decide +kernel) rfl rfl ?_
    refine wp_ishl (by decide +kernel) ?_
    refine wp_iconst (z := 1) (v := 1) (by decide +kernel) (by decide) ?_
    refine wp_isub (by decide +kernel) ?_
    refine wp_topi (fun u2 eu2 => ?_)
    replace H := H u2 eu2
    refine wp_istore (i := 4) (lv' := [(4, .int u2), (0, .ref h), (1, .int x1), (2, .int x2), (3, .int x3)]) (by decide +kernel) (by decide) rfl ?_
    refine wp_iconst (z := 0) (v := 0) (by decide +kernel) (by decide) ?_
    refine wp_istore (i := 5) (lv' := [(5, .int 0), (4, .int u2), (0, .ref h), (1, .int x1), (2, .int x2), (3, .int x3)]) (by decide +kernel) (by decide) rfl ?_
    exact wp_sub [2, 3, 5, 1, 0] rfl H
  · rw [if_pos c1] at H
    refine wp_iconst (z := 0) (v := 0) (by decide +kernel) (by decide) ?_
    exact wp_iret (by decide +kernel) rfl (Nat.zero_le _) (Nat.zero_le _) ⟨_, _, _, rfl, rfl, H⟩
set_option maxRecDepth 20000 in
theorem b8_sure_16 {X : XX} {G : GG} {I : Nat → Nat → Int32} {L : Nat → Nat → Int64} {h : Nat} {x1 : Int32} {x3 : Int32} {x4 : Int32} {x5 : Int32} {Q : Int32 → (Nat → Nat → Int32) → (Nat → Nat → Int64) → Prop} (ok : OK8 G h) (H : if x1 ≤ x5 then (Q x4 I L) else (if x3 = (0 : Int32) then (vp_in x5 256 ∧ (∀ u3, u3 = (x4 &&& ((I (h + 59) (cl x5)) ^^^ (-1))) → wpI X B8_sure 16 [(0, .ref h), (1, .int x1), (3, .int x3), (4, .int u3), (5, .int (x5 + 1))] [] G I L Q)) else (vp_in x5 256 ∧ (∀ u5, u5 = (x4 &&& (I (h + 59) (cl x5))) → wpI X B8_sure 16 [(0, .ref h), (1, .int x1), (3, .int x3), (4, .int u5), (5, .int (x5 + 1))] [] G I L Q)))) : wpI X B8_sure 16 [(0, .ref h), (1, .int x1), (3, .int x3), (4, .int x4), (5, .int x5)] [] G I L Q := by
  refine wp_iload (i := 5) (x := x5) 4 (by decide +kernel) rfl ?_
  refine wp_iload_n (z := 1) (i := 1) (x := x1) 1 (by decide +kernel) rfl rfl ?_
  refine wp_icmp_ge (off := 37) (tgt := 56) (by decide +kernel) (by decide) (fun c1 => ?_) (fun c1 => ?_)
  · rw [if_pos c1] at H
    refine wp_iload (i := 4) (x := x4) 3 (by decide +kernel) rfl ?_
    exact wp_iret (by decide +kernel) rfl (Nat.zero_le _) (Nat.zero_le _) ⟨_, _, _, rfl, rfl, H⟩
  · rw [if_neg c1] at H
    refine wp_iload (i := 4) (x := x4) 3 (by decide +kernel) rfl ?_
    refine wp_iload_n (z := 3) (i := 3) (x := x3) 2 (by decide +kernel) rfl rfl ?_
    refine wp_if_eq (off := 13) (tgt := 38) (by decide +kernel) (by decide) (fun c2 => ?_) (fun c2 => ?_)
    · rw [if_pos c2] at H
      refine wp_aload_n (z := 0) (i := 0) (r := (some h)) 0 (by decide +kernel) rfl rfl ?_
      refine wp_getS (idx := 52) (q := (h + 59)) (by decide +kernel) fl8_52 rfl ok.1 (okr8_7 ok) ?_
      refine wp_iload (i := 5) (x := x5) 4 (by decide +kernel) rfl ?_
      obtain ⟨o4, H⟩ := H
      refine wp_iald (j := (cl x5)) (by decide +kernel) (oks8_7 ok) o4 rfl ?_
      refine wp_iconst (z := -1) (v := (-1)) (by decide +kernel) (by decide) ?_
      refine wp_ixor (by decide +kernel) ?_
      refine wp_iand (by decide +kernel) ?_
      refine wp_topi (fun u3 eu3 => ?_)
      replace H := H u3 eu3
      refine wp_istore (i := 4) (lv' := [(4, .int u3), (0, .ref h), (1, .int x1), (3, .int x3), (5, .int x5)]) (by decide +kernel) (by decide) rfl ?_
      refine wp_iinc (i := 5) (z := 1) (v := 1) (lv' := [(5, .int (x5 + 1)), (4, .int u3), (0, .ref h), (1, .int x1), (3, .int x3)]) 4 (by decide +kernel) rfl (by decide) (by decide) rfl ?_
      refine wp_goto (off := -37) (tgt := 16) (by decide +kernel) (by decide) ?_
      exact wp_sub [2, 3, 4, 1, 0] rfl H
    · rw [if_neg c2] at H
      refine wp_aload_n (z := 0) (i := 0) (r := (some h)) 0 (by decide +kernel) rfl rfl ?_
      refine wp_getS (idx := 52) (q := (h + 59)) (by decide +kernel) fl8_52 rfl ok.1 (okr8_7 ok) ?_
      refine wp_iload (i := 5) (x := x5) 4 (by decide +kernel) rfl ?_
      obtain ⟨o6, H⟩ := H
      refine wp_iald (j := (cl x5)) (by decide +kernel) (oks8_7 ok) o6 rfl ?_
      refine wp_goto (off := 12) (tgt := 47) (by decide +kernel) (by decide) ?_
      refine wp_iand (by decide +kernel) ?_
      refine wp_topi (fun u5 eu5 => ?_)
      replace H := H u5 eu5
      refine wp_istore (i := 4) (lv' := [(4, .int u5), (0, .ref h), (1, .int x1), (3, .int x3), (5, .int x5)]) (by decide +kernel) (by decide) rfl ?_
      refine wp_iinc (i := 5) (z := 1) (v := 1) (lv' := [(5, .int (x5 + 1)), (4, .int u5), (0, .ref h), (1, .int x1), (3, .int x3)]) 4 (by decide +kernel) rfl (by decide) (by decide) rfl ?_
      refine wp_goto (off := -37) (tgt := 16) (by decide +kernel) (by decide) ?_
      exact wp_sub [2, 3, 4, 1, 0] rfl H
/-! DeafWall.countFelt(II)V -/
set_option maxRecDepth 20000 in
theorem b8_countFelt {X : XX} {G : GG} {I : Nat → Nat → Int32} {L : Nat → Nat → Int64} {h : Nat} {x1 : Int32} {x2 : Int32} {Q : (Nat → Nat → Int32) → (Nat → Nat → Int64) → Prop} (ok : OK8 G h) (H : wpV X B18_fillI 0 [(0, .ref (h + 60)), (1, .int 0)] [] G I L (fun I1 L2 => wpV X B8_countFelt 10 [(0, .ref h), (1, .int x1), (2, .int x2), (3, .int 0)] [] G I1 L2 Q)) : wpV X B8_countFelt 0 [(0, .ref h), (1, .int x1), (2, .int x2)] [] G I L Q := by
  refine wp_aload_n (z := 0) (i := 0) (r := (some h)) 0 (by decide +kernel) rfl rfl ?_
  refine wp_getS (idx := 55) (q := (h + 60)) (by decide +kernel) fl8_55 rfl ok.1 (okr8_8 ok) ?_
  refine wp_iconst (z := 0) (v := 0) (by decide +kernel) (by decide) ?_
  refine wp_callS (idx := 371) (B2 := B18_fillI) (As := [.ref (h + 60), .int 0]) (st := []) (by decide +kernel) m18_fillI ml8_371 k18_fillI (⟨Nat.le_of_ble_eq_true rfl, Nat.le_of_ble_eq_true rfl⟩ : rOK B8_countFelt B18_fillI) rfl (Nat.le_of_ble_eq_true rfl) (Nat.le_of_ble_eq_true rfl) ⟨Nat.le_of_ble_eq_true rfl, Nat.le_of_ble_eq_true rfl⟩ rfl (wp_mono H (fun v9 M9 hq9 => ?_))
  clear H
  obtain ⟨I1, L2, rfl, rfl, H⟩ := hq9
  show wp X B8_countFelt 8 [(0, .ref h), (1, .int x1), (2, .int x2)] [] (G, I1, L2) 0 0 _
  refine wp_iconst (z := 0) (v := 0) (by decide +kernel) (by decide) ?_
  refine wp_istore_n (z := 3) (i := 3) (lv' := [(3, .int 0), (0, .ref h), (1, .int x1), (2, .int x2)]) (by decide +kernel) rfl (by decide) rfl ?_
  exact wp_sub [1, 2, 3, 0] rfl H
set_option maxRecDepth 20000 in
theorem b8_countFelt_10 {X : XX} {G : GG} {I : Nat → Nat → Int32} {L : Nat → Nat → Int64} {h : Nat} {x1 : Int32} {x2 : Int32} {x3 : Int32} {Q : (Nat → Nat → Int32) → (Nat → Nat → Int64) → Prop} (ok : OK8 G h) (H : if x2 ≤ x3 then (Q I L) else (vp_in x1 6 ∧ (vp_in x3 256 ∧ (wpI X B8_feltBy 0 [(0, .int (I (h + 58) (cl x1))), (1, .int (I (h + 59) (cl x3)))] [] G I L (fun r4 I2 L3 => wpV X B8_countFelt 35 [(0, .ref h), (1, .int x1), (2, .int x2), (3, .int x3), (4, .int r4), (5, .int 0)] [] G I2 L3 Q))))) : wpV X B8_countFelt 10 [(0, .ref h), (1, .int x1), (2, .int x2), (3, .int x3)] [] G I L Q := by
  refine wp_iload_n (z := 3) (i := 3) (x := x3) 3 (by decide +kernel) rfl rfl ?_
  refine wp_iload_n (z := 2) (i := 2) (x := x2) 2 (by decide +kernel) rfl rfl ?_
  refine wp_icmp_ge (off := 59) (tgt := 71) (by decide +kernel) (by decide) (fun c1 => ?_) (fun c1 => ?_)
  · rw [if_pos c1] at H
    exact wp_vret (by decide +kernel) rfl (Nat.zero_le _) (Nat.zero_le _) ⟨_, _, rfl, rfl, H⟩
  · rw [if_neg c1] at H
    refine wp_aload_n (z := 0) (i := 0) (r := (some h)) 0 (by decide +kernel) rfl rfl ?_
    refine wp_getS (idx := 48) (q := (h + 58)) (by decide +kernel) fl8_48 rfl ok.1 (okr8_6 ok) ?_
    refine wp_iload_n (z := 1) (i := 1) (x := x1) 1 (by decide +kernel) rfl rfl ?_
    obtain ⟨o6, H⟩ := H
    refine wp_iald (j := (cl x1)) (by decide +kernel) (oks8_6 ok) o6 rfl ?_
    refine wp_aload_n (z := 0) (i := 0) (r := (some h)) 0 (by decide +kernel) rfl rfl ?_
    refine wp_getS (idx := 52) (q := (h + 59)) (by decide +kernel) fl8_52 rfl ok.1 (okr8_7 ok) ?_
    refine wp_iload_n (z := 3) (i := 3) (x := x3) 3 (by decide +kernel) rfl rfl ?_
    obtain ⟨o5, H⟩ := H
    refine wp_iald (j := (cl x3)) (by decide +kernel) (oks8_7 ok) o5 rfl ?_
    refine wp_callS (idx := 272) (B2 := B8_feltBy) (As := [.int (I (h + 58) (cl x1)), .int (I (h + 59) (cl x3))]) (st := []) (by decide +kernel) m8_feltBy ml8_272 k8_feltBy (⟨Nat.le_of_ble_eq_true rfl, Nat.le_of_ble_eq_true rfl⟩ : rOK B8_countFelt B8_feltBy) rfl (Nat.le_of_ble_eq_true rfl) (Nat.le_of_ble_eq_true rfl) ⟨Nat.le_of_ble_eq_true rfl, Nat.le_of_ble_eq_true rfl⟩ rfl (wp_mono H (fun v9 M9 hq9 => ?_))
    clear H
    obtain ⟨r4, I2, L3, rfl, rfl, H⟩ := hq9
    show wp X B8_countFelt 30 [(0, .ref h), (1, .int x1), (2, .int x2), (3, .int x3)] [.int r4] (G, I2, L3) 0 0 _
    refine wp_istore (i := 4) (lv' := [(4, .int r4), (0, .ref h), (1, .int x1), (2, .int x2), (3, .int x3)]) (by decide +kernel) (by decide) rfl ?_
    refine wp_iconst (z := 0) (v := 0) (by decide +kernel) (by decide) ?_
    refine wp_istore (i := 5) (lv' := [(5, .int 0), (4, .int r4), (0, .ref h), (1, .int x1), (2, .int x2), (3, .int x3)]) (by decide +kernel) (by decide) rfl ?_
    exact wp_sub [2, 3, 4, 5, 1, 0] rfl H
set_option maxRecDepth 20000 in
theorem b8_countFelt_35 {X : XX} {G : GG} {I : Nat → Nat → Int32} {L : Nat → Nat → Int64} {h : Nat} {x1 : Int32} {x2 : Int32} {x3 : Int32} {x4 : Int32} {x5 : Int32} {Q : (Nat → Nat → Int32) → (Nat → Nat → Int64) → Prop} (ok : OK8 G h) (H : if 20 ≤ x5 then (wpV X B8_countFelt 10 [(0, .ref h), (1, .int x1), (2, .int x2), (3, .int (x3 + 1))] [] G I L Q) else (vp_in x5 20 ∧ (vp_in x5 20 ∧ (∀ I2, I2 = up2 I (h + 60) (cl x5) ((I (h + 60) (cl x5)) + ((x4 >>> (x5 &&& 31)) &&& 1)) → wpV X B8_countFelt 35 [(0, .ref h), (1, .int x1), (2, .int x2), (3, .int x3), (4, .int x4), (5, .int (x5 + 1))] [] G I2 L Q)))) : wpV X B8_countFelt 35 [(0, .ref h), (1, .int x1), (2, .int x2), (3, .int x3), (4, .int x4), (5, .int x5)] [] G I L Q := by
  refine wp_iload (i := 5) (x := x5) 5 (by decide +kernel) rfl ?_
  refine wp_bipush (z := 20) (v := 20) (by decide +kernel) (by decide) ?_
  refine wp_icmp_ge (off := 26) (tgt := 65) (by decide +kernel) (by decide) (fun c1 => ?_) (fun c1 => ?_)
  · rw [if_pos c1] at H
    refine wp_iinc (i := 3) (z := 1) (v := 1) (lv' := [(3, .int (x3 + 1)), (0, .ref h), (1, .int x1), (2, .int x2), (4, .int x4), (5, .int x5)]) 3 (by decide +kernel) rfl (by decide) (by decide) rfl ?_
    refine wp_goto (off := -58) (tgt := 10) (by decide +kernel) (by decide) ?_
    exact wp_sub [1, 2, 3, 0] rfl H
  · rw [if_neg c1] at H
    refine wp_aload_n (z := 0) (i := 0) (r := (some h)) 0 (by decide +kernel) rfl rfl ?_
    refine wp_getS (idx := 55) (q := (h + 60)) (by decide +kernel) fl8_55 rfl ok.1 (okr8_8 ok) ?_
    refine wp_iload (i := 5) (x := x5) 5 (by decide +kernel) rfl ?_
    refine wp_dup2 (by decide +kernel) rfl rfl ?_
    obtain ⟨o4, H⟩ := H
    refine wp_iald (j := (cl x5)) (by decide +kernel) (oks8_8 ok) o4 rfl ?_
    refine wp_iload (i := 4) (x := x4) 4 (by decide +kernel) rfl ?_
    refine wp_iload (i := 5) (x := x5) 5 (by decide +kernel) rfl ?_
    refine wp_ishr (by decide +kernel) ?_
    refine wp_iconst (z := 1) (v := 1) (by decide +kernel) (by decide) ?_
    refine wp_iand (by decide +kernel) ?_
    refine wp_iadd (by decide +kernel) ?_
    obtain ⟨o3, H⟩ := H
    refine wp_iast (j := (cl x5)) (by decide +kernel) (oks8_8 ok) o3 rfl ?_
    refine wp_memI (fun I2 eI2 => ?_)
    replace H := H I2 eI2
    refine wp_iinc (i := 5) (z := 1) (v := 1) (lv' := [(5, .int (x5 + 1)), (0, .ref h), (1, .int x1), (2, .int x2), (3, .int x3), (4, .int x4)]) 5 (by decide +kernel) rfl (by decide) (by decide) rfl ?_
    refine wp_goto (off := -27) (tgt := 35) (by decide +kernel) (by decide) ?_
    exact wp_sub [1, 2, 3, 4, 5, 0] rfl H
/-! DeafWall.ask(LDeafWall$Wall;I)I -/
set_option maxRecDepth 20000 in
theorem b8_ask {X : XX} {G : GG} {I : Nat → Nat → Int32} {L : Nat → Nat → Int64} {h : Nat} {a1 : Nat} {x2 : Int32} {Q : Int32 → (Nat → Nat → Int32) → (Nat → Nat → Int64) → Prop} (ok : OK8 G h) (ok1 : OK7 G a1) (H : if x2 = (0 : Int32) then (Q (-1) I L) else (if (I a1 4) = (0 : Int32) then (Q (-1) I L) else (wpI X B8_ask 15 [(0, .ref h), (1, .ref a1), (2, .int x2), (3, .int 0)] [] G I L Q))) : wpI X B8_ask 0 [(0, .ref h), (1, .ref a1), (2, .int x2)] [] G I L Q := by
  refine wp_iload_n (z := 2) (i := 2) (x := x2) 2 (by decide +kernel) rfl rfl ?_
  refine wp_if_eq (off := 10) (tgt := 11) (by decide +kernel) (by decide) (fun c1 => ?_) (fun c1 => ?_)
  · rw [if_pos c1] at H
    refine wp_iconst (z := -1) (v := (-1)) (by decide +kernel) (by decide) ?_
    exact wp_iret (by decide +kernel) rfl (Nat.zero_le _) (Nat.zero_le _) ⟨_, _, _, rfl, rfl, H⟩
  · rw [if_neg c1] at H
    refine wp_aload_n (z := 1) (i := 1) (r := (some a1)) 1 (by decide +kernel) rfl rfl ?_
    refine wp_getI (idx := 169) (by decide +kernel) fl8_169 rfl ok1.1 ?_
    refine wp_if_ne (off := 5) (tgt := 13) (by decide +kernel) (by decide) (fun c2 => ?_) (fun c2 => ?_)
    · rw [if_neg c2] at H
      refine wp_iconst (z := 0) (v := 0) (by decide +kernel) (by decide) ?_
      refine wp_istore_n (z := 3) (i := 3) (lv' := [(3, .int 0), (0, .ref h), (1, .ref a1), (2, .int x2)]) (by decide +kernel) rfl (by decide) rfl ?_
      exact wp_sub [1, 2, 3, 0] rfl H
    · rw [if_pos c2] at H
      refine wp_iconst (z := -1) (v := (-1)) (by decide +kernel) (by decide) ?_
      exact wp_iret (by decide +kernel) rfl (Nat.zero_le _) (Nat.zero_le _) ⟨_, _, _, rfl, rfl, H⟩
set_option maxRecDepth 20000 in
theorem b8_ask_15 {X : XX} {G : GG} {I : Nat → Nat → Int32} {L : Nat → Nat → Int64} {h : Nat} {a1 : Nat} {x2 : Int32} {x3 : Int32} {Q : Int32 → (Nat → Nat → Int32) → (Nat → Nat → Int64) → Prop} (ok : OK8 G h) (ok1 : OK7 G a1) (H : if (I a1 4) ≤ x3 then (wpI X B8_ask 92 [(0, .ref h), (1, .ref a1), (3, .int 1000000), (4, .int (-1)), (5, .int 0)] [] G I L Q) else (wpV X B8_countFelt 0 [(0, .ref h), (1, .int x3), (2, .int x2)] [] G I L (fun I2 L3 => wpI X B8_ask 32 [(0, .ref h), (1, .ref a1), (2, .int x2), (3, .int x3), (4, .int 0)] [] G I2 L3 Q))) : wpI X B8_ask 15 [(0, .ref h), (1, .ref a1), (2, .int x2), (3, .int x3)] [] G I L Q := by
  refine wp_iload_n (z := 3) (i := 3) (x := x3) 3 (by decide +kernel) rfl rfl ?_
  refine wp_aload_n (z := 1) (i := 1) (r := (some a1)) 1 (by decide +kernel) rfl rfl ?_
  refine wp_getI (idx := 169) (by decide +kernel) fl8_169 rfl ok1.1 ?_
  refine wp_icmp_ge (off := 62) (tgt := 82) (by decide +kernel) (by decide) (fun c1 => ?_) (fun c1 => ?_)
  · rw [if_pos c1] at H
    refine wp_ldcw (idx := 370) (v := 1000000) (by decide +kernel) (in_g (List.mem_of_getElem? (i := 1005) (by decide +kernel)) rfl) ?_
    refine wp_istore_n (z := 3) (i := 3) (lv' := [(3, .int 1000000), (0, .ref h), (1, .ref a1), (2, .int x2)]) (by decide +kernel) rfl (by decide) rfl ?_
    refine wp_iconst (z := -1) (v := (-1)) (by decide +kernel) (by decide) ?_
    refine wp_istore (i := 4) (lv' := [(4, .int (-1)), (3, .int 1000000), (0, .ref h), (1, .ref a1), (2, .int x2)]) (by decide +kernel) (by decide) rfl ?_
    refine wp_iconst (z := 0) (v := 0) (by decide +kernel) (by decide) ?_
    refine wp_istore (i := 5) (lv' := [(5, .int 0), (4, .int (-1)), (3, .int 1000000), (0, .ref h), (1, .ref a1), (2, .int x2)]) (by decide +kernel) (by decide) rfl ?_
    exact wp_sub [3, 4, 2, 1, 0] rfl H
  · rw [if_neg c1] at H
    refine wp_aload_n (z := 0) (i := 0) (r := (some h)) 0 (by decide +kernel) rfl rfl ?_
    refine wp_iload_n (z := 3) (i := 3) (x := x3) 3 (by decide +kernel) rfl rfl ?_
    refine wp_iload_n (z := 2) (i := 2) (x := x2) 2 (by decide +kernel) rfl rfl ?_
    refine wp_callV (idx := 425) (B2 := B8_countFelt) (As := [.int x3, .int x2]) (a := h) (st := []) (by decide +kernel) m8_countFelt ml8_425 k8_countFelt e8_countFelt ck8 ok.1 (⟨Nat.le_of_ble_eq_true rfl, Nat.le_of_ble_eq_true rfl⟩ : rOK B8_ask B8_countFelt) rfl (Nat.le_of_ble_eq_true rfl) (Nat.le_of_ble_eq_true rfl) ⟨Nat.le_of_ble_eq_true rfl, Nat.le_of_ble_eq_true rfl⟩ rfl (wp_mono H (fun v9 M9 hq9 => ?_))
    clear H
    obtain ⟨I2, L3, rfl, rfl, H⟩ := hq9
    show wp X B8_ask 29 [(0, .ref h), (1, .ref a1), (2, .int x2), (3, .int x3)] [] (G, I2, L3) 0 0 _
    refine wp_iconst (z := 0) (v := 0) (by decide +kernel) (by decide) ?_
    refine wp_istore (i := 4) (lv' := [(4, .int 0), (0, .ref h), (1, .ref a1), (2, .int x2), (3, .int x3)]) (by decide +kernel) (by decide) rfl ?_
    exact wp_sub [1, 2, 3, 4, 0] rfl H
set_option maxRecDepth 20000 in
theorem b8_ask_32 {X : XX} {G : GG} {I : Nat → Nat → Int32} {L : Nat → Nat → Int64} {h : Nat} {a1 : Nat} {x2 : Int32} {x3 : Int32} {x4 : Int32} {Q : Int32 → (Nat → Nat → Int32) → (Nat → Nat → Int64) → Prop} (ok : OK8 G h) (ok1 : OK7 G a1) (H : if 20 ≤ x4 then (wpI X B8_ask 15 [(0, .ref h), (1, .ref a1), (2, .int x2), (3, .int (x3 + 1))] [] G I L Q) else (vp_in x4 20 ∧ (vp_in x4 20 ∧ (vp_in ((x4 * 6) + x3) 120 ∧ (∀ I2, I2 = up2 I (h + 61) (cl ((x4 * 6) + x3)) (mx (I (h + 60) (cl x4)) (x2 - (I (h + 60) (cl x4)))) → wpI X B8_ask 32 [(0, .ref h), (1, .ref a1), (2, .int x2), (3, .int x3), (4, .int (x4 + 1))] [] G I2 L Q))))) : wpI X B8_ask 32 [(0, .ref h), (1, .ref a1), (2, .int x2), (3, .int x3), (4, .int x4)] [] G I L Q := by
  refine wp_iload (i := 4) (x := x4) 4 (by decide +kernel) rfl ?_
  refine wp_bipush (z := 20) (v := 20) (by decide +kernel) (by decide) ?_
  refine wp_icmp_ge (off := 40) (tgt := 76) (by decide +kernel) (by decide) (fun c1 => ?_) (fun c1 => ?_)
  · rw [if_pos c1] at H
    refine wp_iinc (i := 3) (z := 1) (v := 1) (lv' := [(3, .int (x3 + 1)), (0, .ref h), (1, .ref a1), (2, .int x2), (4, .int x4)]) 3 (by decide +kernel) rfl (by decide) (by decide) rfl ?_
    refine wp_goto (off := -64) (tgt := 15) (by decide +kernel) (by decide) ?_
    exact wp_sub [1, 2, 3, 0] rfl H
  · rw [if_neg c1] at H
    refine wp_aload_n (z := 0) (i := 0) (r := (some h)) 0 (by decide +kernel) rfl rfl ?_
    refine wp_getS (idx := 58) (q := (h + 61)) (by decide +kernel) fl8_58 rfl ok.1 (okr8_9 ok) ?_
    refine wp_iload (i := 4) (x := x4) 4 (by decide +kernel) rfl ?_
    refine wp_bipush (z := 6) (v := 6) (by decide +kernel) (by decide) ?_
    refine wp_imul (by decide +kernel) ?_
    refine wp_iload_n (z := 3) (i := 3) (x := x3) 3 (by decide +kernel) rfl rfl ?_
    refine wp_iadd (by decide +kernel) ?_
    refine wp_aload_n (z := 0) (i := 0) (r := (some h)) 0 (by decide +kernel) rfl rfl ?_
    refine wp_getS (idx := 55) (q := (h + 60)) (by decide +kernel) fl8_55 rfl ok.1 (okr8_8 ok) ?_
    refine wp_iload (i := 4) (x := x4) 4 (by decide +kernel) rfl ?_
    obtain ⟨o5, H⟩ := H
    refine wp_iald (j := (cl x4)) (by decide +kernel) (oks8_8 ok) o5 rfl ?_
    refine wp_iload_n (z := 2) (i := 2) (x := x2) 2 (by decide +kernel) rfl rfl ?_
    refine wp_aload_n (z := 0) (i := 0) (r := (some h)) 0 (by decide +kernel) rfl rfl ?_
    refine wp_getS (idx := 55) (q := (h + 60)) (by decide +kernel) fl8_55 rfl ok.1 (okr8_8 ok) ?_
    refine wp_iload (i := 4) (x := x4) 4 (by decide +kernel) rfl ?_
    obtain ⟨o4, H⟩ := H
    refine wp_iald (j := (cl x4)) (by decide +kernel) (oks8_8 ok) o4 rfl ?_
    refine wp_isub (by decide +kernel) ?_
    refine wp_mmax (idx := 333) (by decide +kernel) (in_g (List.mem_of_getElem? (i := 749) (by decide +kernel)) rfl) (in_g (List.mem_of_getElem? (i := 646) (by decide +kernel)) rfl) (in_g (List.mem_of_getElem? (i := 127) (by decide +kernel)) rfl) (in_g (List.mem_of_getElem? (i := 647) (by decide +kernel)) (by decide +kernel)) (Nat.le_of_ble_eq_true rfl) (Nat.le_of_ble_eq_true rfl) (Nat.le_of_ble_eq_true rfl) (Nat.le_of_ble_eq_true rfl) ?_
    obtain ⟨o3, H⟩ := H
    refine wp_iast (j := (cl ((x4 * 6) + x3))) (by decide +kernel) (oks8_9 ok) o3 rfl ?_
    refine wp_memI (fun I2 eI2 => ?_)
    replace H := H I2 eI2
    refine wp_iinc (i := 4) (z := 1) (v := 1) (lv' := [(4, .int (x4 + 1)), (0, .ref h), (1, .ref a1), (2, .int x2), (3, .int x3)]) 4 (by decide +kernel) rfl (by decide) (by decide) rfl ?_
    refine wp_goto (off := -41) (tgt := 32) (by decide +kernel) (by decide) ?_
    exact wp_sub [1, 2, 3, 4, 0] rfl H
set_option maxRecDepth 20000 in
theorem b8_ask_92 {X : XX} {G : GG} {I : Nat → Nat → Int32} {L : Nat → Nat → Int64} {h : Nat} {a1 : Nat} {x3 : Int32} {x4 : Int32} {x5 : Int32} {Q : Int32 → (Nat → Nat → Int32) → (Nat → Nat → Int64) → Prop} (ok : OK8 G h) (ok1 : OK7 G a1) (H : if 20 ≤ x5 then (Q x4 I L) else (wpI X B8_ask 102 [(0, .ref h), (1, .ref a1), (3, .int x3), (4, .int x4), (5, .int x5), (6, .int 0)] [] G I L Q)) : wpI X B8_ask 92 [(0, .ref h), (1, .ref a1), (3, .int x3), (4, .int x4), (5, .int x5)] [] G I L Q := by
  refine wp_iload (i := 5) (x := x5) 4 (by decide +kernel) rfl ?_
  refine wp_bipush (z := 20) (v := 20) (by decide +kernel) (by decide) ?_
  refine wp_icmp_ge (off := 68) (tgt := 164) (by decide +kernel) (by decide) (fun c1 => ?_) (fun c1 => ?_)
  · rw [if_pos c1] at H
    refine wp_iload (i := 4) (x := x4) 3 (by decide +kernel) rfl ?_
    exact wp_iret (by decide +kernel) rfl (Nat.zero_le _) (Nat.zero_le _) ⟨_, _, _, rfl, rfl, H⟩
  · rw [if_neg c1] at H
    refine wp_iconst (z := 0) (v := 0) (by decide +kernel) (by decide) ?_
    refine wp_istore (i := 6) (lv' := [(6, .int 0), (0, .ref h), (1, .ref a1), (3, .int x3), (4, .int x4), (5, .int x5)]) (by decide +kernel) (by decide) rfl ?_
    exact wp_sub [1, 2, 3, 4, 5, 0] rfl H
set_option maxRecDepth 20000 in
theorem b8_ask_102 {X : XX} {G : GG} {I : Nat → Nat → Int32} {L : Nat → Nat → Int64} {h : Nat} {a1 : Nat} {x3 : Int32} {x4 : Int32} {x5 : Int32} {x6 : Int32} {Q : Int32 → (Nat → Nat → Int32) → (Nat → Nat → Int64) → Prop} (ok : OK8 G h) (ok1 : OK7 G a1) (H : if (I a1 4) ≤ x6 then (wpI X B8_ask 92 [(0, .ref h), (1, .ref a1), (3, .int x3), (4, .int x4), (5, .int (x5 + 1))] [] G I L Q) else (vp_in ((x5 * 6) + x6) 120 ∧ (if x3 ≤ (I (h + 61) (cl ((x5 * 6) + x6))) then (wpI X B8_ask 102 [(0, .ref h), (1, .ref a1), (3, .int x3), (4, .int x4), (5, .int x5), (6, .int (x6 + 1))] [] G I L Q) else (vp_in ((x5 * 6) + x6) 120 ∧ (∀ u3, u3 = (I (h + 61) (cl ((x5 * 6) + x6))) → ∀ u4, u4 = ((10 * x5) + x6) → wpI X B8_ask 102 [(0, .ref h), (1, .ref a1), (3, .int u3), (4, .int u4), (5, .int x5), (6, .int (x6 + 1))] [] G I L Q))))) : wpI X B8_ask 102 [(0, .ref h), (1, .ref a1), (3, .int x3), (4, .int x4), (5, .int x5), (6, .int x6)] [] G I L Q := by
  refine wp_iload (i := 6) (x := x6) 5 (by decide +kernel) rfl ?_
  refine wp_aload_n (z := 1) (i := 1) (r := (some a1)) 1 (by decide +kernel) rfl rfl ?_
  refine wp_getI (idx := 169) (by decide +kernel) fl8_169 rfl ok1.1 ?_
  refine wp_icmp_ge (off := 50) (tgt := 158) (by decide +kernel) (by decide) (fun c1 => ?_) (fun c1 => ?_)
  · rw [if_pos c1] at H
    refine wp_iinc (i := 5) (z := 1) (v := 1) (lv' := [(5, .int (x5 + 1)), (0, .ref h), (1, .ref a1), (3, .int x3), (4, .int x4), (6, .int x6)]) 4 (by decide +kernel) rfl (by decide) (by decide) rfl ?_
    refine wp_goto (off := -69) (tgt := 92) (by decide +kernel) (by decide) ?_
    exact wp_sub [1, 2, 3, 4, 0] rfl H
  · rw [if_neg c1] at H
    refine wp_aload_n (z := 0) (i := 0) (r := (some h)) 0 (by decide +kernel) rfl rfl ?_
    refine wp_getS (idx := 58) (q := (h + 61)) (by decide +kernel) fl8_58 rfl ok.1 (okr8_9 ok) ?_
    refine wp_iload (i := 5) (x := x5) 4 (by decide +kernel) rfl ?_
    refine wp_bipush (z := 6) (v := 6) (by decide +kernel) (by decide) ?_
    refine wp_imul (by decide +kernel) ?_
    refine wp_iload (i := 6) (x := x6) 5 (by decide +kernel) rfl ?_
    refine wp_iadd (by decide +kernel) ?_
    obtain ⟨o6, H⟩ := H
    refine wp_iald (j := (cl ((x5 * 6) + x6))) (by decide +kernel) (oks8_9 ok) o6 rfl ?_
    refine wp_iload_n (z := 3) (i := 3) (x := x3) 2 (by decide +kernel) rfl rfl ?_
    refine wp_icmp_ge (off := 27) (tgt := 152) (by decide +kernel) (by decide) (fun c2 => ?_) (fun c2 => ?_)
    · rw [if_pos c2] at H
      refine wp_iinc (i := 6) (z := 1) (v := 1) (lv' := [(6, .int (x6 + 1)), (0, .ref h), (1, .ref a1), (3, .int x3), (4, .int x4), (5, .int x5)]) 5 (by decide +kernel) rfl (by decide) (by decide) rfl ?_
      refine wp_goto (off := -53) (tgt := 102) (by decide +kernel) (by decide) ?_
      exact wp_sub [1, 2, 3, 4, 5, 0] rfl H
    · rw [if_neg c2] at H
      refine wp_aload_n (z := 0) (i := 0) (r := (some h)) 0 (by decide +kernel) rfl rfl ?_
      refine wp_getS (idx := 58) (q := (h + 61)) (by decide +kernel) fl8_58 rfl ok.1 (okr8_9 ok) ?_
      refine wp_iload (i := 5) (x := x5) 4 (by decide +kernel) rfl ?_
      refine wp_bipush (z := 6) (v := 6) (by decide +kernel) (by decide) ?_
      refine wp_imul (by decide +kernel) ?_
      refine wp_iload (i := 6) (x := x6) 5 (by decide +kernel) rfl ?_
      refine wp_iadd (by decide +kernel) ?_
      obtain ⟨o5, H⟩ := H
      refine wp_iald (j := (cl ((x5 * 6) + x6))) (by decide +kernel) (oks8_9 ok) o5 rfl ?_
      refine wp_topi (fun u3 eu3 => ?_)
      replace H := H u3 eu3
      refine wp_istore_n (z := 3) (i := 3) (lv' := [(3, .int u3), (0, .ref h), (1, .ref a1), (4, .int x4), (5, .int x5), (6, .int x6)]) (by decide +kernel) rfl (by decide) rfl ?_
      refine wp_bipush (z := 10) (v := 10) (by decide +kernel) (by decide) ?_
      refine wp_iload (i := 5) (x := x5) 4 (by decide +kernel) rfl ?_
      refine wp_imul (by decide +kernel) ?_
      refine wp_iload (i := 6) (x := x6) 5 (by decide +kernel) rfl ?_
      refine wp_iadd (by decide +kernel) ?_
      refine wp_topi (fun u4 eu4 => ?_)
      replace H := H u4 eu4
      refine wp_istore (i := 4) (lv' := [(4, .int u4), (3, .int u3), (0, .ref h), (1, .ref a1), (5, .int x5), (6, .int x6)]) (by decide +kernel) (by decide) rfl ?_
      refine wp_iinc (i := 6) (z := 1) (v := 1) (lv' := [(6, .int (x6 + 1)), (4, .int u4), (3, .int u3), (0, .ref h), (1, .ref a1), (5, .int x5)]) 5 (by decide +kernel) rfl (by decide) (by decide) rfl ?_
      refine wp_goto (off := -53) (tgt := 102) (by decide +kernel) (by decide) ?_
      exact wp_sub [3, 4, 2, 1, 5, 0] rfl H
/-! DeafWall.fits(IIII)I -/
set_option maxRecDepth 20000 in
theorem b8_fits {X : XX} {G : GG} {I : Nat → Nat → Int32} {L : Nat → Nat → Int64} {h : Nat} {x1 : Int32} {x2 : Int32} {x3 : Int32} {x4 : Int32} {Q : Int32 → (Nat → Nat → Int32) → (Nat → Nat → Int64) → Prop} (ok : OK8 G h) (H : wpR X B8_wallAt 0 [(0, .ref h), (1, .int x1)] [] G I L (fun r3 I1 L2 => wpR X B8_linesAt 0 [(0, .ref h), (1, .int 2), (2, .int x2)] [] G I1 L2 (fun r6 I4 L5 => (r3 = none → Q (-2) I4 L5) ∧ (∀ q8, r3 = some q8 → (r6 = none → Q (-2) I4 L5) ∧ (∀ q10, r6 = some q10 → if (v8_isLength x3) = (0 : Int32) then (Q (-2) I4 L5) else (if (0 : Int32) ≤ x4 then (wpI X B8_fit 0 [(0, .ref h), (1, .ref q8), (2, .ref q10), (3, .int x3)] [] G I4 L5 (fun r15 I13 L14 => if x4 < 10 then (if x4 = 0 then (Q r15 I13 L14) else (if x4 = 1 then (wpI X B8_sure 0 [(0, .ref h), (1, .int r15), (2, .int x3), (3, .int 1)] [] G I13 L14 (fun r21 I19 L20 => Q r21 I19 L20)) else (if x4 = 2 then (wpI X B8_sure 0 [(0, .ref h), (1, .int r15), (2, .int x3), (3, .int 0)] [] G I13 L14 (fun r25 I23 L24 => Q r25 I23 L24)) else (if x4 = 3 then (wpI X B8_ask 0 [(0, .ref h), (1, .ref q8), (2, .int r15)] [] G I13 L14 (fun r29 I27 L28 => Q r29 I27 L28)) else (Q (-2) I13 L14))))) else (if r15 ≤ (x4 - 10) then (Q (-2) I13 L14) else (vp_in (x4 - 10) 256 ∧ (Q (I13 (h + 59) (cl (x4 - 10))) I13 L14))))) else (Q (-2) I4 L5))))))) : wpI X B8_fits 0 [(0, .ref h), (1, .int x1), (2, .int x2), (3, .int x3), (4, .int x4)] [] G I L Q := by
  refine wp_aload_n (z := 0) (i := 0) (r := (some h)) 0 (by decide +kernel) rfl rfl ?_
  refine wp_iload_n (z := 1) (i := 1) (x := x1) 1 (by decide +kernel) rfl rfl ?_
  refine wp_callV (idx := 129) (B2 := B8_wallAt) (As := [.int x1]) (a := h) (st := []) (by decide +kernel) m8_wallAt ml8_129 k8_wallAt e8_wallAt ck8 ok.1 (⟨Nat.le_of_ble_eq_true rfl, Nat.le_of_ble_eq_true rfl⟩ : rOK B8_fits B8_wallAt) rfl (Nat.le_of_ble_eq_true rfl) (Nat.le_of_ble_eq_true rfl) ⟨Nat.le_of_ble_eq_true rfl, Nat.le_of_ble_eq_true rfl⟩ rfl (wp_mono H (fun v9 M9 hq9 => ?_))
  clear H
  obtain ⟨r3, I1, L2, rfl, rfl, H⟩ := hq9
  show wp X B8_fits 5 [(0, .ref h), (1, .int x1), (2, .int x2), (3, .int x3), (4, .int x4)] [va_rf r3] (G, I1, L2) 0 0 _
  refine wp_astore (i := 5) (lv' := [(5, va_rf r3), (0, .ref h), (1, .int x1), (2, .int x2), (3, .int x3), (4, .int x4)]) (r := r3) (by decide +kernel) (by decide) (by cases r3 <;> rfl) ?_
  refine wp_aload_n (z := 0) (i := 0) (r := (some h)) 1 (by decide +kernel) rfl rfl ?_
  refine wp_iconst (z := 2) (v := 2) (by decide +kernel) (by decide) ?_
  refine wp_iload_n (z := 2) (i := 2) (x := x2) 3 (by decide +kernel) rfl rfl ?_
  refine wp_callV (idx := 175) (B2 := B8_linesAt) (As := [.int 2, .int x2]) (a := h) (st := []) (by decide +kernel) m8_linesAt ml8_175 k8_linesAt e8_linesAt ck8 ok.1 (⟨Nat.le_of_ble_eq_true rfl, Nat.le_of_ble_eq_true rfl⟩ : rOK B8_fits B8_linesAt) rfl (Nat.le_of_ble_eq_true rfl) (Nat.le_of_ble_eq_true rfl) ⟨Nat.le_of_ble_eq_true rfl, Nat.le_of_ble_eq_true rfl⟩ rfl (wp_mono H (fun v9 M9 hq9 => ?_))
  clear H
  obtain ⟨r6, I4, L5, rfl, rfl, H⟩ := hq9
  show wp X B8_fits 13 [(5, va_rf r3), (0, .ref h), (1, .int x1), (2, .int x2), (3, .int x3), (4, .int x4)] [va_rf r6] (G, I4, L5) 0 0 _
  refine wp_astore (i := 6) (lv' := [(6, va_rf r6), (5, va_rf r3), (0, .ref h), (1, .int x1), (2, .int x2), (3, .int x3), (4, .int x4)]) (r := r6) (by decide +kernel) (by decide) (by cases r6 <;> cases r3 <;> rfl) ?_
  refine wp_aload (i := 5) (r := r3) 1 (by decide +kernel) rfl ?_
  refine wp_ifnull (off := 20) (tgt := 37) (r := r3) (by decide +kernel) (by decide) (fun c7 => ?_) (fun q8 c7 => ?_)
  · replace H := H.1 c7
    subst c7
    show wp X B8_fits 37 [(6, va_rf r6), (5, .null), (0, .ref h), (1, .int x1), (2, .int x2), (3, .int x3), (4, .int x4)] [] (G, I4, L5) 0 0 _
    refine wp_bipush (z := -2) (v := (-2)) (by decide +kernel) (by decide) ?_
    exact wp_iret (by decide +kernel) rfl (Nat.zero_le _) (Nat.zero_le _) ⟨_, _, _, rfl, rfl, H⟩
  · replace H := H.2 q8 c7
    subst c7
    show wp X B8_fits 20 [(6, va_rf r6), (5, .ref q8), (0, .ref h), (1, .int x1), (2, .int x2), (3, .int x3), (4, .int x4)] [] (G, I4, L5) 0 0 _
    refine wp_aload (i := 6) (r := r6) 0 (by decide +kernel) rfl ?_
    refine wp_ifnull (off := 15) (tgt := 37) (r := r6) (by decide +kernel) (by decide) (fun c9 => ?_) (fun q10 c9 => ?_)
    · replace H := H.1 c9
      subst c9
      show wp X B8_fits 37 [(6, .null), (5, .ref q8), (0, .ref h), (1, .int x1), (2, .int x2), (3, .int x3), (4, .int x4)] [] (G, I4, L5) 0 0 _
      refine wp_bipush (z := -2) (v := (-2)) (by decide +kernel) (by decide) ?_
      exact wp_iret (by decide +kernel) rfl (Nat.zero_le _) (Nat.zero_le _) ⟨_, _, _, rfl, rfl, H⟩
    · replace H := H.2 q10 c9
      subst c9
      show wp X B8_fits 25 [(6, .ref q10), (5, .ref q8), (0, .ref h), (1, .int x1), (2, .int x2), (3, .int x3), (4, .int x4)] [] (G, I4, L5) 0 0 _
      refine wp_iload_n (z := 3) (i := 3) (x := x3) 5 (by decide +kernel) rfl rfl ?_
      refine wp_callS (idx := 278) (B2 := B8_isLength) (As := [.int x3]) (st := []) (by decide +kernel) m8_isLength ml8_278 k8_isLength (⟨Nat.le_of_ble_eq_true rfl, Nat.le_of_ble_eq_true rfl⟩ : rOK B8_fits B8_isLength) rfl (Nat.le_of_ble_eq_true rfl) (Nat.le_of_ble_eq_true rfl) ⟨Nat.le_of_ble_eq_true rfl, Nat.le_of_ble_eq_true rfl⟩ rfl (wp_mono (b8_isLength (Q := (fun r I' L' => r = (v8_isLength x3) ∧ I4 = I' ∧ L5 = L'))  ⟨rfl, rfl, rfl⟩) (fun v9 M9 hq9 => ?_))
      obtain ⟨_, _, _, rfl, rfl, rfl, rfl, rfl⟩ := hq9
      show wp X B8_fits 29 [(6, .ref q10), (5, .ref q8), (0, .ref h), (1, .int x1), (2, .int x2), (3, .int x3), (4, .int x4)] [.int (v8_isLength x3)] (G, I4, L5) 0 0 _
      refine wp_if_eq (off := 8) (tgt := 37) (by decide +kernel) (by decide) (fun c11 => ?_) (fun c11 => ?_)
      · rw [if_pos c11] at H
        refine wp_bipush (z := -2) (v := (-2)) (by decide +kernel) (by decide) ?_
        exact wp_iret (by decide +kernel) rfl (Nat.zero_le _) (Nat.zero_le _) ⟨_, _, _, rfl, rfl, H⟩
      · rw [if_neg c11] at H
        refine wp_iload (i := 4) (x := x4) 6 (by decide +kernel) rfl ?_
        refine wp_if_ge (off := 6) (tgt := 40) (by decide +kernel) (by decide) (fun c12 => ?_) (fun c12 => ?_)
        · rw [if_pos c12] at H
          refine wp_aload_n (z := 0) (i := 0) (r := (some h)) 2 (by decide +kernel) rfl rfl ?_
          refine wp_aload (i := 5) (r := (some q8)) 1 (by decide +kernel) rfl ?_
          refine wp_aload (i := 6) (r := (some q10)) 0 (by decide +kernel) rfl ?_
          refine wp_iload_n (z := 3) (i := 3) (x := x3) 5 (by decide +kernel) rfl rfl ?_
          refine wp_callV (idx := 411) (B2 := B8_fit) (As := [.ref q8, .ref q10, .int x3]) (a := h) (st := []) (by decide +kernel) m8_fit ml8_411 k8_fit e8_fit ck8 ok.1 (⟨Nat.le_of_ble_eq_true rfl, Nat.le_of_ble_eq_true rfl⟩ : rOK B8_fits B8_fit) rfl (Nat.le_of_ble_eq_true rfl) (Nat.le_of_ble_eq_true rfl) ⟨Nat.le_of_ble_eq_true rfl, Nat.le_of_ble_eq_true rfl⟩ rfl (wp_mono H (fun v9 M9 hq9 => ?_))
          clear H
          obtain ⟨r15, I13, L14, rfl, rfl, H⟩ := hq9
          show wp X B8_fits 49 [(6, .ref q10), (5, .ref q8), (0, .ref h), (1, .int x1), (2, .int x2), (3, .int x3), (4, .int x4)] [.int r15] (G, I13, L14) 0 0 _
          refine wp_istore (i := 7) (lv' := [(7, .int r15), (6, .ref q10), (5, .ref q8), (0, .ref h), (1, .int x1), (2, .int x2), (3, .int x3), (4, .int x4)]) (by decide +kernel) (by decide) rfl ?_
          refine wp_iload (i := 4) (x := x4) 7 (by decide +kernel) rfl ?_
          refine wp_bipush (z := 10) (v := 10) (by decide +kernel) (by decide) ?_
          refine wp_icmp_lt (off := 29) (tgt := 84) (by decide +kernel) (by decide) (fun c16 => ?_) (fun c16 => ?_)
          · rw [if_pos c16] at H
            refine wp_iload (i := 4) (x := x4) 7 (by decide +kernel) rfl ?_
            by_cases c17 : x4 = 0
            · rw [if_pos c17] at H
              refine wp_tableIn (dflt := 60) (lo := 0) (hi := 3) (offs := #[30, 33, 42, 51]) (len := 30) (off := 30) (tgt := 116) (by decide +kernel) (by rw [c17]; decide) (by rw [c17]; decide) (by rw [c17]; rfl) (by decide) ?_
              refine wp_iload (i := 7) (x := r15) 0 (by decide +kernel) rfl ?_
              exact wp_iret (by decide +kernel) rfl (Nat.zero_le _) (Nat.zero_le _) ⟨_, _, _, rfl, rfl, H⟩
            rw [if_neg c17] at H
            by_cases c18 : x4 = 1
            · rw [if_pos c18] at H
              refine wp_tableIn (dflt := 60) (lo := 0) (hi := 3) (offs := #[30, 33, 42, 51]) (len := 30) (off := 33) (tgt := 119) (by decide +kernel) (by rw [c18]; decide) (by rw [c18]; decide) (by rw [c18]; rfl) (by decide) ?_
              refine wp_aload_n (z := 0) (i := 0) (r := (some h)) 3 (by decide +kernel) rfl rfl ?_
              refine wp_iload (i := 7) (x := r15) 0 (by decide +kernel) rfl ?_
              refine wp_iload_n (z := 3) (i := 3) (x := x3) 6 (by decide +kernel) rfl rfl ?_
              refine wp_iconst (z := 1) (v := 1) (by decide +kernel) (by decide) ?_
              refine wp_callV (idx := 414) (B2 := B8_sure) (As := [.int r15, .int x3, .int 1]) (a := h) (st := []) (by decide +kernel) m8_sure ml8_414 k8_sure e8_sure ck8 ok.1 (⟨Nat.le_of_ble_eq_true rfl, Nat.le_of_ble_eq_true rfl⟩ : rOK B8_fits B8_sure) rfl (Nat.le_of_ble_eq_true rfl) (Nat.le_of_ble_eq_true rfl) ⟨Nat.le_of_ble_eq_true rfl, Nat.le_of_ble_eq_true rfl⟩ rfl (wp_mono H (fun v9 M9 hq9 => ?_))
              clear H
              obtain ⟨r21, I19, L20, rfl, rfl, H⟩ := hq9
              show wp X B8_fits 127 [(7, .int r15), (6, .ref q10), (5, .ref q8), (0, .ref h), (1, .int x1), (2, .int x2), (3, .int x3), (4, .int x4)] [.int r21] (G, I19, L20) 0 0 _
              exact wp_iret (by decide +kernel) rfl (Nat.zero_le _) (Nat.zero_le _) ⟨_, _, _, rfl, rfl, H⟩
            rw [if_neg c18] at H
            by_cases c22 : x4 = 2
            · rw [if_pos c22] at H
              refine wp_tableIn (dflt := 60) (lo := 0) (hi := 3) (offs := #[30, 33, 42, 51]) (len := 30) (off := 42) (tgt := 128) (by decide +kernel) (by rw [c22]; decide) (by rw [c22]; decide) (by rw [c22]; rfl) (by decide) ?_
              refine wp_aload_n (z := 0) (i := 0) (r := (some h)) 3 (by decide +kernel) rfl rfl ?_
              refine wp_iload (i := 7) (x := r15) 0 (by decide +kernel) rfl ?_
              refine wp_iload_n (z := 3) (i := 3) (x := x3) 6 (by decide +kernel) rfl rfl ?_
              refine wp_iconst (z := 0) (v := 0) (by decide +kernel) (by decide) ?_
              refine wp_callV (idx := 414) (B2 := B8_sure) (As := [.int r15, .int x3, .int 0]) (a := h) (st := []) (by decide +kernel) m8_sure ml8_414 k8_sure e8_sure ck8 ok.1 (⟨Nat.le_of_ble_eq_true rfl, Nat.le_of_ble_eq_true rfl⟩ : rOK B8_fits B8_sure) rfl (Nat.le_of_ble_eq_true rfl) (Nat.le_of_ble_eq_true rfl) ⟨Nat.le_of_ble_eq_true rfl, Nat.le_of_ble_eq_true rfl⟩ rfl (wp_mono H (fun v9 M9 hq9 => ?_))
              clear H
              obtain ⟨r25, I23, L24, rfl, rfl, H⟩ := hq9
              show wp X B8_fits 136 [(7, .int r15), (6, .ref q10), (5, .ref q8), (0, .ref h), (1, .int x1), (2, .int x2), (3, .int x3), (4, .int x4)] [.int r25] (G, I23, L24) 0 0 _
              exact wp_iret (by decide +kernel) rfl (Nat.zero_le _) (Nat.zero_le _) ⟨_, _, _, rfl, rfl, H⟩
            rw [if_neg c22] at H
            by_cases c26 : x4 = 3
            · rw [if_pos c26] at H
              refine wp_tableIn (dflt := 60) (lo := 0) (hi := 3) (offs := #[30, 33, 42, 51]) (len := 30) (off := 51) (tgt := 137) (by decide +kernel) (by rw [c26]; decide) (by rw [c26]; decide) (by rw [c26]; rfl) (by decide) ?_
              refine wp_aload_n (z := 0) (i := 0) (r := (some h)) 3 (by decide +kernel) rfl rfl ?_
              refine wp_aload (i := 5) (r := (some q8)) 2 (by decide +kernel) rfl ?_
              refine wp_iload (i := 7) (x := r15) 0 (by decide +kernel) rfl ?_
              refine wp_callV (idx := 418) (B2 := B8_ask) (As := [.ref q8, .int r15]) (a := h) (st := []) (by decide +kernel) m8_ask ml8_418 k8_ask e8_ask ck8 ok.1 (⟨Nat.le_of_ble_eq_true rfl, Nat.le_of_ble_eq_true rfl⟩ : rOK B8_fits B8_ask) rfl (Nat.le_of_ble_eq_true rfl) (Nat.le_of_ble_eq_true rfl) ⟨Nat.le_of_ble_eq_true rfl, Nat.le_of_ble_eq_true rfl⟩ rfl (wp_mono H (fun v9 M9 hq9 => ?_))
              clear H
              obtain ⟨r29, I27, L28, rfl, rfl, H⟩ := hq9
              show wp X B8_fits 145 [(7, .int r15), (6, .ref q10), (5, .ref q8), (0, .ref h), (1, .int x1), (2, .int x2), (3, .int x3), (4, .int x4)] [.int r29] (G, I27, L28) 0 0 _
              exact wp_iret (by decide +kernel) rfl (Nat.zero_le _) (Nat.zero_le _) ⟨_, _, _, rfl, rfl, H⟩
            rw [if_neg c26] at H
            have qc17 := sw_ne c17 (z := 0) (by decide)
            have qc18 := sw_ne c18 (z := 1) (by decide)
            have qc22 := sw_ne c22 (z := 2) (by decide)
            have qc26 := sw_ne c26 (z := 3) (by decide)
            refine wp_tableOut (dflt := 60) (lo := 0) (hi := 3) (offs := #[30, 33, 42, 51]) (len := 30) (tgt := 146) (by decide +kernel) (by omega) (by decide) ?_
            refine wp_bipush (z := -2) (v := (-2)) (by decide +kernel) (by decide) ?_
            exact wp_iret (by decide +kernel) rfl (Nat.zero_le _) (Nat.zero_le _) ⟨_, _, _, rfl, rfl, H⟩
          · rw [if_neg c16] at H
            refine wp_iload (i := 4) (x := x4) 7 (by decide +kernel) rfl ?_
            refine wp_bipush (z := 10) (v := 10) (by decide +kernel) (by decide) ?_
            refine wp_isub (by decide +kernel) ?_
            refine wp_iload (i := 7) (x := r15) 0 (by decide +kernel) rfl ?_
            refine wp_icmp_ge (off := 16) (tgt := 81) (by decide +kernel) (by decide) (fun c30 => ?_) (fun c30 => ?_)
            · rw [if_pos c30] at H
              refine wp_bipush (z := -2) (v := (-2)) (by decide +kernel) (by decide) ?_
              exact wp_iret (by decide +kernel) rfl (Nat.zero_le _) (Nat.zero_le _) ⟨_, _, _, rfl, rfl, H⟩
            · rw [if_neg c30] at H
              refine wp_aload_n (z := 0) (i := 0) (r := (some h)) 3 (by decide +kernel) rfl rfl ?_
              refine wp_getS (idx := 52) (q := (h + 59)) (by decide +kernel) fl8_52 rfl ok.1 (okr8_7 ok) ?_
              refine wp_iload (i := 4) (x := x4) 7 (by decide +kernel) rfl ?_
              refine wp_bipush (z := 10) (v := 10) (by decide +kernel) (by decide) ?_
              refine wp_isub (by decide +kernel) ?_
              obtain ⟨o31, H⟩ := H
              refine wp_iald (j := (cl (x4 - 10))) (by decide +kernel) (oks8_7 ok) o31 rfl ?_
              refine wp_goto (off := 5) (tgt := 83) (by decide +kernel) (by decide) ?_
              exact wp_iret (by decide +kernel) rfl (Nat.zero_le _) (Nat.zero_le _) ⟨_, _, _, rfl, rfl, H⟩
        · rw [if_neg c12] at H
          refine wp_bipush (z := -2) (v := (-2)) (by decide +kernel) (by decide) ?_
          exact wp_iret (by decide +kernel) rfl (Nat.zero_le _) (Nat.zero_le _) ⟨_, _, _, rfl, rfl, H⟩
/-! DeafWall.brick(IIIII)I -/
set_option maxRecDepth 20000 in
theorem b8_brick {X : XX} {G : GG} {I : Nat → Nat → Int32} {L : Nat → Nat → Int64} {h : Nat} {x1 : Int32} {x2 : Int32} {x3 : Int32} {x4 : Int32} {x5 : Int32} {Q : Int32 → (Nat → Nat → Int32) → (Nat → Nat → Int64) → Prop} (ok : OK8 G h) (H : wpR X B8_wallAt 0 [(0, .ref h), (1, .int x1)] [] G I L (fun r3 I1 L2 => wpR X B8_linesAt 0 [(0, .ref h), (1, .int 2), (2, .int x2)] [] G I1 L2 (fun r6 I4 L5 => (r3 = none → Q (-1) I4 L5) ∧ (∀ q8, r3 = some q8 → (r6 = none → Q (-1) I4 L5) ∧ (∀ q10, r6 = some q10 → OK7 G q8 ∧ (if (v7_hasCell I4 q8 x3) = (0 : Int32) then (Q (-1) I4 L5) else (if (v8_isTune x4 x5) = (0 : Int32) then (Q (-1) I4 L5) else (wpI X B8_brick 52 [(0, .ref h), (3, .int x3), (5, .int x5), (6, .ref q8), (7, .ref q10), (8, .int 0), (9, .int 1)] [] G I4 L5 Q)))))))) : wpI X B8_brick 0 [(0, .ref h), (1, .int x1), (2, .int x2), (3, .int x3), (4, .int x4), (5, .int x5)] [] G I L Q := by
  refine wp_aload_n (z := 0) (i := 0) (r := (some h)) 0 (by decide +kernel) rfl rfl ?_
  refine wp_iload_n (z := 1) (i := 1) (x := x1) 1 (by decide +kernel) rfl rfl ?_
  refine wp_callV (idx := 129) (B2 := B8_wallAt) (As := [.int x1]) (a := h) (st := []) (by decide +kernel) m8_wallAt ml8_129 k8_wallAt e8_wallAt ck8 ok.1 (⟨Nat.le_of_ble_eq_true rfl, Nat.le_of_ble_eq_true rfl⟩ : rOK B8_brick B8_wallAt) rfl (Nat.le_of_ble_eq_true rfl) (Nat.le_of_ble_eq_true rfl) ⟨Nat.le_of_ble_eq_true rfl, Nat.le_of_ble_eq_true rfl⟩ rfl (wp_mono H (fun v9 M9 hq9 => ?_))
  clear H
  obtain ⟨r3, I1, L2, rfl, rfl, H⟩ := hq9
  show wp X B8_brick 5 [(0, .ref h), (1, .int x1), (2, .int x2), (3, .int x3), (4, .int x4), (5, .int x5)] [va_rf r3] (G, I1, L2) 0 0 _
  refine wp_astore (i := 6) (lv' := [(6, va_rf r3), (0, .ref h), (1, .int x1), (2, .int x2), (3, .int x3), (4, .int x4), (5, .int x5)]) (r := r3) (by decide +kernel) (by decide) (by cases r3 <;> rfl) ?_
  refine wp_aload_n (z := 0) (i := 0) (r := (some h)) 1 (by decide +kernel) rfl rfl ?_
  refine wp_iconst (z := 2) (v := 2) (by decide +kernel) (by decide) ?_
  refine wp_iload_n (z := 2) (i := 2) (x := x2) 3 (by decide +kernel) rfl rfl ?_
  refine wp_callV (idx := 175) (B2 := B8_linesAt) (As := [.int 2, .int x2]) (a := h) (st := []) (by decide +kernel) m8_linesAt ml8_175 k8_linesAt e8_linesAt ck8 ok.1 (⟨Nat.le_of_ble_eq_true rfl, Nat.le_of_ble_eq_true rfl⟩ : rOK B8_brick B8_linesAt) rfl (Nat.le_of_ble_eq_true rfl) (Nat.le_of_ble_eq_true rfl) ⟨Nat.le_of_ble_eq_true rfl, Nat.le_of_ble_eq_true rfl⟩ rfl (wp_mono H (fun v9 M9 hq9 => ?_))
  clear H
  obtain ⟨r6, I4, L5, rfl, rfl, H⟩ := hq9
  show wp X B8_brick 13 [(6, va_rf r3), (0, .ref h), (1, .int x1), (2, .int x2), (3, .int x3), (4, .int x4), (5, .int x5)] [va_rf r6] (G, I4, L5) 0 0 _
  refine wp_astore (i := 7) (lv' := [(7, va_rf r6), (6, va_rf r3), (0, .ref h), (1, .int x1), (2, .int x2), (3, .int x3), (4, .int x4), (5, .int x5)]) (r := r6) (by decide +kernel) (by decide) (by cases r6 <;> cases r3 <;> rfl) ?_
  refine wp_aload (i := 6) (r := r3) 1 (by decide +kernel) rfl ?_
  refine wp_ifnull (off := 27) (tgt := 44) (r := r3) (by decide +kernel) (by decide) (fun c7 => ?_) (fun q8 c7 => ?_)
  · replace H := H.1 c7
    subst c7
    show wp X B8_brick 44 [(7, va_rf r6), (6, .null), (0, .ref h), (1, .int x1), (2, .int x2), (3, .int x3), (4, .int x4), (5, .int x5)] [] (G, I4, L5) 0 0 _
    refine wp_iconst (z := -1) (v := (-1)) (by decide +kernel) (by decide) ?_
    exact wp_iret (by decide +kernel) rfl (Nat.zero_le _) (Nat.zero_le _) ⟨_, _, _, rfl, rfl, H⟩
  · replace H := H.2 q8 c7
    subst c7
    show wp X B8_brick 20 [(7, va_rf r6), (6, .ref q8), (0, .ref h), (1, .int x1), (2, .int x2), (3, .int x3), (4, .int x4), (5, .int x5)] [] (G, I4, L5) 0 0 _
    refine wp_aload (i := 7) (r := r6) 0 (by decide +kernel) rfl ?_
    refine wp_ifnull (off := 22) (tgt := 44) (r := r6) (by decide +kernel) (by decide) (fun c9 => ?_) (fun q10 c9 => ?_)
    · replace H := H.1 c9
      subst c9
      show wp X B8_brick 44 [(7, .null), (6, .ref q8), (0, .ref h), (1, .int x1), (2, .int x2), (3, .int x3), (4, .int x4), (5, .int x5)] [] (G, I4, L5) 0 0 _
      refine wp_iconst (z := -1) (v := (-1)) (by decide +kernel) (by decide) ?_
      exact wp_iret (by decide +kernel) rfl (Nat.zero_le _) (Nat.zero_le _) ⟨_, _, _, rfl, rfl, H⟩
    · replace H := H.2 q10 c9
      subst c9
      show wp X B8_brick 25 [(7, .ref q10), (6, .ref q8), (0, .ref h), (1, .int x1), (2, .int x2), (3, .int x3), (4, .int x4), (5, .int x5)] [] (G, I4, L5) 0 0 _
      refine wp_aload (i := 6) (r := (some q8)) 1 (by decide +kernel) rfl ?_
      refine wp_iload_n (z := 3) (i := 3) (x := x3) 5 (by decide +kernel) rfl rfl ?_
      obtain ⟨f11, H⟩ := H
      refine wp_callV (idx := 133) (B2 := B7_hasCell) (As := [.int x3]) (a := q8) (st := []) (by decide +kernel) m7_hasCell ml8_133 k7_hasCell e7_hasCell ck7 f11.1 (⟨Nat.le_of_ble_eq_true rfl, Nat.le_of_ble_eq_true rfl⟩ : rOK B8_brick B7_hasCell) rfl (Nat.le_of_ble_eq_true rfl) (Nat.le_of_ble_eq_true rfl) ⟨Nat.le_of_ble_eq_true rfl, Nat.le_of_ble_eq_true rfl⟩ rfl (wp_mono (b7_hasCell (Q := (fun r I' L' => r = (v7_hasCell I4 q8 x3) ∧ I4 = I' ∧ L5 = L')) f11 ⟨rfl, rfl, rfl⟩) (fun v9 M9 hq9 => ?_))
      obtain ⟨_, _, _, rfl, rfl, rfl, rfl, rfl⟩ := hq9
      show wp X B8_brick 31 [(7, .ref q10), (6, .ref q8), (0, .ref h), (1, .int x1), (2, .int x2), (3, .int x3), (4, .int x4), (5, .int x5)] [.int (v7_hasCell I4 q8 x3)] (G, I4, L5) 0 0 _
      refine wp_if_eq (off := 13) (tgt := 44) (by decide +kernel) (by decide) (fun c12 => ?_) (fun c12 => ?_)
      · rw [if_pos c12] at H
        refine wp_iconst (z := -1) (v := (-1)) (by decide +kernel) (by decide) ?_
        exact wp_iret (by decide +kernel) rfl (Nat.zero_le _) (Nat.zero_le _) ⟨_, _, _, rfl, rfl, H⟩
      · rw [if_neg c12] at H
        refine wp_iload (i := 4) (x := x4) 6 (by decide +kernel) rfl ?_
        refine wp_iload (i := 5) (x := x5) 7 (by decide +kernel) rfl ?_
        refine wp_callS (idx := 257) (B2 := B8_isTune) (As := [.int x4, .int x5]) (st := []) (by decide +kernel) m8_isTune ml8_257 k8_isTune (⟨Nat.le_of_ble_eq_true rfl, Nat.le_of_ble_eq_true rfl⟩ : rOK B8_brick B8_isTune) rfl (Nat.le_of_ble_eq_true rfl) (Nat.le_of_ble_eq_true rfl) ⟨Nat.le_of_ble_eq_true rfl, Nat.le_of_ble_eq_true rfl⟩ rfl (wp_mono (b8_isTune (Q := (fun r I' L' => r = (v8_isTune x4 x5) ∧ I4 = I' ∧ L5 = L'))  ⟨rfl, rfl, rfl⟩) (fun v9 M9 hq9 => ?_))
        obtain ⟨_, _, _, rfl, rfl, rfl, rfl, rfl⟩ := hq9
        show wp X B8_brick 41 [(7, .ref q10), (6, .ref q8), (0, .ref h), (1, .int x1), (2, .int x2), (3, .int x3), (4, .int x4), (5, .int x5)] [.int (v8_isTune x4 x5)] (G, I4, L5) 0 0 _
        refine wp_if_ne (off := 5) (tgt := 46) (by decide +kernel) (by decide) (fun c13 => ?_) (fun c13 => ?_)
        · rw [if_neg c13] at H
          refine wp_iconst (z := 0) (v := 0) (by decide +kernel) (by decide) ?_
          refine wp_istore (i := 8) (lv' := [(8, .int 0), (7, .ref q10), (6, .ref q8), (0, .ref h), (1, .int x1), (2, .int x2), (3, .int x3), (4, .int x4), (5, .int x5)]) (by decide +kernel) (by decide) rfl ?_
          refine wp_iconst (z := 1) (v := 1) (by decide +kernel) (by decide) ?_
          refine wp_istore (i := 9) (lv' := [(9, .int 1), (8, .int 0), (7, .ref q10), (6, .ref q8), (0, .ref h), (1, .int x1), (2, .int x2), (3, .int x3), (4, .int x4), (5, .int x5)]) (by decide +kernel) (by decide) rfl ?_
          exact wp_sub [4, 7, 9, 3, 2, 1, 0] rfl H
        · rw [if_pos c13] at H
          refine wp_iconst (z := -1) (v := (-1)) (by decide +kernel) (by decide) ?_
          exact wp_iret (by decide +kernel) rfl (Nat.zero_le _) (Nat.zero_le _) ⟨_, _, _, rfl, rfl, H⟩
set_option maxRecDepth 20000 in
theorem b8_brick_52 {X : XX} {G : GG} {I : Nat → Nat → Int32} {L : Nat → Nat → Int64} {h : Nat} {x3 : Int32} {x5 : Int32} {a6 : Nat} {a7 : Nat} {na7 : Nat} {x8 : Int32} {x9 : Int32} {Q : Int32 → (Nat → Nat → Int32) → (Nat → Nat → Int64) → Prop} (ok : OK8 G h) (ok6 : OK7 G a6) (ok7 : OK2 G a7 na7) (H : if 9 < x9 then (Q x8 I L) else (wpV X B1_soundWith 0 [(0, .ref (h + 24)), (1, .ref a6), (2, .int x3), (3, .int x9)] [] G I L (fun I2 L3 => wpV X B8_hear 0 [(0, .ref h), (1, .ref a6)] [] G I2 L3 (fun I5 L6 => wpI X B8_factsAreSo 0 [(0, .ref h), (1, .ref a6), (2, .ref a7), (3, .int x5)] [] G I5 L6 (fun r10 I8 L9 => if r10 = (0 : Int32) then (wpI X B8_brick 52 [(0, .ref h), (3, .int x3), (5, .int x5), (6, .ref a6), (7, .ref a7), (8, .int x8), (9, .int (x9 + 1))] [] G I8 L9 Q) else (∀ u12, u12 = (x8 ||| ((1 : Int32) <<< (x9 &&& 31))) → wpI X B8_brick 52 [(0, .ref h), (3, .int x3), (5, .int x5), (6, .ref a6), (7, .ref a7), (8, .int u12), (9, .int (x9 + 1))] [] G I8 L9 Q)))))) : wpI X B8_brick 52 [(0, .ref h), (3, .int x3), (5, .int x5), (6, .ref a6), (7, .ref a7), (8, .int x8), (9, .int x9)] [] G I L Q := by
  refine wp_iload (i := 9) (x := x9) 6 (by decide +kernel) rfl ?_
  refine wp_bipush (z := 9) (v := 9) (by decide +kernel) (by decide) ?_
  refine wp_icmp_gt (off := 49) (tgt := 105) (by decide +kernel) (by decide) (fun c1 => ?_) (fun c1 => ?_)
  · rw [if_pos c1] at H
    refine wp_iload (i := 8) (x := x8) 5 (by decide +kernel) rfl ?_
    exact wp_iret (by decide +kernel) rfl (Nat.zero_le _) (Nat.zero_le _) ⟨_, _, _, rfl, rfl, H⟩
  · rw [if_neg c1] at H
    refine wp_aload_n (z := 0) (i := 0) (r := (some h)) 0 (by decide +kernel) rfl rfl ?_
    refine wp_getS (idx := 37) (q := (h + 24)) (by decide +kernel) fl8_37 rfl ok.1 (okr8_4 ok) ?_
    refine wp_aload (i := 6) (r := (some a6)) 3 (by decide +kernel) rfl ?_
    refine wp_iload_n (z := 3) (i := 3) (x := x3) 1 (by decide +kernel) rfl rfl ?_
    refine wp_iload (i := 9) (x := x9) 6 (by decide +kernel) rfl ?_
    refine wp_callV (idx := 320) (B2 := B1_soundWith) (As := [.ref a6, .int x3, .int x9]) (a := (h + 24)) (st := []) (by decide +kernel) m1_soundWith ml8_320 k1_soundWith e1_soundWith ck1 (oko8_4 ok).1 (⟨Nat.le_of_ble_eq_true rfl, Nat.le_of_ble_eq_true rfl⟩ : rOK B8_brick B1_soundWith) rfl (Nat.le_of_ble_eq_true rfl) (Nat.le_of_ble_eq_true rfl) ⟨Nat.le_of_ble_eq_true rfl, Nat.le_of_ble_eq_true rfl⟩ rfl (wp_mono H (fun v9 M9 hq9 => ?_))
    clear H
    obtain ⟨I2, L3, rfl, rfl, H⟩ := hq9
    show wp X B8_brick 71 [(0, .ref h), (3, .int x3), (5, .int x5), (6, .ref a6), (7, .ref a7), (8, .int x8), (9, .int x9)] [] (G, I2, L3) 0 0 _
    refine wp_aload_n (z := 0) (i := 0) (r := (some h)) 0 (by decide +kernel) rfl rfl ?_
    refine wp_aload (i := 6) (r := (some a6)) 3 (by decide +kernel) rfl ?_
    refine wp_callV (idx := 284) (B2 := B8_hear) (As := [.ref a6]) (a := h) (st := []) (by decide +kernel) m8_hear ml8_284 k8_hear e8_hear ck8 ok.1 (⟨Nat.le_of_ble_eq_true rfl, Nat.le_of_ble_eq_true rfl⟩ : rOK B8_brick B8_hear) rfl (Nat.le_of_ble_eq_true rfl) (Nat.le_of_ble_eq_true rfl) ⟨Nat.le_of_ble_eq_true rfl, Nat.le_of_ble_eq_true rfl⟩ rfl (wp_mono H (fun v9 M9 hq9 => ?_))
    clear H
    obtain ⟨I5, L6, rfl, rfl, H⟩ := hq9
    show wp X B8_brick 77 [(0, .ref h), (3, .int x3), (5, .int x5), (6, .ref a6), (7, .ref a7), (8, .int x8), (9, .int x9)] [] (G, I5, L6) 0 0 _
    refine wp_aload_n (z := 0) (i := 0) (r := (some h)) 0 (by decide +kernel) rfl rfl ?_
    refine wp_aload (i := 6) (r := (some a6)) 3 (by decide +kernel) rfl ?_
    refine wp_aload (i := 7) (r := (some a7)) 4 (by decide +kernel) rfl ?_
    refine wp_iload (i := 5) (x := x5) 2 (by decide +kernel) rfl ?_
    refine wp_callV (idx := 421) (B2 := B8_factsAreSo) (As := [.ref a6, .ref a7, .int x5]) (a := h) (st := []) (by decide +kernel) m8_factsAreSo ml8_421 k8_factsAreSo e8_factsAreSo ck8 ok.1 (⟨Nat.le_of_ble_eq_true rfl, Nat.le_of_ble_eq_true rfl⟩ : rOK B8_brick B8_factsAreSo) rfl (Nat.le_of_ble_eq_true rfl) (Nat.le_of_ble_eq_true rfl) ⟨Nat.le_of_ble_eq_true rfl, Nat.le_of_ble_eq_true rfl⟩ rfl (wp_mono H (fun v9 M9 hq9 => ?_))
    clear H
    obtain ⟨r10, I8, L9, rfl, rfl, H⟩ := hq9
    show wp X B8_brick 87 [(0, .ref h), (3, .int x3), (5, .int x5), (6, .ref a6), (7, .ref a7), (8, .int x8), (9, .int x9)] [.int r10] (G, I8, L9) 0 0 _
    refine wp_if_eq (off := 12) (tgt := 99) (by decide +kernel) (by decide) (fun c11 => ?_) (fun c11 => ?_)
    · rw [if_pos c11] at H
      refine wp_iinc (i := 9) (z := 1) (v := 1) (lv' := [(9, .int (x9 + 1)), (0, .ref h), (3, .int x3), (5, .int x5), (6, .ref a6), (7, .ref a7), (8, .int x8)]) 6 (by decide +kernel) rfl (by decide) (by decide) rfl ?_
      refine wp_goto (off := -50) (tgt := 52) (by decide +kernel) (by decide) ?_
      exact wp_sub [1, 2, 3, 4, 5, 6, 0] rfl H
    · rw [if_neg c11] at H
      refine wp_iload (i := 8) (x := x8) 5 (by decide +kernel) rfl ?_
      refine wp_iconst (z := 1) (v := 1) (by decide +kernel) (by decide) ?_
      refine wp_iload (i := 9) (x := x9) 6 (by decide +kernel) rfl ?_
      refine wp_ishl (by decide +kernel) ?_
      refine wp_ior (by decide +kernel) ?_
      refine wp_topi (fun u12 eu12 => ?_)
      replace H := H u12 eu12
      refine wp_istore (i := 8) (lv' := [(8, .int u12), (0, .ref h), (3, .int x3), (5, .int x5), (6, .ref a6), (7, .ref a7), (9, .int x9)]) (by decide +kernel) (by decide) rfl ?_
      refine wp_iinc (i := 9) (z := 1) (v := 1) (lv' := [(9, .int (x9 + 1)), (8, .int u12), (0, .ref h), (3, .int x3), (5, .int x5), (6, .ref a6), (7, .ref a7)]) 6 (by decide +kernel) rfl (by decide) (by decide) rfl ?_
      refine wp_goto (off := -50) (tgt := 52) (by decide +kernel) (by decide) ?_
      exact wp_sub [2, 3, 4, 5, 6, 1, 0] rfl H
/-! DeafWall.odds(IIIIZ)J -/
set_option maxRecDepth 20000 in
theorem b8_odds {X : XX} {G : GG} {I : Nat → Nat → Int32} {L : Nat → Nat → Int64} {h : Nat} {x1 : Int32} {x2 : Int32} {x3 : Int32} {x4 : Int32} {x5 : Int32} {Q : Int64 → (Nat → Nat → Int32) → (Nat → Nat → Int64) → Prop} (ok : OK8 G h) (H : wpR X B8_wallAt 0 [(0, .ref h), (1, .int x1)] [] G I L (fun r3 I1 L2 => wpR X B8_linesAt 0 [(0, .ref h), (1, .int 2), (2, .int x2)] [] G I1 L2 (fun r6 I4 L5 => (r3 = none → Q (-1) I4 L5) ∧ (∀ q8, r3 = some q8 → (r6 = none → Q (-1) I4 L5) ∧ (∀ q10, r6 = some q10 → if (v8_isLength x3) = (0 : Int32) then (Q (-1) I4 L5) else (if x4 < (0 : Int32) then (Q (-1) I4 L5) else (if x4 < x3 then (wpI X B8_fit 0 [(0, .ref h), (1, .ref q8), (2, .ref q10), (3, .int x3)] [] G I4 L5 (fun r16 I14 L15 => if r16 = (0 : Int32) then (Q (-1) I14 L15) else (wpJ X B8_odds 73 [(0, .ref h), (4, .int x4), (5, .int x5), (8, .int r16), (9, .int 0), (10, .int 0)] [] G I14 L15 Q))) else (Q (-1) I4 L5)))))))) : wpJ X B8_odds 0 [(0, .ref h), (1, .int x1), (2, .int x2), (3, .int x3), (4, .int x4), (5, .int x5)] [] G I L Q := by
  refine wp_aload_n (z := 0) (i := 0) (r := (some h)) 0 (by decide +kernel) rfl rfl ?_
  refine wp_iload_n (z := 1) (i := 1) (x := x1) 1 (by decide +kernel) rfl rfl ?_
  refine wp_callV (idx := 129) (B2 := B8_wallAt) (As := [.int x1]) (a := h) (st := []) (by decide +kernel) m8_wallAt ml8_129 k8_wallAt e8_wallAt ck8 ok.1 (⟨Nat.le_of_ble_eq_true rfl, Nat.le_of_ble_eq_true rfl⟩ : rOK B8_odds B8_wallAt) rfl (Nat.le_of_ble_eq_true rfl) (Nat.le_of_ble_eq_true rfl) ⟨Nat.le_of_ble_eq_true rfl, Nat.le_of_ble_eq_true rfl⟩ rfl (wp_mono H (fun v9 M9 hq9 => ?_))
  clear H
  obtain ⟨r3, I1, L2, rfl, rfl, H⟩ := hq9
  show wp X B8_odds 5 [(0, .ref h), (1, .int x1), (2, .int x2), (3, .int x3), (4, .int x4), (5, .int x5)] [va_rf r3] (G, I1, L2) 0 0 _
  refine wp_astore (i := 6) (lv' := [(6, va_rf r3), (0, .ref h), (1, .int x1), (2, .int x2), (3, .int x3), (4, .int x4), (5, .int x5)]) (r := r3) (by decide +kernel) (by decide) (by cases r3 <;> rfl) ?_
  refine wp_aload_n (z := 0) (i := 0) (r := (some h)) 1 (by decide +kernel) rfl rfl ?_
  refine wp_iconst (z := 2) (v := 2) (by decide +kernel) (by decide) ?_
  refine wp_iload_n (z := 2) (i := 2) (x := x2) 3 (by decide +kernel) rfl rfl ?_
  refine wp_callV (idx := 175) (B2 := B8_linesAt) (As := [.int 2, .int x2]) (a := h) (st := []) (by decide +kernel) m8_linesAt ml8_175 k8_linesAt e8_linesAt ck8 ok.1 (⟨Nat.le_of_ble_eq_true rfl, Nat.le_of_ble_eq_true rfl⟩ : rOK B8_odds B8_linesAt) rfl (Nat.le_of_ble_eq_true rfl) (Nat.le_of_ble_eq_true rfl) ⟨Nat.le_of_ble_eq_true rfl, Nat.le_of_ble_eq_true rfl⟩ rfl (wp_mono H (fun v9 M9 hq9 => ?_))
  clear H
  obtain ⟨r6, I4, L5, rfl, rfl, H⟩ := hq9
  show wp X B8_odds 13 [(6, va_rf r3), (0, .ref h), (1, .int x1), (2, .int x2), (3, .int x3), (4, .int x4), (5, .int x5)] [va_rf r6] (G, I4, L5) 0 0 _
  refine wp_astore (i := 7) (lv' := [(7, va_rf r6), (6, va_rf r3), (0, .ref h), (1, .int x1), (2, .int x2), (3, .int x3), (4, .int x4), (5, .int x5)]) (r := r6) (by decide +kernel) (by decide) (by cases r6 <;> cases r3 <;> rfl) ?_
  refine wp_aload (i := 6) (r := r3) 1 (by decide +kernel) rfl ?_
  refine wp_ifnull (off := 26) (tgt := 43) (r := r3) (by decide +kernel) (by decide) (fun c7 => ?_) (fun q8 c7 => ?_)
  · replace H := H.1 c7
    subst c7
    show wp X B8_odds 43 [(7, va_rf r6), (6, .null), (0, .ref h), (1, .int x1), (2, .int x2), (3, .int x3), (4, .int x4), (5, .int x5)] [] (G, I4, L5) 0 0 _
    refine wp_ldc2 (idx := 348) (v := (-1)) (by decide +kernel) (in_g (List.mem_of_getElem? (i := 986) (by decide +kernel)) rfl) ?_
    exact wp_lret (by decide +kernel) rfl (Nat.zero_le _) (Nat.zero_le _) ⟨_, _, _, rfl, rfl, H⟩
  · replace H := H.2 q8 c7
    subst c7
    show wp X B8_odds 20 [(7, va_rf r6), (6, .ref q8), (0, .ref h), (1, .int x1), (2, .int x2), (3, .int x3), (4, .int x4), (5, .int x5)] [] (G, I4, L5) 0 0 _
    refine wp_aload (i := 7) (r := r6) 0 (by decide +kernel) rfl ?_
    refine wp_ifnull (off := 21) (tgt := 43) (r := r6) (by decide +kernel) (by decide) (fun c9 => ?_) (fun q10 c9 => ?_)
    · replace H := H.1 c9
      subst c9
      show wp X B8_odds 43 [(7, .null), (6, .ref q8), (0, .ref h), (1, .int x1), (2, .int x2), (3, .int x3), (4, .int x4), (5, .int x5)] [] (G, I4, L5) 0 0 _
      refine wp_ldc2 (idx := 348) (v := (-1)) (by decide +kernel) (in_g (List.mem_of_getElem? (i := 986) (by decide +kernel)) rfl) ?_
      exact wp_lret (by decide +kernel) rfl (Nat.zero_le _) (Nat.zero_le _) ⟨_, _, _, rfl, rfl, H⟩
    · replace H := H.2 q10 c9
      subst c9
      show wp X B8_odds 25 [(7, .ref q10), (6, .ref q8), (0, .ref h), (1, .int x1), (2, .int x2), (3, .int x3), (4, .int x4), (5, .int x5)] [] (G, I4, L5) 0 0 _
      refine wp_iload_n (z := 3) (i := 3) (x := x3) 5 (by decide +kernel) rfl rfl ?_
      refine wp_callS (idx := 278) (B2 := B8_isLength) (As := [.int x3]) (st := []) (by decide +kernel) m8_isLength ml8_278 k8_isLength (⟨Nat.le_of_ble_eq_true rfl, Nat.le_of_ble_eq_true rfl⟩ : rOK B8_odds B8_isLength) rfl (Nat.le_of_ble_eq_true rfl) (Nat.le_of_ble_eq_true rfl) ⟨Nat.le_of_ble_eq_true rfl, Nat.le_of_ble_eq_true rfl⟩ rfl (wp_mono (b8_isLength (Q := (fun r I' L' => r = (v8_isLength x3) ∧ I4 = I' ∧ L5 = L'))  ⟨rfl, rfl, rfl⟩) (fun v9 M9 hq9 => ?_))
      obtain ⟨_, _, _, rfl, rfl, rfl, rfl, rfl⟩ := hq9
      show wp X B8_odds 29 [(7, .ref q10), (6, .ref q8), (0, .ref h), (1, .int x1), (2, .int x2), (3, .int x3), (4, .int x4), (5, .int x5)] [.int (v8_isLength x3)] (G, I4, L5) 0 0 _
      refine wp_if_eq (off := 14) (tgt := 43) (by decide +kernel) (by decide) (fun c11 => ?_) (fun c11 => ?_)
      · rw [if_pos c11] at H
        refine wp_ldc2 (idx := 348) (v := (-1)) (by decide +kernel) (in_g (List.mem_of_getElem? (i := 986) (by decide +kernel)) rfl) ?_
        exact wp_lret (by decide +kernel) rfl (Nat.zero_le _) (Nat.zero_le _) ⟨_, _, _, rfl, rfl, H⟩
      · rw [if_neg c11] at H
        refine wp_iload (i := 4) (x := x4) 6 (by decide +kernel) rfl ?_
        refine wp_if_lt (off := 9) (tgt := 43) (by decide +kernel) (by decide) (fun c12 => ?_) (fun c12 => ?_)
        · rw [if_pos c12] at H
          refine wp_ldc2 (idx := 348) (v := (-1)) (by decide +kernel) (in_g (List.mem_of_getElem? (i := 986) (by decide +kernel)) rfl) ?_
          exact wp_lret (by decide +kernel) rfl (Nat.zero_le _) (Nat.zero_le _) ⟨_, _, _, rfl, rfl, H⟩
        · rw [if_neg c12] at H
          refine wp_iload (i := 4) (x := x4) 6 (by decide +kernel) rfl ?_
          refine wp_iload_n (z := 3) (i := 3) (x := x3) 5 (by decide +kernel) rfl rfl ?_
          refine wp_icmp_lt (off := 7) (tgt := 47) (by decide +kernel) (by decide) (fun c13 => ?_) (fun c13 => ?_)
          · rw [if_pos c13] at H
            refine wp_aload_n (z := 0) (i := 0) (r := (some h)) 2 (by decide +kernel) rfl rfl ?_
            refine wp_aload (i := 6) (r := (some q8)) 1 (by decide +kernel) rfl ?_
            refine wp_aload (i := 7) (r := (some q10)) 0 (by decide +kernel) rfl ?_
            refine wp_iload_n (z := 3) (i := 3) (x := x3) 5 (by decide +kernel) rfl rfl ?_
            refine wp_callV (idx := 411) (B2 := B8_fit) (As := [.ref q8, .ref q10, .int x3]) (a := h) (st := []) (by decide +kernel) m8_fit ml8_411 k8_fit e8_fit ck8 ok.1 (⟨Nat.le_of_ble_eq_true rfl, Nat.le_of_ble_eq_true rfl⟩ : rOK B8_odds B8_fit) rfl (Nat.le_of_ble_eq_true rfl) (Nat.le_of_ble_eq_true rfl) ⟨Nat.le_of_ble_eq_true rfl, Nat.le_of_ble_eq_true rfl⟩ rfl (wp_mono H (fun v9 M9 hq9 => ?_))
            clear H
            obtain ⟨r16, I14, L15, rfl, rfl, H⟩ := hq9
            show wp X B8_odds 56 [(7, .ref q10), (6, .ref q8), (0, .ref h), (1, .int x1), (2, .int x2), (3, .int x3), (4, .int x4), (5, .int x5)] [.int r16] (G, I14, L15) 0 0 _
            refine wp_istore (i := 8) (lv' := [(8, .int r16), (7, .ref q10), (6, .ref q8), (0, .ref h), (1, .int x1), (2, .int x2), (3, .int x3), (4, .int x4), (5, .int x5)]) (by decide +kernel) (by decide) rfl ?_
            refine wp_iload (i := 8) (x := r16) 0 (by decide +kernel) rfl ?_
            refine wp_if_ne (off := 7) (tgt := 67) (by decide +kernel) (by decide) (fun c17 => ?_) (fun c17 => ?_)
            · rw [if_neg c17] at H
              refine wp_iconst (z := 0) (v := 0) (by decide +kernel) (by decide) ?_
              refine wp_istore (i := 9) (lv' := [(9, .int 0), (8, .int r16), (7, .ref q10), (6, .ref q8), (0, .ref h), (1, .int x1), (2, .int x2), (3, .int x3), (4, .int x4), (5, .int x5)]) (by decide +kernel) (by decide) rfl ?_
              refine wp_iconst (z := 0) (v := 0) (by decide +kernel) (by decide) ?_
              refine wp_istore (i := 10) (lv' := [(10, .int 0), (9, .int 0), (8, .int r16), (7, .ref q10), (6, .ref q8), (0, .ref h), (1, .int x1), (2, .int x2), (3, .int x3), (4, .int x4), (5, .int x5)]) (by decide +kernel) (by decide) rfl ?_
              exact wp_sub [5, 9, 10, 2, 1, 0] rfl H
            · rw [if_pos c17] at H
              refine wp_ldc2 (idx := 348) (v := (-1)) (by decide +kernel) (in_g (List.mem_of_getElem? (i := 986) (by decide +kernel)) rfl) ?_
              exact wp_lret (by decide +kernel) rfl (Nat.zero_le _) (Nat.zero_le _) ⟨_, _, _, rfl, rfl, H⟩
          · rw [if_neg c13] at H
            refine wp_ldc2 (idx := 348) (v := (-1)) (by decide +kernel) (in_g (List.mem_of_getElem? (i := 986) (by decide +kernel)) rfl) ?_
            exact wp_lret (by decide +kernel) rfl (Nat.zero_le _) (Nat.zero_le _) ⟨_, _, _, rfl, rfl, H⟩
set_option maxRecDepth 20000 in
theorem b8_odds_73 {X : XX} {G : GG} {I : Nat → Nat → Int32} {L : Nat → Nat → Int64} {h : Nat} {x4 : Int32} {x5 : Int32} {x8 : Int32} {x9 : Int32} {x10 : Int32} {Q : Int64 → (Nat → Nat → Int32) → (Nat → Nat → Int64) → Prop} (ok : OK8 G h) (H : if x8 ≤ x10 then (wpJ X B8_leastTerm 0 [(0, .long (Int32.toInt64 x9)), (2, .long (Int32.toInt64 x8)), (4, .int x5)] [] G I L (fun r4 I2 L3 => Q r4 I2 L3)) else (vp_in x10 256 ∧ (∀ u5, u5 = (x9 + (((I (h + 59) (cl x10)) >>> (x4 &&& 31)) &&& 1)) → wpJ X B8_odds 73 [(0, .ref h), (4, .int x4), (5, .int x5), (8, .int x8), (9, .int u5), (10, .int (x10 + 1))] [] G I L Q))) : wpJ X B8_odds 73 [(0, .ref h), (4, .int x4), (5, .int x5), (8, .int x8), (9, .int x9), (10, .int x10)] [] G I L Q := by
  refine wp_iload (i := 10) (x := x10) 5 (by decide +kernel) rfl ?_
  refine wp_iload (i := 8) (x := x8) 3 (by decide +kernel) rfl ?_
  refine wp_icmp_ge (off := 26) (tgt := 103) (by decide +kernel) (by decide) (fun c1 => ?_) (fun c1 => ?_)
  · rw [if_pos c1] at H
    refine wp_iload (i := 9) (x := x9) 4 (by decide +kernel) rfl ?_
    refine wp_i2l (by decide +kernel) ?_
    refine wp_iload (i := 8) (x := x8) 3 (by decide +kernel) rfl ?_
    refine wp_i2l (by decide +kernel) ?_
    refine wp_iload (i := 5) (x := x5) 2 (by decide +kernel) rfl ?_
    refine wp_callS (idx := 354) (B2 := B8_leastTerm) (As := [.long (Int32.toInt64 x9), .long (Int32.toInt64 x8), .int x5]) (st := []) (by decide +kernel) m8_leastTerm ml8_354 k8_leastTerm (⟨Nat.le_of_ble_eq_true rfl, Nat.le_of_ble_eq_true rfl⟩ : rOK B8_odds B8_leastTerm) rfl (Nat.le_of_ble_eq_true rfl) (Nat.le_of_ble_eq_true rfl) ⟨Nat.le_of_ble_eq_true rfl, Nat.le_of_ble_eq_true rfl⟩ rfl (wp_mono H (fun v9 M9 hq9 => ?_))
    clear H
    obtain ⟨r4, I2, L3, rfl, rfl, H⟩ := hq9
    show wp X B8_odds 114 [(0, .ref h), (4, .int x4), (5, .int x5), (8, .int x8), (9, .int x9), (10, .int x10)] [.long r4] (G, I2, L3) 0 0 _
    exact wp_lret (by decide +kernel) rfl (Nat.zero_le _) (Nat.zero_le _) ⟨_, _, _, rfl, rfl, H⟩
  · rw [if_neg c1] at H
    refine wp_iload (i := 9) (x := x9) 4 (by decide +kernel) rfl ?_
    refine wp_aload_n (z := 0) (i := 0) (r := (some h)) 0 (by decide +kernel) rfl rfl ?_
    refine wp_getS (idx := 52) (q := (h + 59)) (by decide +kernel) fl8_52 rfl ok.1 (okr8_7 ok) ?_
    refine wp_iload (i := 10) (x := x10) 5 (by decide +kernel) rfl ?_
    obtain ⟨o6, H⟩ := H
    refine wp_iald (j := (cl x10)) (by decide +kernel) (oks8_7 ok) o6 rfl ?_
    refine wp_iload (i := 4) (x := x4) 1 (by decide +kernel) rfl ?_
    refine wp_ishr (by decide +kernel) ?_
    refine wp_iconst (z := 1) (v := 1) (by decide +kernel) (by decide) ?_
    refine wp_iand (by decide +kernel) ?_
    refine wp_iadd (by decide +kernel) ?_
    refine wp_topi (fun u5 eu5 => ?_)
    replace H := H u5 eu5
    refine wp_istore (i := 9) (lv' := [(9, .int u5), (0, .ref h), (4, .int x4), (5, .int x5), (8, .int x8), (10, .int x10)]) (by decide +kernel) (by decide) rfl ?_
    refine wp_iinc (i := 10) (z := 1) (v := 1) (lv' := [(10, .int (x10 + 1)), (9, .int u5), (0, .ref h), (4, .int x4), (5, .int x5), (8, .int x8)]) 5 (by decide +kernel) rfl (by decide) (by decide) rfl ?_
    refine wp_goto (off := -27) (tgt := 73) (by decide +kernel) (by decide) ?_
    exact wp_sub [2, 3, 4, 5, 1, 0] rfl H
/-! DeafWall.few(IIIZ)I -/
set_option maxRecDepth 20000 in
theorem b8_few {X : XX} {G : GG} {I : Nat → Nat → Int32} {L : Nat → Nat → Int64} {h : Nat} {x1 : Int32} {x2 : Int32} {x3 : Int32} {x4 : Int32} {Q : Int32 → (Nat → Nat → Int32) → (Nat → Nat → Int64) → Prop} (ok : OK8 G h) (H : wpR X B8_wallAt 0 [(0, .ref h), (1, .int x1)] [] G I L (fun r3 I1 L2 => wpR X B8_linesAt 0 [(0, .ref h), (1, .int 2), (2, .int x2)] [] G I1 L2 (fun r6 I4 L5 => (r3 = none → Q (-1) I4 L5) ∧ (∀ q8, r3 = some q8 → (r6 = none → Q (-1) I4 L5) ∧ (∀ q10, r6 = some q10 → if (v8_isLength x3) = (0 : Int32) then (Q (-1) I4 L5) else (wpI X B8_fit 0 [(0, .ref h), (1, .ref q8), (2, .ref q10), (3, .int x3)] [] G I4 L5 (fun r14 I12 L13 => if r14 = (0 : Int32) then (Q (-1) I12 L13) else (∀ u16, u16 = (v12_bitCount (I12 (h + 59) 0)) → wpI X B8_few 66 [(0, .ref h), (4, .int x4), (7, .int r14), (8, .int u16), (9, .int 1)] [] G I12 L13 Q)))))))) : wpI X B8_few 0 [(0, .ref h), (1, .int x1), (2, .int x2), (3, .int x3), (4, .int x4)] [] G I L Q := by
  refine wp_aload_n (z := 0) (i := 0) (r := (some h)) 0 (by decide +kernel) rfl rfl ?_
  refine wp_iload_n (z := 1) (i := 1) (x := x1) 1 (by decide +kernel) rfl rfl ?_
  refine wp_callV (idx := 129) (B2 := B8_wallAt) (As := [.int x1]) (a := h) (st := []) (by decide +kernel) m8_wallAt ml8_129 k8_wallAt e8_wallAt ck8 ok.1 (⟨Nat.le_of_ble_eq_true rfl, Nat.le_of_ble_eq_true rfl⟩ : rOK B8_few B8_wallAt) rfl (Nat.le_of_ble_eq_true rfl) (Nat.le_of_ble_eq_true rfl) ⟨Nat.le_of_ble_eq_true rfl, Nat.le_of_ble_eq_true rfl⟩ rfl (wp_mono H (fun v9 M9 hq9 => ?_))
  clear H
  obtain ⟨r3, I1, L2, rfl, rfl, H⟩ := hq9
  show wp X B8_few 5 [(0, .ref h), (1, .int x1), (2, .int x2), (3, .int x3), (4, .int x4)] [va_rf r3] (G, I1, L2) 0 0 _
  refine wp_astore (i := 5) (lv' := [(5, va_rf r3), (0, .ref h), (1, .int x1), (2, .int x2), (3, .int x3), (4, .int x4)]) (r := r3) (by decide +kernel) (by decide) (by cases r3 <;> rfl) ?_
  refine wp_aload_n (z := 0) (i := 0) (r := (some h)) 1 (by decide +kernel) rfl rfl ?_
  refine wp_iconst (z := 2) (v := 2) (by decide +kernel) (by decide) ?_
  refine wp_iload_n (z := 2) (i := 2) (x := x2) 3 (by decide +kernel) rfl rfl ?_
  refine wp_callV (idx := 175) (B2 := B8_linesAt) (As := [.int 2, .int x2]) (a := h) (st := []) (by decide +kernel) m8_linesAt ml8_175 k8_linesAt e8_linesAt ck8 ok.1 (⟨Nat.le_of_ble_eq_true rfl, Nat.le_of_ble_eq_true rfl⟩ : rOK B8_few B8_linesAt) rfl (Nat.le_of_ble_eq_true rfl) (Nat.le_of_ble_eq_true rfl) ⟨Nat.le_of_ble_eq_true rfl, Nat.le_of_ble_eq_true rfl⟩ rfl (wp_mono H (fun v9 M9 hq9 => ?_))
  clear H
  obtain ⟨r6, I4, L5, rfl, rfl, H⟩ := hq9
  show wp X B8_few 13 [(5, va_rf r3), (0, .ref h), (1, .int x1), (2, .int x2), (3, .int x3), (4, .int x4)] [va_rf r6] (G, I4, L5) 0 0 _
  refine wp_astore (i := 6) (lv' := [(6, va_rf r6), (5, va_rf r3), (0, .ref h), (1, .int x1), (2, .int x2), (3, .int x3), (4, .int x4)]) (r := r6) (by decide +kernel) (by decide) (by cases r6 <;> cases r3 <;> rfl) ?_
  refine wp_aload (i := 5) (r := r3) 1 (by decide +kernel) rfl ?_
  refine wp_ifnull (off := 15) (tgt := 32) (r := r3) (by decide +kernel) (by decide) (fun c7 => ?_) (fun q8 c7 => ?_)
  · replace H := H.1 c7
    subst c7
    show wp X B8_few 32 [(6, va_rf r6), (5, .null), (0, .ref h), (1, .int x1), (2, .int x2), (3, .int x3), (4, .int x4)] [] (G, I4, L5) 0 0 _
    refine wp_iconst (z := -1) (v := (-1)) (by decide +kernel) (by decide) ?_
    exact wp_iret (by decide +kernel) rfl (Nat.zero_le _) (Nat.zero_le _) ⟨_, _, _, rfl, rfl, H⟩
  · replace H := H.2 q8 c7
    subst c7
    show wp X B8_few 20 [(6, va_rf r6), (5, .ref q8), (0, .ref h), (1, .int x1), (2, .int x2), (3, .int x3), (4, .int x4)] [] (G, I4, L5) 0 0 _
    refine wp_aload (i := 6) (r := r6) 0 (by decide +kernel) rfl ?_
    refine wp_ifnull (off := 10) (tgt := 32) (r := r6) (by decide +kernel) (by decide) (fun c9 => ?_) (fun q10 c9 => ?_)
    · replace H := H.1 c9
      subst c9
      show wp X B8_few 32 [(6, .null), (5, .ref q8), (0, .ref h), (1, .int x1), (2, .int x2), (3, .int x3), (4, .int x4)] [] (G, I4, L5) 0 0 _
      refine wp_iconst (z := -1) (v := (-1)) (by decide +kernel) (by decide) ?_
      exact wp_iret (by decide +kernel) rfl (Nat.zero_le _) (Nat.zero_le _) ⟨_, _, _, rfl, rfl, H⟩
    · replace H := H.2 q10 c9
      subst c9
      show wp X B8_few 25 [(6, .ref q10), (5, .ref q8), (0, .ref h), (1, .int x1), (2, .int x2), (3, .int x3), (4, .int x4)] [] (G, I4, L5) 0 0 _
      refine wp_iload_n (z := 3) (i := 3) (x := x3) 5 (by decide +kernel) rfl rfl ?_
      refine wp_callS (idx := 278) (B2 := B8_isLength) (As := [.int x3]) (st := []) (by decide +kernel) m8_isLength ml8_278 k8_isLength (⟨Nat.le_of_ble_eq_true rfl, Nat.le_of_ble_eq_true rfl⟩ : rOK B8_few B8_isLength) rfl (Nat.le_of_ble_eq_true rfl) (Nat.le_of_ble_eq_true rfl) ⟨Nat.le_of_ble_eq_true rfl, Nat.le_of_ble_eq_true rfl⟩ rfl (wp_mono (b8_isLength (Q := (fun r I' L' => r = (v8_isLength x3) ∧ I4 = I' ∧ L5 = L'))  ⟨rfl, rfl, rfl⟩) (fun v9 M9 hq9 => ?_))
      obtain ⟨_, _, _, rfl, rfl, rfl, rfl, rfl⟩ := hq9
      show wp X B8_few 29 [(6, .ref q10), (5, .ref q8), (0, .ref h), (1, .int x1), (2, .int x2), (3, .int x3), (4, .int x4)] [.int (v8_isLength x3)] (G, I4, L5) 0 0 _
      refine wp_if_ne (off := 5) (tgt := 34) (by decide +kernel) (by decide) (fun c11 => ?_) (fun c11 => ?_)
      · rw [if_neg c11] at H
        refine wp_aload_n (z := 0) (i := 0) (r := (some h)) 2 (by decide +kernel) rfl rfl ?_
        refine wp_aload (i := 5) (r := (some q8)) 1 (by decide +kernel) rfl ?_
        refine wp_aload (i := 6) (r := (some q10)) 0 (by decide +kernel) rfl ?_
        refine wp_iload_n (z := 3) (i := 3) (x := x3) 5 (by decide +kernel) rfl rfl ?_
        refine wp_callV (idx := 411) (B2 := B8_fit) (As := [.ref q8, .ref q10, .int x3]) (a := h) (st := []) (by decide +kernel) m8_fit ml8_411 k8_fit e8_fit ck8 ok.1 (⟨Nat.le_of_ble_eq_true rfl, Nat.le_of_ble_eq_true rfl⟩ : rOK B8_few B8_fit) rfl (Nat.le_of_ble_eq_true rfl) (Nat.le_of_ble_eq_true rfl) ⟨Nat.le_of_ble_eq_true rfl, Nat.le_of_ble_eq_true rfl⟩ rfl (wp_mono H (fun v9 M9 hq9 => ?_))
        clear H
        obtain ⟨r14, I12, L13, rfl, rfl, H⟩ := hq9
        show wp X B8_few 43 [(6, .ref q10), (5, .ref q8), (0, .ref h), (1, .int x1), (2, .int x2), (3, .int x3), (4, .int x4)] [.int r14] (G, I12, L13) 0 0 _
        refine wp_istore (i := 7) (lv' := [(7, .int r14), (6, .ref q10), (5, .ref q8), (0, .ref h), (1, .int x1), (2, .int x2), (3, .int x3), (4, .int x4)]) (by decide +kernel) (by decide) rfl ?_
        refine wp_iload (i := 7) (x := r14) 0 (by decide +kernel) rfl ?_
        refine wp_if_ne (off := 5) (tgt := 52) (by decide +kernel) (by decide) (fun c15 => ?_) (fun c15 => ?_)
        · rw [if_neg c15] at H
          refine wp_aload_n (z := 0) (i := 0) (r := (some h)) 3 (by decide +kernel) rfl rfl ?_
          refine wp_getS (idx := 52) (q := (h + 59)) (by decide +kernel) fl8_52 rfl ok.1 (okr8_7 ok) ?_
          refine wp_iconst (z := 0) (v := 0) (by decide +kernel) (by decide) ?_
          refine wp_iald (j := 0) (by decide +kernel) (oks8_7 ok) (vin_c (by decide)) (by decide) ?_
          refine wp_callS (idx := 305) (B2 := B12_bitCount) (As := [.int (I12 (h + 59) 0)]) (st := []) (by decide +kernel) m12_bitCount ml8_305 k12_bitCount (⟨Nat.le_of_ble_eq_true rfl, Nat.le_of_ble_eq_true rfl⟩ : rOK B8_few B12_bitCount) rfl (Nat.le_of_ble_eq_true rfl) (Nat.le_of_ble_eq_true rfl) ⟨Nat.le_of_ble_eq_true rfl, Nat.le_of_ble_eq_true rfl⟩ rfl (wp_mono (b12_bitCount (Q := (fun r I' L' => r = (v12_bitCount (I12 (h + 59) 0)) ∧ I12 = I' ∧ L13 = L'))  ⟨rfl, rfl, rfl⟩) (fun v9 M9 hq9 => ?_))
          obtain ⟨_, _, _, rfl, rfl, rfl, rfl, rfl⟩ := hq9
          show wp X B8_few 61 [(7, .int r14), (6, .ref q10), (5, .ref q8), (0, .ref h), (1, .int x1), (2, .int x2), (3, .int x3), (4, .int x4)] [.int (v12_bitCount (I12 (h + 59) 0))] (G, I12, L13) 0 0 _
          refine wp_topi (fun u16 eu16 => ?_)
          replace H := H u16 eu16
          refine wp_istore (i := 8) (lv' := [(8, .int u16), (7, .int r14), (6, .ref q10), (5, .ref q8), (0, .ref h), (1, .int x1), (2, .int x2), (3, .int x3), (4, .int x4)]) (by decide +kernel) (by decide) rfl ?_
          refine wp_iconst (z := 1) (v := 1) (by decide +kernel) (by decide) ?_
          refine wp_istore (i := 9) (lv' := [(9, .int 1), (8, .int u16), (7, .int r14), (6, .ref q10), (5, .ref q8), (0, .ref h), (1, .int x1), (2, .int x2), (3, .int x3), (4, .int x4)]) (by decide +kernel) (by decide) rfl ?_
          exact wp_sub [5, 9, 2, 1, 0] rfl H
        · rw [if_pos c15] at H
          refine wp_iconst (z := -1) (v := (-1)) (by decide +kernel) (by decide) ?_
          exact wp_iret (by decide +kernel) rfl (Nat.zero_le _) (Nat.zero_le _) ⟨_, _, _, rfl, rfl, H⟩
      · rw [if_pos c11] at H
        refine wp_iconst (z := -1) (v := (-1)) (by decide +kernel) (by decide) ?_
        exact wp_iret (by decide +kernel) rfl (Nat.zero_le _) (Nat.zero_le _) ⟨_, _, _, rfl, rfl, H⟩
set_option maxRecDepth 20000 in
theorem b8_few_66 {X : XX} {G : GG} {I : Nat → Nat → Int32} {L : Nat → Nat → Int64} {h : Nat} {x4 : Int32} {x7 : Int32} {x8 : Int32} {x9 : Int32} {Q : Int32 → (Nat → Nat → Int32) → (Nat → Nat → Int64) → Prop} (ok : OK8 G h) (H : if x7 ≤ x9 then (Q x8 I L) else (vp_in x9 256 ∧ (∀ u2, u2 = (v12_bitCount (I (h + 59) (cl x9))) → if x4 = (0 : Int32) then (wpI X B8_few 66 [(0, .ref h), (4, .int x4), (7, .int x7), (8, .int (mn x8 u2)), (9, .int (x9 + 1))] [] G I L Q) else (wpI X B8_few 66 [(0, .ref h), (4, .int x4), (7, .int x7), (8, .int (mx x8 u2)), (9, .int (x9 + 1))] [] G I L Q)))) : wpI X B8_few 66 [(0, .ref h), (4, .int x4), (7, .int x7), (8, .int x8), (9, .int x9)] [] G I L Q := by
  refine wp_iload (i := 9) (x := x9) 4 (by decide +kernel) rfl ?_
  refine wp_iload (i := 7) (x := x7) 2 (by decide +kernel) rfl ?_
  refine wp_icmp_ge (off := 45) (tgt := 115) (by decide +kernel) (by decide) (fun c1 => ?_) (fun c1 => ?_)
  · rw [if_pos c1] at H
    refine wp_iload (i := 8) (x := x8) 3 (by decide +kernel) rfl ?_
    exact wp_iret (by decide +kernel) rfl (Nat.zero_le _) (Nat.zero_le _) ⟨_, _, _, rfl, rfl, H⟩
  · rw [if_neg c1] at H
    refine wp_aload_n (z := 0) (i := 0) (r := (some h)) 0 (by decide +kernel) rfl rfl ?_
    refine wp_getS (idx := 52) (q := (h + 59)) (by decide +kernel) fl8_52 rfl ok.1 (okr8_7 ok) ?_
    refine wp_iload (i := 9) (x := x9) 4 (by decide +kernel) rfl ?_
    obtain ⟨o5, H⟩ := H
    refine wp_iald (j := (cl x9)) (by decide +kernel) (oks8_7 ok) o5 rfl ?_
    refine wp_callS (idx := 305) (B2 := B12_bitCount) (As := [.int (I (h + 59) (cl x9))]) (st := []) (by decide +kernel) m12_bitCount ml8_305 k12_bitCount (⟨Nat.le_of_ble_eq_true rfl, Nat.le_of_ble_eq_true rfl⟩ : rOK B8_few B12_bitCount) rfl (Nat.le_of_ble_eq_true rfl) (Nat.le_of_ble_eq_true rfl) ⟨Nat.le_of_ble_eq_true rfl, Nat.le_of_ble_eq_true rfl⟩ rfl (wp_mono (b12_bitCount (Q := (fun r I' L' => r = (v12_bitCount (I (h + 59) (cl x9))) ∧ I = I' ∧ L = L'))  ⟨rfl, rfl, rfl⟩) (fun v9 M9 hq9 => ?_))
    obtain ⟨_, _, _, rfl, rfl, rfl, rfl, rfl⟩ := hq9
    show wp X B8_few 83 [(0, .ref h), (4, .int x4), (7, .int x7), (8, .int x8), (9, .int x9)] [.int (v12_bitCount (I (h + 59) (cl x9)))] (G, I, L) 0 0 _
    refine wp_topi (fun u2 eu2 => ?_)
    replace H := H u2 eu2
    refine wp_istore (i := 10) (lv' := [(10, .int u2), (0, .ref h), (4, .int x4), (7, .int x7), (8, .int x8), (9, .int x9)]) (by decide +kernel) (by decide) rfl ?_
    refine wp_iload (i := 4) (x := x4) 2 (by decide +kernel) rfl ?_
    refine wp_if_eq (off := 13) (tgt := 100) (by decide +kernel) (by decide) (fun c3 => ?_) (fun c3 => ?_)
    · rw [if_pos c3] at H
      refine wp_iload (i := 8) (x := x8) 4 (by decide +kernel) rfl ?_
      refine wp_iload (i := 10) (x := u2) 0 (by decide +kernel) rfl ?_
      refine wp_mmin (idx := 389) (by decide +kernel) (in_g (List.mem_of_getElem? (i := 1013) (by decide +kernel)) rfl) (in_g (List.mem_of_getElem? (i := 469) (by decide +kernel)) rfl) (in_g (List.mem_of_getElem? (i := 127) (by decide +kernel)) rfl) (in_g (List.mem_of_getElem? (i := 470) (by decide +kernel)) (by decide +kernel)) (Nat.le_of_ble_eq_true rfl) (Nat.le_of_ble_eq_true rfl) (Nat.le_of_ble_eq_true rfl) (Nat.le_of_ble_eq_true rfl) ?_
      refine wp_istore (i := 8) (lv' := [(8, .int (mn x8 u2)), (10, .int u2), (0, .ref h), (4, .int x4), (7, .int x7), (9, .int x9)]) (by decide +kernel) (by decide) rfl ?_
      refine wp_iinc (i := 9) (z := 1) (v := 1) (lv' := [(9, .int (x9 + 1)), (8, .int (mn x8 u2)), (10, .int u2), (0, .ref h), (4, .int x4), (7, .int x7)]) 5 (by decide +kernel) rfl (by decide) (by decide) rfl ?_
      refine wp_goto (off := -46) (tgt := 66) (by decide +kernel) (by decide) ?_
      exact wp_sub [3, 4, 5, 1, 0] rfl H
    · rw [if_neg c3] at H
      refine wp_iload (i := 8) (x := x8) 4 (by decide +kernel) rfl ?_
      refine wp_iload (i := 10) (x := u2) 0 (by decide +kernel) rfl ?_
      refine wp_mmax (idx := 333) (by decide +kernel) (in_g (List.mem_of_getElem? (i := 749) (by decide +kernel)) rfl) (in_g (List.mem_of_getElem? (i := 646) (by decide +kernel)) rfl) (in_g (List.mem_of_getElem? (i := 127) (by decide +kernel)) rfl) (in_g (List.mem_of_getElem? (i := 647) (by decide +kernel)) (by decide +kernel)) (Nat.le_of_ble_eq_true rfl) (Nat.le_of_ble_eq_true rfl) (Nat.le_of_ble_eq_true rfl) (Nat.le_of_ble_eq_true rfl) ?_
      refine wp_goto (off := 10) (tgt := 107) (by decide +kernel) (by decide) ?_
      refine wp_istore (i := 8) (lv' := [(8, .int (mx x8 u2)), (10, .int u2), (0, .ref h), (4, .int x4), (7, .int x7), (9, .int x9)]) (by decide +kernel) (by decide) rfl ?_
      refine wp_iinc (i := 9) (z := 1) (v := 1) (lv' := [(9, .int (x9 + 1)), (8, .int (mx x8 u2)), (10, .int u2), (0, .ref h), (4, .int x4), (7, .int x7)]) 5 (by decide +kernel) rfl (by decide) (by decide) rfl ?_
      refine wp_goto (off := -46) (tgt := 66) (by decide +kernel) (by decide) ?_
      exact wp_sub [3, 4, 5, 1, 0] rfl H
/-! DeafWall.loss(IIIZ)I -/
set_option maxRecDepth 20000 in
theorem b8_loss {X : XX} {G : GG} {I : Nat → Nat → Int32} {L : Nat → Nat → Int64} {h : Nat} {x1 : Int32} {x2 : Int32} {x3 : Int32} {x4 : Int32} {Q : Int32 → (Nat → Nat → Int32) → (Nat → Nat → Int64) → Prop} (ok : OK8 G h) (H : wpR X B8_wallAt 0 [(0, .ref h), (1, .int x1)] [] G I L (fun r3 I1 L2 => (r3 = none → Q (-1) I1 L2) ∧ (∀ q5, r3 = some q5 → OK7 G q5 ∧ (if (v7_hasCell I1 q5 x2) = (0 : Int32) then (Q (-1) I1 L2) else (if (v7_hasCell I1 q5 x3) = (0 : Int32) then (Q (-1) I1 L2) else (if x4 = (0 : Int32) then (wpV X B3_lay 0 [(0, .ref (h + 47)), (1, .ref q5), (2, .int x2), (3, .int 0)] [] G I1 L2 (fun I10 L11 => wpI X B3_lossTo 0 [(0, .ref (h + 47)), (1, .int x3), (2, .int 0)] [] G I10 L11 (fun r15 I13 L14 => Q r15 I13 L14))) else (p7_stepsBetween I1 q5 x2 x3 ∧ (Q (v7_stepsBetween I1 q5 x2 x3) I1 L2)))))))) : wpI X B8_loss 0 [(0, .ref h), (1, .int x1), (2, .int x2), (3, .int x3), (4, .int x4)] [] G I L Q := by
  refine wp_aload_n (z := 0) (i := 0) (r := (some h)) 0 (by decide +kernel) rfl rfl ?_
  refine wp_iload_n (z := 1) (i := 1) (x := x1) 1 (by decide +kernel) rfl rfl ?_
  refine wp_callV (idx := 129) (B2 := B8_wallAt) (As := [.int x1]) (a := h) (st := []) (by decide +kernel) m8_wallAt ml8_129 k8_wallAt e8_wallAt ck8 ok.1 (⟨Nat.le_of_ble_eq_true rfl, Nat.le_of_ble_eq_true rfl⟩ : rOK B8_loss B8_wallAt) rfl (Nat.le_of_ble_eq_true rfl) (Nat.le_of_ble_eq_true rfl) ⟨Nat.le_of_ble_eq_true rfl, Nat.le_of_ble_eq_true rfl⟩ rfl (wp_mono H (fun v9 M9 hq9 => ?_))
  clear H
  obtain ⟨r3, I1, L2, rfl, rfl, H⟩ := hq9
  show wp X B8_loss 5 [(0, .ref h), (1, .int x1), (2, .int x2), (3, .int x3), (4, .int x4)] [va_rf r3] (G, I1, L2) 0 0 _
  refine wp_astore (i := 5) (lv' := [(5, va_rf r3), (0, .ref h), (1, .int x1), (2, .int x2), (3, .int x3), (4, .int x4)]) (r := r3) (by decide +kernel) (by decide) (by cases r3 <;> rfl) ?_
  refine wp_aload (i := 5) (r := r3) 0 (by decide +kernel) rfl ?_
  refine wp_ifnull (off := 21) (tgt := 30) (r := r3) (by decide +kernel) (by decide) (fun c4 => ?_) (fun q5 c4 => ?_)
  · replace H := H.1 c4
    subst c4
    show wp X B8_loss 30 [(5, .null), (0, .ref h), (1, .int x1), (2, .int x2), (3, .int x3), (4, .int x4)] [] (G, I1, L2) 0 0 _
    refine wp_iconst (z := -1) (v := (-1)) (by decide +kernel) (by decide) ?_
    exact wp_iret (by decide +kernel) rfl (Nat.zero_le _) (Nat.zero_le _) ⟨_, _, _, rfl, rfl, H⟩
  · replace H := H.2 q5 c4
    subst c4
    show wp X B8_loss 12 [(5, .ref q5), (0, .ref h), (1, .int x1), (2, .int x2), (3, .int x3), (4, .int x4)] [] (G, I1, L2) 0 0 _
    refine wp_aload (i := 5) (r := (some q5)) 0 (by decide +kernel) rfl ?_
    refine wp_iload_n (z := 2) (i := 2) (x := x2) 3 (by decide +kernel) rfl rfl ?_
    obtain ⟨f6, H⟩ := H
    refine wp_callV (idx := 133) (B2 := B7_hasCell) (As := [.int x2]) (a := q5) (st := []) (by decide +kernel) m7_hasCell ml8_133 k7_hasCell e7_hasCell ck7 f6.1 (⟨Nat.le_of_ble_eq_true rfl, Nat.le_of_ble_eq_true rfl⟩ : rOK B8_loss B7_hasCell) rfl (Nat.le_of_ble_eq_true rfl) (Nat.le_of_ble_eq_true rfl) ⟨Nat.le_of_ble_eq_true rfl, Nat.le_of_ble_eq_true rfl⟩ rfl (wp_mono (b7_hasCell (Q := (fun r I' L' => r = (v7_hasCell I1 q5 x2) ∧ I1 = I' ∧ L2 = L')) f6 ⟨rfl, rfl, rfl⟩) (fun v9 M9 hq9 => ?_))
    obtain ⟨_, _, _, rfl, rfl, rfl, rfl, rfl⟩ := hq9
    show wp X B8_loss 18 [(5, .ref q5), (0, .ref h), (1, .int x1), (2, .int x2), (3, .int x3), (4, .int x4)] [.int (v7_hasCell I1 q5 x2)] (G, I1, L2) 0 0 _
    refine wp_if_eq (off := 12) (tgt := 30) (by decide +kernel) (by decide) (fun c7 => ?_) (fun c7 => ?_)
    · rw [if_pos c7] at H
      refine wp_iconst (z := -1) (v := (-1)) (by decide +kernel) (by decide) ?_
      exact wp_iret (by decide +kernel) rfl (Nat.zero_le _) (Nat.zero_le _) ⟨_, _, _, rfl, rfl, H⟩
    · rw [if_neg c7] at H
      refine wp_aload (i := 5) (r := (some q5)) 0 (by decide +kernel) rfl ?_
      refine wp_iload_n (z := 3) (i := 3) (x := x3) 4 (by decide +kernel) rfl rfl ?_
      refine wp_callV (idx := 133) (B2 := B7_hasCell) (As := [.int x3]) (a := q5) (st := []) (by decide +kernel) m7_hasCell ml8_133 k7_hasCell e7_hasCell ck7 f6.1 (⟨Nat.le_of_ble_eq_true rfl, Nat.le_of_ble_eq_true rfl⟩ : rOK B8_loss B7_hasCell) rfl (Nat.le_of_ble_eq_true rfl) (Nat.le_of_ble_eq_true rfl) ⟨Nat.le_of_ble_eq_true rfl, Nat.le_of_ble_eq_true rfl⟩ rfl (wp_mono (b7_hasCell (Q := (fun r I' L' => r = (v7_hasCell I1 q5 x3) ∧ I1 = I' ∧ L2 = L')) f6 ⟨rfl, rfl, rfl⟩) (fun v9 M9 hq9 => ?_))
      obtain ⟨_, _, _, rfl, rfl, rfl, rfl, rfl⟩ := hq9
      show wp X B8_loss 27 [(5, .ref q5), (0, .ref h), (1, .int x1), (2, .int x2), (3, .int x3), (4, .int x4)] [.int (v7_hasCell I1 q5 x3)] (G, I1, L2) 0 0 _
      refine wp_if_ne (off := 5) (tgt := 32) (by decide +kernel) (by decide) (fun c8 => ?_) (fun c8 => ?_)
      · rw [if_neg c8] at H
        refine wp_iload (i := 4) (x := x4) 5 (by decide +kernel) rfl ?_
        refine wp_if_eq (off := 11) (tgt := 45) (by decide +kernel) (by decide) (fun c9 => ?_) (fun c9 => ?_)
        · rw [if_pos c9] at H
          refine wp_aload_n (z := 0) (i := 0) (r := (some h)) 1 (by decide +kernel) rfl rfl ?_
          refine wp_getS (idx := 44) (q := (h + 47)) (by decide +kernel) fl8_44 rfl ok.1 (okr8_5 ok) ?_
          refine wp_aload (i := 5) (r := (some q5)) 0 (by decide +kernel) rfl ?_
          refine wp_iload_n (z := 2) (i := 2) (x := x2) 3 (by decide +kernel) rfl rfl ?_
          refine wp_iconst (z := 0) (v := 0) (by decide +kernel) (by decide) ?_
          refine wp_callV (idx := 324) (B2 := B3_lay) (As := [.ref q5, .int x2, .int 0]) (a := (h + 47)) (st := []) (by decide +kernel) m3_lay ml8_324 k3_lay e3_lay ck3 (oko8_5 ok).1 (⟨Nat.le_of_ble_eq_true rfl, Nat.le_of_ble_eq_true rfl⟩ : rOK B8_loss B3_lay) rfl (Nat.le_of_ble_eq_true rfl) (Nat.le_of_ble_eq_true rfl) ⟨Nat.le_of_ble_eq_true rfl, Nat.le_of_ble_eq_true rfl⟩ rfl (wp_mono H (fun v9 M9 hq9 => ?_))
          clear H
          obtain ⟨I10, L11, rfl, rfl, H⟩ := hq9
          show wp X B8_loss 56 [(5, .ref q5), (0, .ref h), (1, .int x1), (2, .int x2), (3, .int x3), (4, .int x4)] [] (G, I10, L11) 0 0 _
          refine wp_aload_n (z := 0) (i := 0) (r := (some h)) 1 (by decide +kernel) rfl rfl ?_
          refine wp_getS (idx := 44) (q := (h + 47)) (by decide +kernel) fl8_44 rfl ok.1 (okr8_5 ok) ?_
          refine wp_iload_n (z := 3) (i := 3) (x := x3) 4 (by decide +kernel) rfl rfl ?_
          refine wp_iconst (z := 0) (v := 0) (by decide +kernel) (by decide) ?_
          refine wp_callV (idx := 327) (B2 := B3_lossTo) (As := [.int x3, .int 0]) (a := (h + 47)) (st := []) (by decide +kernel) m3_lossTo ml8_327 k3_lossTo e3_lossTo ck3 (oko8_5 ok).1 (⟨Nat.le_of_ble_eq_true rfl, Nat.le_of_ble_eq_true rfl⟩ : rOK B8_loss B3_lossTo) rfl (Nat.le_of_ble_eq_true rfl) (Nat.le_of_ble_eq_true rfl) ⟨Nat.le_of_ble_eq_true rfl, Nat.le_of_ble_eq_true rfl⟩ rfl (wp_mono H (fun v9 M9 hq9 => ?_))
          clear H
          obtain ⟨r15, I13, L14, rfl, rfl, H⟩ := hq9
          show wp X B8_loss 65 [(5, .ref q5), (0, .ref h), (1, .int x1), (2, .int x2), (3, .int x3), (4, .int x4)] [.int r15] (G, I13, L14) 0 0 _
          exact wp_iret (by decide +kernel) rfl (Nat.zero_le _) (Nat.zero_le _) ⟨_, _, _, rfl, rfl, H⟩
        · rw [if_neg c9] at H
          refine wp_aload (i := 5) (r := (some q5)) 0 (by decide +kernel) rfl ?_
          refine wp_iload_n (z := 2) (i := 2) (x := x2) 3 (by decide +kernel) rfl rfl ?_
          refine wp_iload_n (z := 3) (i := 3) (x := x3) 4 (by decide +kernel) rfl rfl ?_
          obtain ⟨o16, H⟩ := H
          refine wp_callV (idx := 428) (B2 := B7_stepsBetween) (As := [.int x2, .int x3]) (a := q5) (st := []) (by decide +kernel) m7_stepsBetween ml8_428 k7_stepsBetween e7_stepsBetween ck7 f6.1 (⟨Nat.le_of_ble_eq_true rfl, Nat.le_of_ble_eq_true rfl⟩ : rOK B8_loss B7_stepsBetween) rfl (Nat.le_of_ble_eq_true rfl) (Nat.le_of_ble_eq_true rfl) ⟨Nat.le_of_ble_eq_true rfl, Nat.le_of_ble_eq_true rfl⟩ rfl (wp_mono (b7_stepsBetween (Q := (fun r I' L' => r = (v7_stepsBetween I1 q5 x2 x3) ∧ I1 = I' ∧ L2 = L')) f6 o16 ⟨rfl, rfl, rfl⟩) (fun v9 M9 hq9 => ?_))
          obtain ⟨_, _, _, rfl, rfl, rfl, rfl, rfl⟩ := hq9
          show wp X B8_loss 44 [(5, .ref q5), (0, .ref h), (1, .int x1), (2, .int x2), (3, .int x3), (4, .int x4)] [.int (v7_stepsBetween I1 q5 x2 x3)] (G, I1, L2) 0 0 _
          exact wp_iret (by decide +kernel) rfl (Nat.zero_le _) (Nat.zero_le _) ⟨_, _, _, rfl, rfl, H⟩
      · rw [if_pos c8] at H
        refine wp_iconst (z := -1) (v := (-1)) (by decide +kernel) (by decide) ?_
        exact wp_iret (by decide +kernel) rfl (Nat.zero_le _) (Nat.zero_le _) ⟨_, _, _, rfl, rfl, H⟩
/-! DeafWall.shadow(LDeafWall$Wall;Z)I -/
set_option maxRecDepth 20000 in
theorem b8_shadow {X : XX} {G : GG} {I : Nat → Nat → Int32} {L : Nat → Nat → Int64} {h : Nat} {a1 : Nat} {x2 : Int32} {Q : Int32 → (Nat → Nat → Int32) → (Nat → Nat → Int64) → Prop} (ok : OK8 G h) (ok1 : OK7 G a1) (H : wpV X B1_sound 0 [(0, .ref (h + 24)), (1, .ref a1)] [] G I L (fun I1 L2 => wpI X B8_shadow 13 [(0, .ref h), (1, .ref a1), (2, .int x2), (3, .int 0), (4, .int 0)] [] G I1 L2 Q)) : wpI X B8_shadow 0 [(0, .ref h), (1, .ref a1), (2, .int x2)] [] G I L Q := by
  refine wp_aload_n (z := 0) (i := 0) (r := (some h)) 0 (by decide +kernel) rfl rfl ?_
  refine wp_getS (idx := 37) (q := (h + 24)) (by decide +kernel) fl8_37 rfl ok.1 (okr8_4 ok) ?_
  refine wp_aload_n (z := 1) (i := 1) (r := (some a1)) 1 (by decide +kernel) rfl rfl ?_
  refine wp_callV (idx := 281) (B2 := B1_sound) (As := [.ref a1]) (a := (h + 24)) (st := []) (by decide +kernel) m1_sound ml8_281 k1_sound e1_sound ck1 (oko8_4 ok).1 (⟨Nat.le_of_ble_eq_true rfl, Nat.le_of_ble_eq_true rfl⟩ : rOK B8_shadow B1_sound) rfl (Nat.le_of_ble_eq_true rfl) (Nat.le_of_ble_eq_true rfl) ⟨Nat.le_of_ble_eq_true rfl, Nat.le_of_ble_eq_true rfl⟩ rfl (wp_mono H (fun v9 M9 hq9 => ?_))
  clear H
  obtain ⟨I1, L2, rfl, rfl, H⟩ := hq9
  show wp X B8_shadow 8 [(0, .ref h), (1, .ref a1), (2, .int x2)] [] (G, I1, L2) 0 0 _
  refine wp_iconst (z := 0) (v := 0) (by decide +kernel) (by decide) ?_
  refine wp_istore_n (z := 3) (i := 3) (lv' := [(3, .int 0), (0, .ref h), (1, .ref a1), (2, .int x2)]) (by decide +kernel) rfl (by decide) rfl ?_
  refine wp_iconst (z := 0) (v := 0) (by decide +kernel) (by decide) ?_
  refine wp_istore (i := 4) (lv' := [(4, .int 0), (3, .int 0), (0, .ref h), (1, .ref a1), (2, .int x2)]) (by decide +kernel) (by decide) rfl ?_
  exact wp_sub [2, 3, 4, 1, 0] rfl H
set_option maxRecDepth 20000 in
theorem b8_shadow_13 {X : XX} {G : GG} {I : Nat → Nat → Int32} {L : Nat → Nat → Int64} {h : Nat} {a1 : Nat} {x2 : Int32} {x3 : Int32} {x4 : Int32} {Q : Int32 → (Nat → Nat → Int32) → (Nat → Nat → Int64) → Prop} (ok : OK8 G h) (ok1 : OK7 G a1) (H : if (v7_cells I a1) ≤ x4 then (if x2 = (0 : Int32) then (Q x3 I L) else (Q (-1) I L)) else (wpI X B1_beatsFelt 0 [(0, .ref (h + 24)), (1, .int x4), (2, .int 1), (3, .int 9)] [] G I L (fun r5 I3 L4 => if r5 = (0 : Int32) then (if x2 = (0 : Int32) then (wpI X B8_shadow 13 [(0, .ref h), (1, .ref a1), (2, .int x2), (3, .int (x3 + 1)), (4, .int (x4 + 1))] [] G I3 L4 Q) else (Q x4 I3 L4)) else (wpI X B8_shadow 13 [(0, .ref h), (1, .ref a1), (2, .int x2), (3, .int x3), (4, .int (x4 + 1))] [] G I3 L4 Q)))) : wpI X B8_shadow 13 [(0, .ref h), (1, .ref a1), (2, .int x2), (3, .int x3), (4, .int x4)] [] G I L Q := by
  refine wp_iload (i := 4) (x := x4) 4 (by decide +kernel) rfl ?_
  refine wp_aload_n (z := 1) (i := 1) (r := (some a1)) 1 (by decide +kernel) rfl rfl ?_
  refine wp_callV (idx := 254) (B2 := B7_cells) (As := []) (a := a1) (st := [.int x4]) (by decide +kernel) m7_cells ml8_254 k7_cells e7_cells ck7 ok1.1 (⟨Nat.le_of_ble_eq_true rfl, Nat.le_of_ble_eq_true rfl⟩ : rOK B8_shadow B7_cells) rfl (Nat.le_of_ble_eq_true rfl) (Nat.le_of_ble_eq_true rfl) ⟨Nat.le_of_ble_eq_true rfl, Nat.le_of_ble_eq_true rfl⟩ rfl (wp_mono (b7_cells (Q := (fun r I' L' => r = (v7_cells I a1) ∧ I = I' ∧ L = L')) ok1 ⟨rfl, rfl, rfl⟩) (fun v9 M9 hq9 => ?_))
  obtain ⟨_, _, _, rfl, rfl, rfl, rfl, rfl⟩ := hq9
  show wp X B8_shadow 19 [(0, .ref h), (1, .ref a1), (2, .int x2), (3, .int x3), (4, .int x4)] [.int (v7_cells I a1), .int x4] (G, I, L) 0 0 _
  refine wp_icmp_ge (off := 34) (tgt := 53) (by decide +kernel) (by decide) (fun c1 => ?_) (fun c1 => ?_)
  · rw [if_pos c1] at H
    refine wp_iload_n (z := 2) (i := 2) (x := x2) 2 (by decide +kernel) rfl rfl ?_
    refine wp_if_eq (off := 7) (tgt := 61) (by decide +kernel) (by decide) (fun c2 => ?_) (fun c2 => ?_)
    · rw [if_pos c2] at H
      refine wp_iload_n (z := 3) (i := 3) (x := x3) 3 (by decide +kernel) rfl rfl ?_
      exact wp_iret (by decide +kernel) rfl (Nat.zero_le _) (Nat.zero_le _) ⟨_, _, _, rfl, rfl, H⟩
    · rw [if_neg c2] at H
      refine wp_iconst (z := -1) (v := (-1)) (by decide +kernel) (by decide) ?_
      refine wp_goto (off := 4) (tgt := 62) (by decide +kernel) (by decide) ?_
      exact wp_iret (by decide +kernel) rfl (Nat.zero_le _) (Nat.zero_le _) ⟨_, _, _, rfl, rfl, H⟩
  · rw [if_neg c1] at H
    refine wp_aload_n (z := 0) (i := 0) (r := (some h)) 0 (by decide +kernel) rfl rfl ?_
    refine wp_getS (idx := 37) (q := (h + 24)) (by decide +kernel) fl8_37 rfl ok.1 (okr8_4 ok) ?_
    refine wp_iload (i := 4) (x := x4) 4 (by decide +kernel) rfl ?_
    refine wp_iconst (z := 1) (v := 1) (by decide +kernel) (by decide) ?_
    refine wp_bipush (z := 9) (v := 9) (by decide +kernel) (by decide) ?_
    refine wp_callV (idx := 287) (B2 := B1_beatsFelt) (As := [.int x4, .int 1, .int 9]) (a := (h + 24)) (st := []) (by decide +kernel) m1_beatsFelt ml8_287 k1_beatsFelt e1_beatsFelt ck1 (oko8_4 ok).1 (⟨Nat.le_of_ble_eq_true rfl, Nat.le_of_ble_eq_true rfl⟩ : rOK B8_shadow B1_beatsFelt) rfl (Nat.le_of_ble_eq_true rfl) (Nat.le_of_ble_eq_true rfl) ⟨Nat.le_of_ble_eq_true rfl, Nat.le_of_ble_eq_true rfl⟩ rfl (wp_mono H (fun v9 M9 hq9 => ?_))
    clear H
    obtain ⟨r5, I3, L4, rfl, rfl, H⟩ := hq9
    show wp X B8_shadow 34 [(0, .ref h), (1, .ref a1), (2, .int x2), (3, .int x3), (4, .int x4)] [.int r5] (G, I3, L4) 0 0 _
    refine wp_if_ne (off := 13) (tgt := 47) (by decide +kernel) (by decide) (fun c6 => ?_) (fun c6 => ?_)
    · rw [if_neg c6] at H
      refine wp_iinc (i := 4) (z := 1) (v := 1) (lv' := [(4, .int (x4 + 1)), (0, .ref h), (1, .ref a1), (2, .int x2), (3, .int x3)]) 4 (by decide +kernel) rfl (by decide) (by decide) rfl ?_
      refine wp_goto (off := -37) (tgt := 13) (by decide +kernel) (by decide) ?_
      exact wp_sub [1, 2, 3, 4, 0] rfl H
    · rw [if_pos c6] at H
      refine wp_iload_n (z := 2) (i := 2) (x := x2) 2 (by decide +kernel) rfl rfl ?_
      refine wp_if_eq (off := 6) (tgt := 44) (by decide +kernel) (by decide) (fun c7 => ?_) (fun c7 => ?_)
      · rw [if_pos c7] at H
        refine wp_iinc (i := 3) (z := 1) (v := 1) (lv' := [(3, .int (x3 + 1)), (0, .ref h), (1, .ref a1), (2, .int x2), (4, .int x4)]) 3 (by decide +kernel) rfl (by decide) (by decide) rfl ?_
        refine wp_iinc (i := 4) (z := 1) (v := 1) (lv' := [(4, .int (x4 + 1)), (3, .int (x3 + 1)), (0, .ref h), (1, .ref a1), (2, .int x2)]) 4 (by decide +kernel) rfl (by decide) (by decide) rfl ?_
        refine wp_goto (off := -37) (tgt := 13) (by decide +kernel) (by decide) ?_
        exact wp_sub [2, 3, 4, 1, 0] rfl H
      · rw [if_neg c7] at H
        refine wp_iload (i := 4) (x := x4) 4 (by decide +kernel) rfl ?_
        exact wp_iret (by decide +kernel) rfl (Nat.zero_le _) (Nat.zero_le _) ⟨_, _, _, rfl, rfl, H⟩
/-! DeafWall.farthest(LDeafWall$Wall;)I -/
set_option maxRecDepth 20000 in
theorem b8_farthest {X : XX} {G : GG} {I : Nat → Nat → Int32} {L : Nat → Nat → Int64} {h : Nat} {a1 : Nat} {Q : Int32 → (Nat → Nat → Int32) → (Nat → Nat → Int64) → Prop} (ok : OK8 G h) (ok1 : OK7 G a1) (H : wpV X B3_lay 0 [(0, .ref (h + 47)), (1, .ref a1), (2, .int (I a1 2)), (3, .int 0)] [] G I L (fun I1 L2 => wpI X B8_farthest 17 [(0, .ref h), (1, .ref a1), (2, .int 0), (3, .int 1)] [] G I1 L2 Q)) : wpI X B8_farthest 0 [(0, .ref h), (1, .ref a1)] [] G I L Q := by
  refine wp_aload_n (z := 0) (i := 0) (r := (some h)) 0 (by decide +kernel) rfl rfl ?_
  refine wp_getS (idx := 44) (q := (h + 47)) (by decide +kernel) fl8_44 rfl ok.1 (okr8_5 ok) ?_
  refine wp_aload_n (z := 1) (i := 1) (r := (some a1)) 1 (by decide +kernel) rfl rfl ?_
  refine wp_aload_n (z := 1) (i := 1) (r := (some a1)) 1 (by decide +kernel) rfl rfl ?_
  refine wp_getI (idx := 166) (by decide +kernel) fl8_166 rfl ok1.1 ?_
  refine wp_iconst (z := 0) (v := 0) (by decide +kernel) (by decide) ?_
  refine wp_callV (idx := 324) (B2 := B3_lay) (As := [.ref a1, .int (I a1 2), .int 0]) (a := (h + 47)) (st := []) (by decide +kernel) m3_lay ml8_324 k3_lay e3_lay ck3 (oko8_5 ok).1 (⟨Nat.le_of_ble_eq_true rfl, Nat.le_of_ble_eq_true rfl⟩ : rOK B8_farthest B3_lay) rfl (Nat.le_of_ble_eq_true rfl) (Nat.le_of_ble_eq_true rfl) ⟨Nat.le_of_ble_eq_true rfl, Nat.le_of_ble_eq_true rfl⟩ rfl (wp_mono H (fun v9 M9 hq9 => ?_))
  clear H
  obtain ⟨I1, L2, rfl, rfl, H⟩ := hq9
  show wp X B8_farthest 13 [(0, .ref h), (1, .ref a1)] [] (G, I1, L2) 0 0 _
  refine wp_iconst (z := 0) (v := 0) (by decide +kernel) (by decide) ?_
  refine wp_istore_n (z := 2) (i := 2) (lv' := [(2, .int 0), (0, .ref h), (1, .ref a1)]) (by decide +kernel) rfl (by decide) rfl ?_
  refine wp_iconst (z := 1) (v := 1) (by decide +kernel) (by decide) ?_
  refine wp_istore_n (z := 3) (i := 3) (lv' := [(3, .int 1), (2, .int 0), (0, .ref h), (1, .ref a1)]) (by decide +kernel) rfl (by decide) rfl ?_
  exact wp_sub [2, 3, 1, 0] rfl H
set_option maxRecDepth 20000 in
theorem b8_farthest_17 {X : XX} {G : GG} {I : Nat → Nat → Int32} {L : Nat → Nat → Int64} {h : Nat} {a1 : Nat} {x2 : Int32} {x3 : Int32} {Q : Int32 → (Nat → Nat → Int32) → (Nat → Nat → Int64) → Prop} (ok : OK8 G h) (ok1 : OK7 G a1) (H : if (v7_cells I a1) ≤ x3 then (Q x2 I L) else (wpI X B3_lossTo 0 [(0, .ref (h + 47)), (1, .int x3), (2, .int 0)] [] G I L (fun r4 I2 L3 => wpI X B3_lossTo 0 [(0, .ref (h + 47)), (1, .int x2), (2, .int 0)] [] G I2 L3 (fun r7 I5 L6 => if r4 ≤ r7 then (wpI X B8_farthest 17 [(0, .ref h), (1, .ref a1), (2, .int x2), (3, .int (x3 + 1))] [] G I5 L6 Q) else (wpI X B8_farthest 17 [(0, .ref h), (1, .ref a1), (2, .int x3), (3, .int (x3 + 1))] [] G I5 L6 Q))))) : wpI X B8_farthest 17 [(0, .ref h), (1, .ref a1), (2, .int x2), (3, .int x3)] [] G I L Q := by
  refine wp_iload_n (z := 3) (i := 3) (x := x3) 3 (by decide +kernel) rfl rfl ?_
  refine wp_aload_n (z := 1) (i := 1) (r := (some a1)) 1 (by decide +kernel) rfl rfl ?_
  refine wp_callV (idx := 254) (B2 := B7_cells) (As := []) (a := a1) (st := [.int x3]) (by decide +kernel) m7_cells ml8_254 k7_cells e7_cells ck7 ok1.1 (⟨Nat.le_of_ble_eq_true rfl, Nat.le_of_ble_eq_true rfl⟩ : rOK B8_farthest B7_cells) rfl (Nat.le_of_ble_eq_true rfl) (Nat.le_of_ble_eq_true rfl) ⟨Nat.le_of_ble_eq_true rfl, Nat.le_of_ble_eq_true rfl⟩ rfl (wp_mono (b7_cells (Q := (fun r I' L' => r = (v7_cells I a1) ∧ I = I' ∧ L = L')) ok1 ⟨rfl, rfl, rfl⟩) (fun v9 M9 hq9 => ?_))
  obtain ⟨_, _, _, rfl, rfl, rfl, rfl, rfl⟩ := hq9
  show wp X B8_farthest 22 [(0, .ref h), (1, .ref a1), (2, .int x2), (3, .int x3)] [.int (v7_cells I a1), .int x3] (G, I, L) 0 0 _
  refine wp_icmp_ge (off := 32) (tgt := 54) (by decide +kernel) (by decide) (fun c1 => ?_) (fun c1 => ?_)
  · rw [if_pos c1] at H
    refine wp_iload_n (z := 2) (i := 2) (x := x2) 2 (by decide +kernel) rfl rfl ?_
    exact wp_iret (by decide +kernel) rfl (Nat.zero_le _) (Nat.zero_le _) ⟨_, _, _, rfl, rfl, H⟩
  · rw [if_neg c1] at H
    refine wp_aload_n (z := 0) (i := 0) (r := (some h)) 0 (by decide +kernel) rfl rfl ?_
    refine wp_getS (idx := 44) (q := (h + 47)) (by decide +kernel) fl8_44 rfl ok.1 (okr8_5 ok) ?_
    refine wp_iload_n (z := 3) (i := 3) (x := x3) 3 (by decide +kernel) rfl rfl ?_
    refine wp_iconst (z := 0) (v := 0) (by decide +kernel) (by decide) ?_
    refine wp_callV (idx := 327) (B2 := B3_lossTo) (As := [.int x3, .int 0]) (a := (h + 47)) (st := []) (by decide +kernel) m3_lossTo ml8_327 k3_lossTo e3_lossTo ck3 (oko8_5 ok).1 (⟨Nat.le_of_ble_eq_true rfl, Nat.le_of_ble_eq_true rfl⟩ : rOK B8_farthest B3_lossTo) rfl (Nat.le_of_ble_eq_true rfl) (Nat.le_of_ble_eq_true rfl) ⟨Nat.le_of_ble_eq_true rfl, Nat.le_of_ble_eq_true rfl⟩ rfl (wp_mono H (fun v9 M9 hq9 => ?_))
    clear H
    obtain ⟨r4, I2, L3, rfl, rfl, H⟩ := hq9
    show wp X B8_farthest 34 [(0, .ref h), (1, .ref a1), (2, .int x2), (3, .int x3)] [.int r4] (G, I2, L3) 0 0 _
    refine wp_aload_n (z := 0) (i := 0) (r := (some h)) 0 (by decide +kernel) rfl rfl ?_
    refine wp_getS (idx := 44) (q := (h + 47)) (by decide +kernel) fl8_44 rfl ok.1 (okr8_5 ok) ?_
    refine wp_iload_n (z := 2) (i := 2) (x := x2) 2 (by decide +kernel) rfl rfl ?_
    refine wp_iconst (z := 0) (v := 0) (by decide +kernel) (by decide) ?_
    refine wp_callV (idx := 327) (B2 := B3_lossTo) (As := [.int x2, .int 0]) (a := (h + 47)) (st := [.int r4]) (by decide +kernel) m3_lossTo ml8_327 k3_lossTo e3_lossTo ck3 (oko8_5 ok).1 (⟨Nat.le_of_ble_eq_true rfl, Nat.le_of_ble_eq_true rfl⟩ : rOK B8_farthest B3_lossTo) rfl (Nat.le_of_ble_eq_true rfl) (Nat.le_of_ble_eq_true rfl) ⟨Nat.le_of_ble_eq_true rfl, Nat.le_of_ble_eq_true rfl⟩ rfl (wp_mono H (fun v9 M9 hq9 => ?_))
    clear H
    obtain ⟨r7, I5, L6, rfl, rfl, H⟩ := hq9
    show wp X B8_farthest 43 [(0, .ref h), (1, .ref a1), (2, .int x2), (3, .int x3)] [.int r7, .int r4] (G, I5, L6) 0 0 _
    refine wp_icmp_le (off := 5) (tgt := 48) (by decide +kernel) (by decide) (fun c8 => ?_) (fun c8 => ?_)
    · rw [if_pos c8] at H
      refine wp_iinc (i := 3) (z := 1) (v := 1) (lv' := [(3, .int (x3 + 1)), (0, .ref h), (1, .ref a1), (2, .int x2)]) 3 (by decide +kernel) rfl (by decide) (by decide) rfl ?_
      refine wp_goto (off := -34) (tgt := 17) (by decide +kernel) (by decide) ?_
      exact wp_sub [1, 2, 3, 0] rfl H
    · rw [if_neg c8] at H
      refine wp_iload_n (z := 3) (i := 3) (x := x3) 3 (by decide +kernel) rfl rfl ?_
      refine wp_istore_n (z := 2) (i := 2) (lv' := [(2, .int x3), (0, .ref h), (1, .ref a1), (3, .int x3)]) (by decide +kernel) rfl (by decide) rfl ?_
      refine wp_iinc (i := 3) (z := 1) (v := 1) (lv' := [(3, .int (x3 + 1)), (2, .int x3), (0, .ref h), (1, .ref a1)]) 3 (by decide +kernel) rfl (by decide) (by decide) rfl ?_
      refine wp_goto (off := -34) (tgt := 17) (by decide +kernel) (by decide) ?_
      exact wp_sub [2, 3, 1, 0] rfl H
/-! DeafWall$Wall.deadest()I -/
set_option maxRecDepth 20000 in
theorem b7_deadest {X : XX} {G : GG} {I : Nat → Nat → Int32} {L : Nat → Nat → Int64} {h : Nat} {Q : Int32 → (Nat → Nat → Int32) → (Nat → Nat → Int64) → Prop} (ok : OK7 G h) (H : wpI X B7_deadest 4 [(0, .ref h), (1, .int 0), (2, .int 1)] [] G I L Q) : wpI X B7_deadest 0 [(0, .ref h)] [] G I L Q := by
  refine wp_iconst (z := 0) (v := 0) (by decide +kernel) (by decide) ?_
  refine wp_istore_n (z := 1) (i := 1) (lv' := [(1, .int 0), (0, .ref h)]) (by decide +kernel) rfl (by decide) rfl ?_
  refine wp_iconst (z := 1) (v := 1) (by decide +kernel) (by decide) ?_
  refine wp_istore_n (z := 2) (i := 2) (lv' := [(2, .int 1), (1, .int 0), (0, .ref h)]) (by decide +kernel) rfl (by decide) rfl ?_
  exact wp_sub [2, 1, 0] rfl H
set_option maxRecDepth 20000 in
theorem b7_deadest_4 {X : XX} {G : GG} {I : Nat → Nat → Int32} {L : Nat → Nat → Int64} {h : Nat} {x1 : Int32} {x2 : Int32} {Q : Int32 → (Nat → Nat → Int32) → (Nat → Nat → Int64) → Prop} (ok : OK7 G h) (H : if (v7_cells I h) ≤ x2 then (Q x1 I L) else (vp_in x2 32 ∧ (vp_in x1 32 ∧ (if (I (h + 1) (cl x2)) ≤ (I (h + 1) (cl x1)) then (wpI X B7_deadest 4 [(0, .ref h), (1, .int x1), (2, .int (x2 + 1))] [] G I L Q) else (wpI X B7_deadest 4 [(0, .ref h), (1, .int x2), (2, .int (x2 + 1))] [] G I L Q))))) : wpI X B7_deadest 4 [(0, .ref h), (1, .int x1), (2, .int x2)] [] G I L Q := by
  refine wp_iload_n (z := 2) (i := 2) (x := x2) 2 (by decide +kernel) rfl rfl ?_
  refine wp_aload_n (z := 0) (i := 0) (r := (some h)) 0 (by decide +kernel) rfl rfl ?_
  refine wp_callV (idx := 55) (B2 := B7_cells) (As := []) (a := h) (st := [.int x2]) (by decide +kernel) m7_cells ml7_55 k7_cells e7_cells ck7 ok.1 (⟨Nat.le_of_ble_eq_true rfl, Nat.le_of_ble_eq_true rfl⟩ : rOK B7_deadest B7_cells) rfl (Nat.le_of_ble_eq_true rfl) (Nat.le_of_ble_eq_true rfl) ⟨Nat.le_of_ble_eq_true rfl, Nat.le_of_ble_eq_true rfl⟩ rfl (wp_mono (b7_cells (Q := (fun r I' L' => r = (v7_cells I h) ∧ I = I' ∧ L = L')) ok ⟨rfl, rfl, rfl⟩) (fun v9 M9 hq9 => ?_))
  obtain ⟨_, _, _, rfl, rfl, rfl, rfl, rfl⟩ := hq9
  show wp X B7_deadest 9 [(0, .ref h), (1, .int x1), (2, .int x2)] [.int (v7_cells I h), .int x2] (G, I, L) 0 0 _
  refine wp_icmp_ge (off := 26) (tgt := 35) (by decide +kernel) (by decide) (fun c1 => ?_) (fun c1 => ?_)
  · rw [if_pos c1] at H
    refine wp_iload_n (z := 1) (i := 1) (x := x1) 1 (by decide +kernel) rfl rfl ?_
    exact wp_iret (by decide +kernel) rfl (Nat.zero_le _) (Nat.zero_le _) ⟨_, _, _, rfl, rfl, H⟩
  · rw [if_neg c1] at H
    refine wp_aload_n (z := 0) (i := 0) (r := (some h)) 0 (by decide +kernel) rfl rfl ?_
    refine wp_getS (idx := 21) (q := (h + 1)) (by decide +kernel) fl7_21 rfl ok.1 (okr7_3 ok) ?_
    refine wp_iload_n (z := 2) (i := 2) (x := x2) 2 (by decide +kernel) rfl rfl ?_
    obtain ⟨o4, H⟩ := H
    refine wp_iald (j := (cl x2)) (by decide +kernel) (oks7_3 ok) o4 rfl ?_
    refine wp_aload_n (z := 0) (i := 0) (r := (some h)) 0 (by decide +kernel) rfl rfl ?_
    refine wp_getS (idx := 21) (q := (h + 1)) (by decide +kernel) fl7_21 rfl ok.1 (okr7_3 ok) ?_
    refine wp_iload_n (z := 1) (i := 1) (x := x1) 1 (by decide +kernel) rfl rfl ?_
    obtain ⟨o3, H⟩ := H
    refine wp_iald (j := (cl x1)) (by decide +kernel) (oks7_3 ok) o3 rfl ?_
    refine wp_icmp_le (off := 5) (tgt := 29) (by decide +kernel) (by decide) (fun c2 => ?_) (fun c2 => ?_)
    · rw [if_pos c2] at H
      refine wp_iinc (i := 2) (z := 1) (v := 1) (lv' := [(2, .int (x2 + 1)), (0, .ref h), (1, .int x1)]) 2 (by decide +kernel) rfl (by decide) (by decide) rfl ?_
      refine wp_goto (off := -28) (tgt := 4) (by decide +kernel) (by decide) ?_
      exact wp_sub [1, 2, 0] rfl H
    · rw [if_neg c2] at H
      refine wp_iload_n (z := 2) (i := 2) (x := x2) 2 (by decide +kernel) rfl rfl ?_
      refine wp_istore_n (z := 1) (i := 1) (lv' := [(1, .int x2), (0, .ref h), (2, .int x2)]) (by decide +kernel) rfl (by decide) rfl ?_
      refine wp_iinc (i := 2) (z := 1) (v := 1) (lv' := [(2, .int (x2 + 1)), (1, .int x2), (0, .ref h)]) 2 (by decide +kernel) rfl (by decide) (by decide) rfl ?_
      refine wp_goto (off := -28) (tgt := 4) (by decide +kernel) (by decide) ?_
      exact wp_sub [2, 1, 0] rfl H
/-! DeafWall$Wall.allDeads()I -/
set_option maxRecDepth 20000 in
theorem b7_allDeads {X : XX} {G : GG} {I : Nat → Nat → Int32} {L : Nat → Nat → Int64} {h : Nat} {Q : Int32 → (Nat → Nat → Int32) → (Nat → Nat → Int64) → Prop} (ok : OK7 G h) (H : wpI X B7_allDeads 4 [(0, .ref h), (1, .int 0), (2, .int 0)] [] G I L Q) : wpI X B7_allDeads 0 [(0, .ref h)] [] G I L Q := by
  refine wp_iconst (z := 0) (v := 0) (by decide +kernel) (by decide) ?_
  refine wp_istore_n (z := 1) (i := 1) (lv' := [(1, .int 0), (0, .ref h)]) (by decide +kernel) rfl (by decide) rfl ?_
  refine wp_iconst (z := 0) (v := 0) (by decide +kernel) (by decide) ?_
  refine wp_istore_n (z := 2) (i := 2) (lv' := [(2, .int 0), (1, .int 0), (0, .ref h)]) (by decide +kernel) rfl (by decide) rfl ?_
  exact wp_sub [2, 1, 0] rfl H
set_option maxRecDepth 20000 in
theorem b7_allDeads_4 {X : XX} {G : GG} {I : Nat → Nat → Int32} {L : Nat → Nat → Int64} {h : Nat} {x1 : Int32} {x2 : Int32} {Q : Int32 → (Nat → Nat → Int32) → (Nat → Nat → Int64) → Prop} (ok : OK7 G h) (H : if (v7_cells I h) ≤ x2 then (Q x1 I L) else (vp_in x2 32 ∧ (∀ u2, u2 = (x1 + (I (h + 1) (cl x2))) → wpI X B7_allDeads 4 [(0, .ref h), (1, .int u2), (2, .int (x2 + 1))] [] G I L Q))) : wpI X B7_allDeads 4 [(0, .ref h), (1, .int x1), (2, .int x2)] [] G I L Q := by
  refine wp_iload_n (z := 2) (i := 2) (x := x2) 2 (by decide +kernel) rfl rfl ?_
  refine wp_aload_n (z := 0) (i := 0) (r := (some h)) 0 (by decide +kernel) rfl rfl ?_
  refine wp_callV (idx := 55) (B2 := B7_cells) (As := []) (a := h) (st := [.int x2]) (by decide +kernel) m7_cells ml7_55 k7_cells e7_cells ck7 ok.1 (⟨Nat.le_of_ble_eq_true rfl, Nat.le_of_ble_eq_true rfl⟩ : rOK B7_allDeads B7_cells) rfl (Nat.le_of_ble_eq_true rfl) (Nat.le_of_ble_eq_true rfl) ⟨Nat.le_of_ble_eq_true rfl, Nat.le_of_ble_eq_true rfl⟩ rfl (wp_mono (b7_cells (Q := (fun r I' L' => r = (v7_cells I h) ∧ I = I' ∧ L = L')) ok ⟨rfl, rfl, rfl⟩) (fun v9 M9 hq9 => ?_))
  obtain ⟨_, _, _, rfl, rfl, rfl, rfl, rfl⟩ := hq9
  show wp X B7_allDeads 9 [(0, .ref h), (1, .int x1), (2, .int x2)] [.int (v7_cells I h), .int x2] (G, I, L) 0 0 _
  refine wp_icmp_ge (off := 18) (tgt := 27) (by decide +kernel) (by decide) (fun c1 => ?_) (fun c1 => ?_)
  · rw [if_pos c1] at H
    refine wp_iload_n (z := 1) (i := 1) (x := x1) 1 (by decide +kernel) rfl rfl ?_
    exact wp_iret (by decide +kernel) rfl (Nat.zero_le _) (Nat.zero_le _) ⟨_, _, _, rfl, rfl, H⟩
  · rw [if_neg c1] at H
    refine wp_iload_n (z := 1) (i := 1) (x := x1) 1 (by decide +kernel) rfl rfl ?_
    refine wp_aload_n (z := 0) (i := 0) (r := (some h)) 0 (by decide +kernel) rfl rfl ?_
    refine wp_getS (idx := 21) (q := (h + 1)) (by decide +kernel) fl7_21 rfl ok.1 (okr7_3 ok) ?_
    refine wp_iload_n (z := 2) (i := 2) (x := x2) 2 (by decide +kernel) rfl rfl ?_
    obtain ⟨o3, H⟩ := H
    refine wp_iald (j := (cl x2)) (by decide +kernel) (oks7_3 ok) o3 rfl ?_
    refine wp_iadd (by decide +kernel) ?_
    refine wp_topi (fun u2 eu2 => ?_)
    replace H := H u2 eu2
    refine wp_istore_n (z := 1) (i := 1) (lv' := [(1, .int u2), (0, .ref h), (2, .int x2)]) (by decide +kernel) rfl (by decide) rfl ?_
    refine wp_iinc (i := 2) (z := 1) (v := 1) (lv' := [(2, .int (x2 + 1)), (1, .int u2), (0, .ref h)]) 2 (by decide +kernel) rfl (by decide) (by decide) rfl ?_
    refine wp_goto (off := -20) (tgt := 4) (by decide +kernel) (by decide) ?_
    exact wp_sub [2, 1, 0] rfl H
/-! DeafWall$Wall.tenderest()I -/
set_option maxRecDepth 20000 in
theorem b7_tenderest {X : XX} {G : GG} {I : Nat → Nat → Int32} {L : Nat → Nat → Int64} {h : Nat} {Q : Int32 → (Nat → Nat → Int32) → (Nat → Nat → Int64) → Prop} (ok : OK7 G h) (H : wpI X B7_tenderest 4 [(0, .ref h), (1, .int (-1)), (2, .int 0)] [] G I L Q) : wpI X B7_tenderest 0 [(0, .ref h)] [] G I L Q := by
  refine wp_iconst (z := -1) (v := (-1)) (by decide +kernel) (by decide) ?_
  refine wp_istore_n (z := 1) (i := 1) (lv' := [(1, .int (-1)), (0, .ref h)]) (by decide +kernel) rfl (by decide) rfl ?_
  refine wp_iconst (z := 0) (v := 0) (by decide +kernel) (by decide) ?_
  refine wp_istore_n (z := 2) (i := 2) (lv' := [(2, .int 0), (1, .int (-1)), (0, .ref h)]) (by decide +kernel) rfl (by decide) rfl ?_
  exact wp_sub [2, 1, 0] rfl H
set_option maxRecDepth 20000 in
theorem b7_tenderest_4 {X : XX} {G : GG} {I : Nat → Nat → Int32} {L : Nat → Nat → Int64} {h : Nat} {x1 : Int32} {x2 : Int32} {Q : Int32 → (Nat → Nat → Int32) → (Nat → Nat → Int64) → Prop} (ok : OK7 G h) (H : if (I h 4) ≤ x2 then (Q x1 I L) else (if x1 = (-1) then (wpI X B7_tenderest 4 [(0, .ref h), (1, .int x2), (2, .int (x2 + 1))] [] G I L Q) else (vp_in x2 6 ∧ (vp_in x1 6 ∧ (if (I (h + 3) (cl x1)) ≤ (I (h + 3) (cl x2)) then (wpI X B7_tenderest 4 [(0, .ref h), (1, .int x1), (2, .int (x2 + 1))] [] G I L Q) else (wpI X B7_tenderest 4 [(0, .ref h), (1, .int x2), (2, .int (x2 + 1))] [] G I L Q)))))) : wpI X B7_tenderest 4 [(0, .ref h), (1, .int x1), (2, .int x2)] [] G I L Q := by
  refine wp_iload_n (z := 2) (i := 2) (x := x2) 2 (by decide +kernel) rfl rfl ?_
  refine wp_aload_n (z := 0) (i := 0) (r := (some h)) 0 (by decide +kernel) rfl rfl ?_
  refine wp_getI (idx := 25) (by decide +kernel) fl7_25 rfl ok.1 ?_
  refine wp_icmp_ge (off := 31) (tgt := 40) (by decide +kernel) (by decide) (fun c1 => ?_) (fun c1 => ?_)
  · rw [if_pos c1] at H
    refine wp_iload_n (z := 1) (i := 1) (x := x1) 1 (by decide +kernel) rfl rfl ?_
    exact wp_iret (by decide +kernel) rfl (Nat.zero_le _) (Nat.zero_le _) ⟨_, _, _, rfl, rfl, H⟩
  · rw [if_neg c1] at H
    refine wp_iload_n (z := 1) (i := 1) (x := x1) 1 (by decide +kernel) rfl rfl ?_
    refine wp_iconst (z := -1) (v := (-1)) (by decide +kernel) (by decide) ?_
    refine wp_icmp_eq (off := 18) (tgt := 32) (by decide +kernel) (by decide) (fun c2 => ?_) (fun c2 => ?_)
    · rw [if_pos c2] at H
      refine wp_iload_n (z := 2) (i := 2) (x := x2) 2 (by decide +kernel) rfl rfl ?_
      refine wp_istore_n (z := 1) (i := 1) (lv' := [(1, .int x2), (0, .ref h), (2, .int x2)]) (by decide +kernel) rfl (by decide) rfl ?_
      refine wp_iinc (i := 2) (z := 1) (v := 1) (lv' := [(2, .int (x2 + 1)), (1, .int x2), (0, .ref h)]) 2 (by decide +kernel) rfl (by decide) (by decide) rfl ?_
      refine wp_goto (off := -33) (tgt := 4) (by decide +kernel) (by decide) ?_
      exact wp_sub [2, 1, 0] rfl H
    · rw [if_neg c2] at H
      refine wp_aload_n (z := 0) (i := 0) (r := (some h)) 0 (by decide +kernel) rfl rfl ?_
      refine wp_getS (idx := 31) (q := (h + 3)) (by decide +kernel) fl7_31 rfl ok.1 (okr7_6 ok) ?_
      refine wp_iload_n (z := 2) (i := 2) (x := x2) 2 (by decide +kernel) rfl rfl ?_
      obtain ⟨o5, H⟩ := H
      refine wp_iald (j := (cl x2)) (by decide +kernel) (oks7_6 ok) o5 rfl ?_
      refine wp_aload_n (z := 0) (i := 0) (r := (some h)) 0 (by decide +kernel) rfl rfl ?_
      refine wp_getS (idx := 31) (q := (h + 3)) (by decide +kernel) fl7_31 rfl ok.1 (okr7_6 ok) ?_
      refine wp_iload_n (z := 1) (i := 1) (x := x1) 1 (by decide +kernel) rfl rfl ?_
      obtain ⟨o4, H⟩ := H
      refine wp_iald (j := (cl x1)) (by decide +kernel) (oks7_6 ok) o4 rfl ?_
      refine wp_icmp_ge (off := 5) (tgt := 34) (by decide +kernel) (by decide) (fun c3 => ?_) (fun c3 => ?_)
      · rw [if_pos c3] at H
        refine wp_iinc (i := 2) (z := 1) (v := 1) (lv' := [(2, .int (x2 + 1)), (0, .ref h), (1, .int x1)]) 2 (by decide +kernel) rfl (by decide) (by decide) rfl ?_
        refine wp_goto (off := -33) (tgt := 4) (by decide +kernel) (by decide) ?_
        exact wp_sub [1, 2, 0] rfl H
      · rw [if_neg c3] at H
        refine wp_iload_n (z := 2) (i := 2) (x := x2) 2 (by decide +kernel) rfl rfl ?_
        refine wp_istore_n (z := 1) (i := 1) (lv' := [(1, .int x2), (0, .ref h), (2, .int x2)]) (by decide +kernel) rfl (by decide) rfl ?_
        refine wp_iinc (i := 2) (z := 1) (v := 1) (lv' := [(2, .int (x2 + 1)), (1, .int x2), (0, .ref h)]) 2 (by decide +kernel) rfl (by decide) (by decide) rfl ?_
        refine wp_goto (off := -33) (tgt := 4) (by decide +kernel) (by decide) ?_
        exact wp_sub [2, 1, 0] rfl H
/-! DeafWall$Wall.sharing()I -/
set_option maxRecDepth 20000 in
theorem b7_sharing {X : XX} {G : GG} {I : Nat → Nat → Int32} {L : Nat → Nat → Int64} {h : Nat} {Q : Int32 → (Nat → Nat → Int32) → (Nat → Nat → Int64) → Prop} (ok : OK7 G h) (H : wpI X B7_sharing 4 [(0, .ref h), (1, .int 0), (2, .int 0)] [] G I L Q) : wpI X B7_sharing 0 [(0, .ref h)] [] G I L Q := by
  refine wp_iconst (z := 0) (v := 0) (by decide +kernel) (by decide) ?_
  refine wp_istore_n (z := 1) (i := 1) (lv' := [(1, .int 0), (0, .ref h)]) (by decide +kernel) rfl (by decide) rfl ?_
  refine wp_iconst (z := 0) (v := 0) (by decide +kernel) (by decide) ?_
  refine wp_istore_n (z := 2) (i := 2) (lv' := [(2, .int 0), (1, .int 0), (0, .ref h)]) (by decide +kernel) rfl (by decide) rfl ?_
  exact wp_sub [2, 1, 0] rfl H
set_option maxRecDepth 20000 in
theorem b7_sharing_4 {X : XX} {G : GG} {I : Nat → Nat → Int32} {L : Nat → Nat → Int64} {h : Nat} {x1 : Int32} {x2 : Int32} {Q : Int32 → (Nat → Nat → Int32) → (Nat → Nat → Int64) → Prop} (ok : OK7 G h) (H : if (I h 4) ≤ x2 then (Q x1 I L) else (wpI X B7_sharing 16 [(0, .ref h), (1, .int x1), (2, .int x2), (3, .int (x2 + 1))] [] G I L Q)) : wpI X B7_sharing 4 [(0, .ref h), (1, .int x1), (2, .int x2)] [] G I L Q := by
  refine wp_iload_n (z := 2) (i := 2) (x := x2) 2 (by decide +kernel) rfl rfl ?_
  refine wp_aload_n (z := 0) (i := 0) (r := (some h)) 0 (by decide +kernel) rfl rfl ?_
  refine wp_getI (idx := 25) (by decide +kernel) fl7_25 rfl ok.1 ?_
  refine wp_icmp_ge (off := 45) (tgt := 54) (by decide +kernel) (by decide) (fun c1 => ?_) (fun c1 => ?_)
  · rw [if_pos c1] at H
    refine wp_iload_n (z := 1) (i := 1) (x := x1) 1 (by decide +kernel) rfl rfl ?_
    exact wp_iret (by decide +kernel) rfl (Nat.zero_le _) (Nat.zero_le _) ⟨_, _, _, rfl, rfl, H⟩
  · rw [if_neg c1] at H
    refine wp_iload_n (z := 2) (i := 2) (x := x2) 2 (by decide +kernel) rfl rfl ?_
    refine wp_iconst (z := 1) (v := 1) (by decide +kernel) (by decide) ?_
    refine wp_iadd (by decide +kernel) ?_
    refine wp_istore_n (z := 3) (i := 3) (lv' := [(3, .int (x2 + 1)), (0, .ref h), (1, .int x1), (2, .int x2)]) (by decide +kernel) rfl (by decide) rfl ?_
    exact wp_sub [1, 2, 3, 0] rfl H
set_option maxRecDepth 20000 in
theorem b7_sharing_16 {X : XX} {G : GG} {I : Nat → Nat → Int32} {L : Nat → Nat → Int64} {h : Nat} {x1 : Int32} {x2 : Int32} {x3 : Int32} {Q : Int32 → (Nat → Nat → Int32) → (Nat → Nat → Int64) → Prop} (ok : OK7 G h) (H : if (I h 4) ≤ x3 then (wpI X B7_sharing 4 [(0, .ref h), (1, .int x1), (2, .int (x2 + 1))] [] G I L Q) else (vp_in x2 6 ∧ (vp_in x3 6 ∧ (if (I (h + 2) (cl x2)) = (I (h + 2) (cl x3)) then (wpI X B7_sharing 16 [(0, .ref h), (1, .int (x1 + 1)), (2, .int x2), (3, .int (x3 + 1))] [] G I L Q) else (wpI X B7_sharing 16 [(0, .ref h), (1, .int x1), (2, .int x2), (3, .int (x3 + 1))] [] G I L Q))))) : wpI X B7_sharing 16 [(0, .ref h), (1, .int x1), (2, .int x2), (3, .int x3)] [] G I L Q := by
  refine wp_iload_n (z := 3) (i := 3) (x := x3) 3 (by decide +kernel) rfl rfl ?_
  refine wp_aload_n (z := 0) (i := 0) (r := (some h)) 0 (by decide +kernel) rfl rfl ?_
  refine wp_getI (idx := 25) (by decide +kernel) fl7_25 rfl ok.1 ?_
  refine wp_icmp_ge (off := 27) (tgt := 48) (by decide +kernel) (by decide) (fun c1 => ?_) (fun c1 => ?_)
  · rw [if_pos c1] at H
    refine wp_iinc (i := 2) (z := 1) (v := 1) (lv' := [(2, .int (x2 + 1)), (0, .ref h), (1, .int x1), (3, .int x3)]) 2 (by decide +kernel) rfl (by decide) (by decide) rfl ?_
    refine wp_goto (off := -47) (tgt := 4) (by decide +kernel) (by decide) ?_
    exact wp_sub [1, 2, 0] rfl H
  · rw [if_neg c1] at H
    refine wp_aload_n (z := 0) (i := 0) (r := (some h)) 0 (by decide +kernel) rfl rfl ?_
    refine wp_getS (idx := 28) (q := (h + 2)) (by decide +kernel) fl7_28 rfl ok.1 (okr7_5 ok) ?_
    refine wp_iload_n (z := 2) (i := 2) (x := x2) 2 (by decide +kernel) rfl rfl ?_
    obtain ⟨o4, H⟩ := H
    refine wp_iald (j := (cl x2)) (by decide +kernel) (oks7_5 ok) o4 rfl ?_
    refine wp_aload_n (z := 0) (i := 0) (r := (some h)) 0 (by decide +kernel) rfl rfl ?_
    refine wp_getS (idx := 28) (q := (h + 2)) (by decide +kernel) fl7_28 rfl ok.1 (okr7_5 ok) ?_
    refine wp_iload_n (z := 3) (i := 3) (x := x3) 3 (by decide +kernel) rfl rfl ?_
    obtain ⟨o3, H⟩ := H
    refine wp_iald (j := (cl x3)) (by decide +kernel) (oks7_5 ok) o3 rfl ?_
    refine wp_icmp_ne (off := 6) (tgt := 42) (by decide +kernel) (by decide) (fun c2 => ?_) (fun c2 => ?_)
    · rw [if_neg c2] at H
      refine wp_iinc (i := 3) (z := 1) (v := 1) (lv' := [(3, .int (x3 + 1)), (0, .ref h), (1, .int x1), (2, .int x2)]) 3 (by decide +kernel) rfl (by decide) (by decide) rfl ?_
      refine wp_goto (off := -29) (tgt := 16) (by decide +kernel) (by decide) ?_
      exact wp_sub [1, 2, 3, 0] rfl H
    · rw [if_pos c2] at H
      refine wp_iinc (i := 1) (z := 1) (v := 1) (lv' := [(1, .int (x1 + 1)), (0, .ref h), (2, .int x2), (3, .int x3)]) 1 (by decide +kernel) rfl (by decide) (by decide) rfl ?_
      refine wp_iinc (i := 3) (z := 1) (v := 1) (lv' := [(3, .int (x3 + 1)), (1, .int (x1 + 1)), (0, .ref h), (2, .int x2)]) 3 (by decide +kernel) rfl (by decide) (by decide) rfl ?_
      refine wp_goto (off := -29) (tgt := 16) (by decide +kernel) (by decide) ?_
      exact wp_sub [2, 1, 3, 0] rfl H
/-! DeafWall$Wall.seams()I -/
set_option maxRecDepth 20000 in
theorem b7_seams {X : XX} {G : GG} {I : Nat → Nat → Int32} {L : Nat → Nat → Int64} {h : Nat} {Q : Int32 → (Nat → Nat → Int32) → (Nat → Nat → Int64) → Prop} (ok : OK7 G h) (H : wpI X B7_seams 4 [(0, .ref h), (1, .int 0), (2, .int 0)] [] G I L Q) : wpI X B7_seams 0 [(0, .ref h)] [] G I L Q := by
  refine wp_iconst (z := 0) (v := 0) (by decide +kernel) (by decide) ?_
  refine wp_istore_n (z := 1) (i := 1) (lv' := [(1, .int 0), (0, .ref h)]) (by decide +kernel) rfl (by decide) rfl ?_
  refine wp_iconst (z := 0) (v := 0) (by decide +kernel) (by decide) ?_
  refine wp_istore_n (z := 2) (i := 2) (lv' := [(2, .int 0), (1, .int 0), (0, .ref h)]) (by decide +kernel) rfl (by decide) rfl ?_
  exact wp_sub [2, 1, 0] rfl H
set_option maxRecDepth 20000 in
theorem b7_seams_4 {X : XX} {G : GG} {I : Nat → Nat → Int32} {L : Nat → Nat → Int64} {h : Nat} {x1 : Int32} {x2 : Int32} {Q : Int32 → (Nat → Nat → Int32) → (Nat → Nat → Int64) → Prop} (ok : OK7 G h) (H : if (I h 1) ≤ x2 then (Q x1 I L) else (wpI X B7_seams 14 [(0, .ref h), (1, .int x1), (2, .int x2), (3, .int 0)] [] G I L Q)) : wpI X B7_seams 4 [(0, .ref h), (1, .int x1), (2, .int x2)] [] G I L Q := by
  refine wp_iload_n (z := 2) (i := 2) (x := x2) 2 (by decide +kernel) rfl rfl ?_
  refine wp_aload_n (z := 0) (i := 0) (r := (some h)) 0 (by decide +kernel) rfl rfl ?_
  refine wp_getI (idx := 15) (by decide +kernel) fl7_15 rfl ok.1 ?_
  refine wp_icmp_ge (off := 102) (tgt := 111) (by decide +kernel) (by decide) (fun c1 => ?_) (fun c1 => ?_)
  · rw [if_pos c1] at H
    refine wp_iload_n (z := 1) (i := 1) (x := x1) 1 (by decide +kernel) rfl rfl ?_
    exact wp_iret (by decide +kernel) rfl (Nat.zero_le _) (Nat.zero_le _) ⟨_, _, _, rfl, rfl, H⟩
  · rw [if_neg c1] at H
    refine wp_iconst (z := 0) (v := 0) (by decide +kernel) (by decide) ?_
    refine wp_istore_n (z := 3) (i := 3) (lv' := [(3, .int 0), (0, .ref h), (1, .int x1), (2, .int x2)]) (by decide +kernel) rfl (by decide) rfl ?_
    exact wp_sub [1, 2, 3, 0] rfl H
set_option maxRecDepth 20000 in
theorem b7_seams_14 {X : XX} {G : GG} {I : Nat → Nat → Int32} {L : Nat → Nat → Int64} {h : Nat} {x1 : Int32} {x2 : Int32} {x3 : Int32} {Q : Int32 → (Nat → Nat → Int32) → (Nat → Nat → Int64) → Prop} (ok : OK7 G h) (H : if (I h 0) ≤ x3 then (wpI X B7_seams 4 [(0, .ref h), (1, .int x1), (2, .int (x2 + 1))] [] G I L Q) else (∀ u2, u2 = ((x2 * (I h 0)) + x3) → if (I h 0) ≤ (x3 + 1) then (if (I h 1) ≤ (x2 + 1) then (wpI X B7_seams 14 [(0, .ref h), (1, .int x1), (2, .int x2), (3, .int (x3 + 1))] [] G I L Q) else (vp_in u2 32 ∧ (vp_in (u2 + (I h 0)) 32 ∧ (if (I (h + 1) (cl u2)) = (I (h + 1) (cl (u2 + (I h 0)))) then (wpI X B7_seams 14 [(0, .ref h), (1, .int x1), (2, .int x2), (3, .int (x3 + 1))] [] G I L Q) else (wpI X B7_seams 14 [(0, .ref h), (1, .int (x1 + 1)), (2, .int x2), (3, .int (x3 + 1))] [] G I L Q))))) else (vp_in u2 32 ∧ (vp_in (u2 + 1) 32 ∧ (if (I (h + 1) (cl u2)) = (I (h + 1) (cl (u2 + 1))) then (if (I h 1) ≤ (x2 + 1) then (wpI X B7_seams 14 [(0, .ref h), (1, .int x1), (2, .int x2), (3, .int (x3 + 1))] [] G I L Q) else (vp_in u2 32 ∧ (vp_in (u2 + (I h 0)) 32 ∧ (if (I (h + 1) (cl u2)) = (I (h + 1) (cl (u2 + (I h 0)))) then (wpI X B7_seams 14 [(0, .ref h), (1, .int x1), (2, .int x2), (3, .int (x3 + 1))] [] G I L Q) else (wpI X B7_seams 14 [(0, .ref h), (1, .int (x1 + 1)), (2, .int x2), (3, .int (x3 + 1))] [] G I L Q))))) else (if (I h 1) ≤ (x2 + 1) then (wpI X B7_seams 14 [(0, .ref h), (1, .int (x1 + 1)), (2, .int x2), (3, .int (x3 + 1))] [] G I L Q) else (vp_in u2 32 ∧ (vp_in (u2 + (I h 0)) 32 ∧ (if (I (h + 1) (cl u2)) = (I (h + 1) (cl (u2 + (I h 0)))) then (wpI X B7_seams 14 [(0, .ref h), (1, .int (x1 + 1)), (2, .int x2), (3, .int (x3 + 1))] [] G I L Q) else (wpI X B7_seams 14 [(0, .ref h), (1, .int ((x1 + 1) + 1)), (2, .int x2), (3, .int (x3 + 1))] [] G I L Q)))))))))) : wpI X B7_seams 14 [(0, .ref h), (1, .int x1), (2, .int x2), (3, .int x3)] [] G I L Q := by
  refine wp_iload_n (z := 3) (i := 3) (x := x3) 3 (by decide +kernel) rfl rfl ?_
  refine wp_aload_n (z := 0) (i := 0) (r := (some h)) 0 (by decide +kernel) rfl rfl ?_
  refine wp_getI (idx := 9) (by decide +kernel) fl7_9 rfl ok.1 ?_
  refine wp_icmp_ge (off := 86) (tgt := 105) (by decide +kernel) (by decide) (fun c1 => ?_) (fun c1 => ?_)
  · rw [if_pos c1] at H
    refine wp_iinc (i := 2) (z := 1) (v := 1) (lv' := [(2, .int (x2 + 1)), (0, .ref h), (1, .int x1), (3, .int x3)]) 2 (by decide +kernel) rfl (by decide) (by decide) rfl ?_
    refine wp_goto (off := -104) (tgt := 4) (by decide +kernel) (by decide) ?_
    exact wp_sub [1, 2, 0] rfl H
  · rw [if_neg c1] at H
    refine wp_iload_n (z := 2) (i := 2) (x := x2) 2 (by decide +kernel) rfl rfl ?_
    refine wp_aload_n (z := 0) (i := 0) (r := (some h)) 0 (by decide +kernel) rfl rfl ?_
    refine wp_getI (idx := 9) (by decide +kernel) fl7_9 rfl ok.1 ?_
    refine wp_imul (by decide +kernel) ?_
    refine wp_iload_n (z := 3) (i := 3) (x := x3) 3 (by decide +kernel) rfl rfl ?_
    refine wp_iadd (by decide +kernel) ?_
    refine wp_topi (fun u2 eu2 => ?_)
    replace H := H u2 eu2
    refine wp_istore (i := 4) (lv' := [(4, .int u2), (0, .ref h), (1, .int x1), (2, .int x2), (3, .int x3)]) (by decide +kernel) (by decide) rfl ?_
    refine wp_iload_n (z := 3) (i := 3) (x := x3) 4 (by decide +kernel) rfl rfl ?_
    refine wp_iconst (z := 1) (v := 1) (by decide +kernel) (by decide) ?_
    refine wp_iadd (by decide +kernel) ?_
    refine wp_aload_n (z := 0) (i := 0) (r := (some h)) 1 (by decide +kernel) rfl rfl ?_
    refine wp_getI (idx := 9) (by decide +kernel) fl7_9 rfl ok.1 ?_
    refine wp_icmp_ge (off := 25) (tgt := 64) (by decide +kernel) (by decide) (fun c3 => ?_) (fun c3 => ?_)
    · rw [if_pos c3] at H
      refine wp_iload_n (z := 2) (i := 2) (x := x2) 3 (by decide +kernel) rfl rfl ?_
      refine wp_iconst (z := 1) (v := 1) (by decide +kernel) (by decide) ?_
      refine wp_iadd (by decide +kernel) ?_
      refine wp_aload_n (z := 0) (i := 0) (r := (some h)) 1 (by decide +kernel) rfl rfl ?_
      refine wp_getI (idx := 15) (by decide +kernel) fl7_15 rfl ok.1 ?_
      refine wp_icmp_ge (off := 28) (tgt := 99) (by decide +kernel) (by decide) (fun c4 => ?_) (fun c4 => ?_)
      · rw [if_pos c4] at H
        refine wp_iinc (i := 3) (z := 1) (v := 1) (lv' := [(3, .int (x3 + 1)), (4, .int u2), (0, .ref h), (1, .int x1), (2, .int x2)]) 4 (by decide +kernel) rfl (by decide) (by decide) rfl ?_
        refine wp_goto (off := -88) (tgt := 14) (by decide +kernel) (by decide) ?_
        exact wp_sub [2, 3, 4, 0] rfl H
      · rw [if_neg c4] at H
        refine wp_aload_n (z := 0) (i := 0) (r := (some h)) 1 (by decide +kernel) rfl rfl ?_
        refine wp_getS (idx := 21) (q := (h + 1)) (by decide +kernel) fl7_21 rfl ok.1 (okr7_3 ok) ?_
        refine wp_iload (i := 4) (x := u2) 0 (by decide +kernel) rfl ?_
        obtain ⟨o7, H⟩ := H
        refine wp_iald (j := (cl u2)) (by decide +kernel) (oks7_3 ok) o7 rfl ?_
        refine wp_aload_n (z := 0) (i := 0) (r := (some h)) 1 (by decide +kernel) rfl rfl ?_
        refine wp_getS (idx := 21) (q := (h + 1)) (by decide +kernel) fl7_21 rfl ok.1 (okr7_3 ok) ?_
        refine wp_iload (i := 4) (x := u2) 0 (by decide +kernel) rfl ?_
        refine wp_aload_n (z := 0) (i := 0) (r := (some h)) 1 (by decide +kernel) rfl rfl ?_
        refine wp_getI (idx := 9) (by decide +kernel) fl7_9 rfl ok.1 ?_
        refine wp_iadd (by decide +kernel) ?_
        obtain ⟨o6, H⟩ := H
        refine wp_iald (j := (cl (u2 + (I h 0)))) (by decide +kernel) (oks7_3 ok) o6 rfl ?_
        refine wp_icmp_eq (off := 6) (tgt := 99) (by decide +kernel) (by decide) (fun c5 => ?_) (fun c5 => ?_)
        · rw [if_pos c5] at H
          refine wp_iinc (i := 3) (z := 1) (v := 1) (lv' := [(3, .int (x3 + 1)), (4, .int u2), (0, .ref h), (1, .int x1), (2, .int x2)]) 4 (by decide +kernel) rfl (by decide) (by decide) rfl ?_
          refine wp_goto (off := -88) (tgt := 14) (by decide +kernel) (by decide) ?_
          exact wp_sub [2, 3, 4, 0] rfl H
        · rw [if_neg c5] at H
          refine wp_iinc (i := 1) (z := 1) (v := 1) (lv' := [(1, .int (x1 + 1)), (4, .int u2), (0, .ref h), (2, .int x2), (3, .int x3)]) 2 (by decide +kernel) rfl (by decide) (by decide) rfl ?_
          refine wp_iinc (i := 3) (z := 1) (v := 1) (lv' := [(3, .int (x3 + 1)), (1, .int (x1 + 1)), (4, .int u2), (0, .ref h), (2, .int x2)]) 4 (by decide +kernel) rfl (by decide) (by decide) rfl ?_
          refine wp_goto (off := -88) (tgt := 14) (by decide +kernel) (by decide) ?_
          exact wp_sub [3, 1, 4, 0] rfl H
    · rw [if_neg c3] at H
      refine wp_aload_n (z := 0) (i := 0) (r := (some h)) 1 (by decide +kernel) rfl rfl ?_
      refine wp_getS (idx := 21) (q := (h + 1)) (by decide +kernel) fl7_21 rfl ok.1 (okr7_3 ok) ?_
      refine wp_iload (i := 4) (x := u2) 0 (by decide +kernel) rfl ?_
      obtain ⟨o18, H⟩ := H
      refine wp_iald (j := (cl u2)) (by decide +kernel) (oks7_3 ok) o18 rfl ?_
      refine wp_aload_n (z := 0) (i := 0) (r := (some h)) 1 (by decide +kernel) rfl rfl ?_
      refine wp_getS (idx := 21) (q := (h + 1)) (by decide +kernel) fl7_21 rfl ok.1 (okr7_3 ok) ?_
      refine wp_iload (i := 4) (x := u2) 0 (by decide +kernel) rfl ?_
      refine wp_iconst (z := 1) (v := 1) (by decide +kernel) (by decide) ?_
      refine wp_iadd (by decide +kernel) ?_
      obtain ⟨o17, H⟩ := H
      refine wp_iald (j := (cl (u2 + 1))) (by decide +kernel) (oks7_3 ok) o17 rfl ?_
      refine wp_icmp_eq (off := 6) (tgt := 64) (by decide +kernel) (by decide) (fun c8 => ?_) (fun c8 => ?_)
      · rw [if_pos c8] at H
        refine wp_iload_n (z := 2) (i := 2) (x := x2) 3 (by decide +kernel) rfl rfl ?_
        refine wp_iconst (z := 1) (v := 1) (by decide +kernel) (by decide) ?_
        refine wp_iadd (by decide +kernel) ?_
        refine wp_aload_n (z := 0) (i := 0) (r := (some h)) 1 (by decide +kernel) rfl rfl ?_
        refine wp_getI (idx := 15) (by decide +kernel) fl7_15 rfl ok.1 ?_
        refine wp_icmp_ge (off := 28) (tgt := 99) (by decide +kernel) (by decide) (fun c9 => ?_) (fun c9 => ?_)
        · rw [if_pos c9] at H
          refine wp_iinc (i := 3) (z := 1) (v := 1) (lv' := [(3, .int (x3 + 1)), (4, .int u2), (0, .ref h), (1, .int x1), (2, .int x2)]) 4 (by decide +kernel) rfl (by decide) (by decide) rfl ?_
          refine wp_goto (off := -88) (tgt := 14) (by decide +kernel) (by decide) ?_
          exact wp_sub [2, 3, 4, 0] rfl H
        · rw [if_neg c9] at H
          refine wp_aload_n (z := 0) (i := 0) (r := (some h)) 1 (by decide +kernel) rfl rfl ?_
          refine wp_getS (idx := 21) (q := (h + 1)) (by decide +kernel) fl7_21 rfl ok.1 (okr7_3 ok) ?_
          refine wp_iload (i := 4) (x := u2) 0 (by decide +kernel) rfl ?_
          obtain ⟨o12, H⟩ := H
          refine wp_iald (j := (cl u2)) (by decide +kernel) (oks7_3 ok) o12 rfl ?_
          refine wp_aload_n (z := 0) (i := 0) (r := (some h)) 1 (by decide +kernel) rfl rfl ?_
          refine wp_getS (idx := 21) (q := (h + 1)) (by decide +kernel) fl7_21 rfl ok.1 (okr7_3 ok) ?_
          refine wp_iload (i := 4) (x := u2) 0 (by decide +kernel) rfl ?_
          refine wp_aload_n (z := 0) (i := 0) (r := (some h)) 1 (by decide +kernel) rfl rfl ?_
          refine wp_getI (idx := 9) (by decide +kernel) fl7_9 rfl ok.1 ?_
          refine wp_iadd (by decide +kernel) ?_
          obtain ⟨o11, H⟩ := H
          refine wp_iald (j := (cl (u2 + (I h 0)))) (by decide +kernel) (oks7_3 ok) o11 rfl ?_
          refine wp_icmp_eq (off := 6) (tgt := 99) (by decide +kernel) (by decide) (fun c10 => ?_) (fun c10 => ?_)
          · rw [if_pos c10] at H
            refine wp_iinc (i := 3) (z := 1) (v := 1) (lv' := [(3, .int (x3 + 1)), (4, .int u2), (0, .ref h), (1, .int x1), (2, .int x2)]) 4 (by decide +kernel) rfl (by decide) (by decide) rfl ?_
            refine wp_goto (off := -88) (tgt := 14) (by decide +kernel) (by decide) ?_
            exact wp_sub [2, 3, 4, 0] rfl H
          · rw [if_neg c10] at H
            refine wp_iinc (i := 1) (z := 1) (v := 1) (lv' := [(1, .int (x1 + 1)), (4, .int u2), (0, .ref h), (2, .int x2), (3, .int x3)]) 2 (by decide +kernel) rfl (by decide) (by decide) rfl ?_
            refine wp_iinc (i := 3) (z := 1) (v := 1) (lv' := [(3, .int (x3 + 1)), (1, .int (x1 + 1)), (4, .int u2), (0, .ref h), (2, .int x2)]) 4 (by decide +kernel) rfl (by decide) (by decide) rfl ?_
            refine wp_goto (off := -88) (tgt := 14) (by decide +kernel) (by decide) ?_
            exact wp_sub [3, 1, 4, 0] rfl H
      · rw [if_neg c8] at H
        refine wp_iinc (i := 1) (z := 1) (v := 1) (lv' := [(1, .int (x1 + 1)), (4, .int u2), (0, .ref h), (2, .int x2), (3, .int x3)]) 2 (by decide +kernel) rfl (by decide) (by decide) rfl ?_
        refine wp_iload_n (z := 2) (i := 2) (x := x2) 3 (by decide +kernel) rfl rfl ?_
        refine wp_iconst (z := 1) (v := 1) (by decide +kernel) (by decide) ?_
        refine wp_iadd (by decide +kernel) ?_
        refine wp_aload_n (z := 0) (i := 0) (r := (some h)) 2 (by decide +kernel) rfl rfl ?_
        refine wp_getI (idx := 15) (by decide +kernel) fl7_15 rfl ok.1 ?_
        refine wp_icmp_ge (off := 28) (tgt := 99) (by decide +kernel) (by decide) (fun c13 => ?_) (fun c13 => ?_)
        · rw [if_pos c13] at H
          refine wp_iinc (i := 3) (z := 1) (v := 1) (lv' := [(3, .int (x3 + 1)), (1, .int (x1 + 1)), (4, .int u2), (0, .ref h), (2, .int x2)]) 4 (by decide +kernel) rfl (by decide) (by decide) rfl ?_
          refine wp_goto (off := -88) (tgt := 14) (by decide +kernel) (by decide) ?_
          exact wp_sub [3, 1, 4, 0] rfl H
        · rw [if_neg c13] at H
          refine wp_aload_n (z := 0) (i := 0) (r := (some h)) 2 (by decide +kernel) rfl rfl ?_
          refine wp_getS (idx := 21) (q := (h + 1)) (by decide +kernel) fl7_21 rfl ok.1 (okr7_3 ok) ?_
          refine wp_iload (i := 4) (x := u2) 1 (by decide +kernel) rfl ?_
          obtain ⟨o16, H⟩ := H
          refine wp_iald (j := (cl u2)) (by decide +kernel) (oks7_3 ok) o16 rfl ?_
          refine wp_aload_n (z := 0) (i := 0) (r := (some h)) 2 (by decide +kernel) rfl rfl ?_
          refine wp_getS (idx := 21) (q := (h + 1)) (by decide +kernel) fl7_21 rfl ok.1 (okr7_3 ok) ?_
          refine wp_iload (i := 4) (x := u2) 1 (by decide +kernel) rfl ?_
          refine wp_aload_n (z := 0) (i := 0) (r := (some h)) 2 (by decide +kernel) rfl rfl ?_
          refine wp_getI (idx := 9) (by decide +kernel) fl7_9 rfl ok.1 ?_
          refine wp_iadd (by decide +kernel) ?_
          obtain ⟨o15, H⟩ := H
          refine wp_iald (j := (cl (u2 + (I h 0)))) (by decide +kernel) (oks7_3 ok) o15 rfl ?_
          refine wp_icmp_eq (off := 6) (tgt := 99) (by decide +kernel) (by decide) (fun c14 => ?_) (fun c14 => ?_)
          · rw [if_pos c14] at H
            refine wp_iinc (i := 3) (z := 1) (v := 1) (lv' := [(3, .int (x3 + 1)), (1, .int (x1 + 1)), (4, .int u2), (0, .ref h), (2, .int x2)]) 4 (by decide +kernel) rfl (by decide) (by decide) rfl ?_
            refine wp_goto (off := -88) (tgt := 14) (by decide +kernel) (by decide) ?_
            exact wp_sub [3, 1, 4, 0] rfl H
          · rw [if_neg c14] at H
            refine wp_iinc (i := 1) (z := 1) (v := 1) (lv' := [(1, .int ((x1 + 1) + 1)), (4, .int u2), (0, .ref h), (2, .int x2), (3, .int x3)]) 0 (by decide +kernel) rfl (by decide) (by decide) rfl ?_
            refine wp_iinc (i := 3) (z := 1) (v := 1) (lv' := [(3, .int (x3 + 1)), (1, .int ((x1 + 1) + 1)), (4, .int u2), (0, .ref h), (2, .int x2)]) 4 (by decide +kernel) rfl (by decide) (by decide) rfl ?_
            refine wp_goto (off := -88) (tgt := 14) (by decide +kernel) (by decide) ?_
            exact wp_sub [3, 1, 4, 0] rfl H
/-! DeafWall.shade(II)I -/
set_option maxRecDepth 20000 in
theorem b8_shade {X : XX} {G : GG} {I : Nat → Nat → Int32} {L : Nat → Nat → Int64} {h : Nat} {x1 : Int32} {x2 : Int32} {Q : Int32 → (Nat → Nat → Int32) → (Nat → Nat → Int64) → Prop} (ok : OK8 G h) (H : wpR X B8_wallAt 0 [(0, .ref h), (1, .int x1)] [] G I L (fun r3 I1 L2 => (r3 = none → Q (-2) I1 L2) ∧ (∀ q5, r3 = some q5 → if x2 = 0 then (wpI X B8_shadow 0 [(0, .ref h), (1, .ref q5), (2, .int 0)] [] G I1 L2 (fun r9 I7 L8 => Q r9 I7 L8)) else (if x2 = 1 then (wpI X B8_shadow 0 [(0, .ref h), (1, .ref q5), (2, .int 1)] [] G I1 L2 (fun r13 I11 L12 => Q r13 I11 L12)) else (if x2 = 2 then (wpI X B8_farthest 0 [(0, .ref h), (1, .ref q5)] [] G I1 L2 (fun r17 I15 L16 => Q r17 I15 L16)) else (if x2 = 3 then (wpI X B8_farthest 0 [(0, .ref h), (1, .ref q5)] [] G I1 L2 (fun r21 I19 L20 => wpI X B3_lossTo 0 [(0, .ref (h + 47)), (1, .int r21), (2, .int 0)] [] G I19 L20 (fun r24 I22 L23 => Q r24 I22 L23))) else (if x2 = 4 then (OK7 G q5 ∧ (wpI X B7_deadest 0 [(0, .ref q5)] [] G I1 L2 (fun r29 I27 L28 => Q r29 I27 L28))) else (if x2 = 5 then (OK7 G q5 ∧ (wpI X B7_allDeads 0 [(0, .ref q5)] [] G I1 L2 (fun r34 I32 L33 => Q r34 I32 L33))) else (if x2 = 6 then (OK7 G q5 ∧ (wpI X B7_tenderest 0 [(0, .ref q5)] [] G I1 L2 (fun r39 I37 L38 => Q r39 I37 L38))) else (if x2 = 7 then (OK7 G q5 ∧ (wpI X B7_sharing 0 [(0, .ref q5)] [] G I1 L2 (fun r44 I42 L43 => Q r44 I42 L43))) else (if x2 = 8 then (OK7 G q5 ∧ (wpI X B7_seams 0 [(0, .ref q5)] [] G I1 L2 (fun r49 I47 L48 => Q r49 I47 L48))) else (Q (-2) I1 L2)))))))))))) : wpI X B8_shade 0 [(0, .ref h), (1, .int x1), (2, .int x2)] [] G I L Q := by
  refine wp_aload_n (z := 0) (i := 0) (r := (some h)) 0 (by decide +kernel) rfl rfl ?_
  refine wp_iload_n (z := 1) (i := 1) (x := x1) 1 (by decide +kernel) rfl rfl ?_
  refine wp_callV (idx := 129) (B2 := B8_wallAt) (As := [.int x1]) (a := h) (st := []) (by decide +kernel) m8_wallAt ml8_129 k8_wallAt e8_wallAt ck8 ok.1 (⟨Nat.le_of_ble_eq_true rfl, Nat.le_of_ble_eq_true rfl⟩ : rOK B8_shade B8_wallAt) rfl (Nat.le_of_ble_eq_true rfl) (Nat.le_of_ble_eq_true rfl) ⟨Nat.le_of_ble_eq_true rfl, Nat.le_of_ble_eq_true rfl⟩ rfl (wp_mono H (fun v9 M9 hq9 => ?_))
  clear H
  obtain ⟨r3, I1, L2, rfl, rfl, H⟩ := hq9
  show wp X B8_shade 5 [(0, .ref h), (1, .int x1), (2, .int x2)] [va_rf r3] (G, I1, L2) 0 0 _
  refine wp_astore_n (z := 3) (i := 3) (lv' := [(3, va_rf r3), (0, .ref h), (1, .int x1), (2, .int x2)]) (r := r3) (by decide +kernel) rfl (by decide) (by cases r3 <;> rfl) ?_
  refine wp_aload_n (z := 3) (i := 3) (r := r3) 0 (by decide +kernel) rfl rfl ?_
  refine wp_ifnonnull (off := 6) (tgt := 13) (r := r3) (by decide +kernel) (by decide) (fun q5 c4 => ?_) (fun c4 => ?_)
  · replace H := H.2 q5 c4
    subst c4
    show wp X B8_shade 13 [(3, .ref q5), (0, .ref h), (1, .int x1), (2, .int x2)] [] (G, I1, L2) 0 0 _
    refine wp_iload_n (z := 2) (i := 2) (x := x2) 3 (by decide +kernel) rfl rfl ?_
    by_cases c6 : x2 = 0
    · rw [if_pos c6] at H
      refine wp_tableIn (dflt := 109) (lo := 0) (hi := 8) (offs := #[50, 57, 64, 70, 84, 89, 94, 99, 104]) (len := 50) (off := 50) (tgt := 64) (by decide +kernel) (by rw [c6]; decide) (by rw [c6]; decide) (by rw [c6]; rfl) (by decide) ?_
      refine wp_aload_n (z := 0) (i := 0) (r := (some h)) 1 (by decide +kernel) rfl rfl ?_
      refine wp_aload_n (z := 3) (i := 3) (r := (some q5)) 0 (by decide +kernel) rfl rfl ?_
      refine wp_iconst (z := 0) (v := 0) (by decide +kernel) (by decide) ?_
      refine wp_callV (idx := 431) (B2 := B8_shadow) (As := [.ref q5, .int 0]) (a := h) (st := []) (by decide +kernel) m8_shadow ml8_431 k8_shadow e8_shadow ck8 ok.1 (⟨Nat.le_of_ble_eq_true rfl, Nat.le_of_ble_eq_true rfl⟩ : rOK B8_shade B8_shadow) rfl (Nat.le_of_ble_eq_true rfl) (Nat.le_of_ble_eq_true rfl) ⟨Nat.le_of_ble_eq_true rfl, Nat.le_of_ble_eq_true rfl⟩ rfl (wp_mono H (fun v9 M9 hq9 => ?_))
      clear H
      obtain ⟨r9, I7, L8, rfl, rfl, H⟩ := hq9
      show wp X B8_shade 70 [(3, .ref q5), (0, .ref h), (1, .int x1), (2, .int x2)] [.int r9] (G, I7, L8) 0 0 _
      exact wp_iret (by decide +kernel) rfl (Nat.zero_le _) (Nat.zero_le _) ⟨_, _, _, rfl, rfl, H⟩
    rw [if_neg c6] at H
    by_cases c10 : x2 = 1
    · rw [if_pos c10] at H
      refine wp_tableIn (dflt := 109) (lo := 0) (hi := 8) (offs := #[50, 57, 64, 70, 84, 89, 94, 99, 104]) (len := 50) (off := 57) (tgt := 71) (by decide +kernel) (by rw [c10]; decide) (by rw [c10]; decide) (by rw [c10]; rfl) (by decide) ?_
      refine wp_aload_n (z := 0) (i := 0) (r := (some h)) 1 (by decide +kernel) rfl rfl ?_
      refine wp_aload_n (z := 3) (i := 3) (r := (some q5)) 0 (by decide +kernel) rfl rfl ?_
      refine wp_iconst (z := 1) (v := 1) (by decide +kernel) (by decide) ?_
      refine wp_callV (idx := 431) (B2 := B8_shadow) (As := [.ref q5, .int 1]) (a := h) (st := []) (by decide +kernel) m8_shadow ml8_431 k8_shadow e8_shadow ck8 ok.1 (⟨Nat.le_of_ble_eq_true rfl, Nat.le_of_ble_eq_true rfl⟩ : rOK B8_shade B8_shadow) rfl (Nat.le_of_ble_eq_true rfl) (Nat.le_of_ble_eq_true rfl) ⟨Nat.le_of_ble_eq_true rfl, Nat.le_of_ble_eq_true rfl⟩ rfl (wp_mono H (fun v9 M9 hq9 => ?_))
      clear H
      obtain ⟨r13, I11, L12, rfl, rfl, H⟩ := hq9
      show wp X B8_shade 77 [(3, .ref q5), (0, .ref h), (1, .int x1), (2, .int x2)] [.int r13] (G, I11, L12) 0 0 _
      exact wp_iret (by decide +kernel) rfl (Nat.zero_le _) (Nat.zero_le _) ⟨_, _, _, rfl, rfl, H⟩
    rw [if_neg c10] at H
    by_cases c14 : x2 = 2
    · rw [if_pos c14] at H
      refine wp_tableIn (dflt := 109) (lo := 0) (hi := 8) (offs := #[50, 57, 64, 70, 84, 89, 94, 99, 104]) (len := 50) (off := 64) (tgt := 78) (by decide +kernel) (by rw [c14]; decide) (by rw [c14]; decide) (by rw [c14]; rfl) (by decide) ?_
      refine wp_aload_n (z := 0) (i := 0) (r := (some h)) 1 (by decide +kernel) rfl rfl ?_
      refine wp_aload_n (z := 3) (i := 3) (r := (some q5)) 0 (by decide +kernel) rfl rfl ?_
      refine wp_callV (idx := 435) (B2 := B8_farthest) (As := [.ref q5]) (a := h) (st := []) (by decide +kernel) m8_farthest ml8_435 k8_farthest e8_farthest ck8 ok.1 (⟨Nat.le_of_ble_eq_true rfl, Nat.le_of_ble_eq_true rfl⟩ : rOK B8_shade B8_farthest) rfl (Nat.le_of_ble_eq_true rfl) (Nat.le_of_ble_eq_true rfl) ⟨Nat.le_of_ble_eq_true rfl, Nat.le_of_ble_eq_true rfl⟩ rfl (wp_mono H (fun v9 M9 hq9 => ?_))
      clear H
      obtain ⟨r17, I15, L16, rfl, rfl, H⟩ := hq9
      show wp X B8_shade 83 [(3, .ref q5), (0, .ref h), (1, .int x1), (2, .int x2)] [.int r17] (G, I15, L16) 0 0 _
      exact wp_iret (by decide +kernel) rfl (Nat.zero_le _) (Nat.zero_le _) ⟨_, _, _, rfl, rfl, H⟩
    rw [if_neg c14] at H
    by_cases c18 : x2 = 3
    · rw [if_pos c18] at H
      refine wp_tableIn (dflt := 109) (lo := 0) (hi := 8) (offs := #[50, 57, 64, 70, 84, 89, 94, 99, 104]) (len := 50) (off := 70) (tgt := 84) (by decide +kernel) (by rw [c18]; decide) (by rw [c18]; decide) (by rw [c18]; rfl) (by decide) ?_
      refine wp_aload_n (z := 0) (i := 0) (r := (some h)) 1 (by decide +kernel) rfl rfl ?_
      refine wp_getS (idx := 44) (q := (h + 47)) (by decide +kernel) fl8_44 rfl ok.1 (okr8_5 ok) ?_
      refine wp_aload_n (z := 0) (i := 0) (r := (some h)) 1 (by decide +kernel) rfl rfl ?_
      refine wp_aload_n (z := 3) (i := 3) (r := (some q5)) 0 (by decide +kernel) rfl rfl ?_
      refine wp_callV (idx := 435) (B2 := B8_farthest) (As := [.ref q5]) (a := h) (st := [.ref (h + 47)]) (by decide +kernel) m8_farthest ml8_435 k8_farthest e8_farthest ck8 ok.1 (⟨Nat.le_of_ble_eq_true rfl, Nat.le_of_ble_eq_true rfl⟩ : rOK B8_shade B8_farthest) rfl (Nat.le_of_ble_eq_true rfl) (Nat.le_of_ble_eq_true rfl) ⟨Nat.le_of_ble_eq_true rfl, Nat.le_of_ble_eq_true rfl⟩ rfl (wp_mono H (fun v9 M9 hq9 => ?_))
      clear H
      obtain ⟨r21, I19, L20, rfl, rfl, H⟩ := hq9
      show wp X B8_shade 93 [(3, .ref q5), (0, .ref h), (1, .int x1), (2, .int x2)] [.int r21, .ref (h + 47)] (G, I19, L20) 0 0 _
      refine wp_iconst (z := 0) (v := 0) (by decide +kernel) (by decide) ?_
      refine wp_callV (idx := 327) (B2 := B3_lossTo) (As := [.int r21, .int 0]) (a := (h + 47)) (st := []) (by decide +kernel) m3_lossTo ml8_327 k3_lossTo e3_lossTo ck3 (oko8_5 ok).1 (⟨Nat.le_of_ble_eq_true rfl, Nat.le_of_ble_eq_true rfl⟩ : rOK B8_shade B3_lossTo) rfl (Nat.le_of_ble_eq_true rfl) (Nat.le_of_ble_eq_true rfl) ⟨Nat.le_of_ble_eq_true rfl, Nat.le_of_ble_eq_true rfl⟩ rfl (wp_mono H (fun v9 M9 hq9 => ?_))
      clear H
      obtain ⟨r24, I22, L23, rfl, rfl, H⟩ := hq9
      show wp X B8_shade 97 [(3, .ref q5), (0, .ref h), (1, .int x1), (2, .int x2)] [.int r24] (G, I22, L23) 0 0 _
      exact wp_iret (by decide +kernel) rfl (Nat.zero_le _) (Nat.zero_le _) ⟨_, _, _, rfl, rfl, H⟩
    rw [if_neg c18] at H
    by_cases c25 : x2 = 4
    · rw [if_pos c25] at H
      refine wp_tableIn (dflt := 109) (lo := 0) (hi := 8) (offs := #[50, 57, 64, 70, 84, 89, 94, 99, 104]) (len := 50) (off := 84) (tgt := 98) (by decide +kernel) (by rw [c25]; decide) (by rw [c25]; decide) (by rw [c25]; rfl) (by decide) ?_
      refine wp_aload_n (z := 3) (i := 3) (r := (some q5)) 0 (by decide +kernel) rfl rfl ?_
      obtain ⟨f26, H⟩ := H
      refine wp_callV (idx := 439) (B2 := B7_deadest) (As := []) (a := q5) (st := []) (by decide +kernel) m7_deadest ml8_439 k7_deadest e7_deadest ck7 f26.1 (⟨Nat.le_of_ble_eq_true rfl, Nat.le_of_ble_eq_true rfl⟩ : rOK B8_shade B7_deadest) rfl (Nat.le_of_ble_eq_true rfl) (Nat.le_of_ble_eq_true rfl) ⟨Nat.le_of_ble_eq_true rfl, Nat.le_of_ble_eq_true rfl⟩ rfl (wp_mono H (fun v9 M9 hq9 => ?_))
      clear H
      obtain ⟨r29, I27, L28, rfl, rfl, H⟩ := hq9
      show wp X B8_shade 102 [(3, .ref q5), (0, .ref h), (1, .int x1), (2, .int x2)] [.int r29] (G, I27, L28) 0 0 _
      exact wp_iret (by decide +kernel) rfl (Nat.zero_le _) (Nat.zero_le _) ⟨_, _, _, rfl, rfl, H⟩
    rw [if_neg c25] at H
    by_cases c30 : x2 = 5
    · rw [if_pos c30] at H
      refine wp_tableIn (dflt := 109) (lo := 0) (hi := 8) (offs := #[50, 57, 64, 70, 84, 89, 94, 99, 104]) (len := 50) (off := 89) (tgt := 103) (by decide +kernel) (by rw [c30]; decide) (by rw [c30]; decide) (by rw [c30]; rfl) (by decide) ?_
      refine wp_aload_n (z := 3) (i := 3) (r := (some q5)) 0 (by decide +kernel) rfl rfl ?_
      obtain ⟨f31, H⟩ := H
      refine wp_callV (idx := 442) (B2 := B7_allDeads) (As := []) (a := q5) (st := []) (by decide +kernel) m7_allDeads ml8_442 k7_allDeads e7_allDeads ck7 f31.1 (⟨Nat.le_of_ble_eq_true rfl, Nat.le_of_ble_eq_true rfl⟩ : rOK B8_shade B7_allDeads) rfl (Nat.le_of_ble_eq_true rfl) (Nat.le_of_ble_eq_true rfl) ⟨Nat.le_of_ble_eq_true rfl, Nat.le_of_ble_eq_true rfl⟩ rfl (wp_mono H (fun v9 M9 hq9 => ?_))
      clear H
      obtain ⟨r34, I32, L33, rfl, rfl, H⟩ := hq9
      show wp X B8_shade 107 [(3, .ref q5), (0, .ref h), (1, .int x1), (2, .int x2)] [.int r34] (G, I32, L33) 0 0 _
      exact wp_iret (by decide +kernel) rfl (Nat.zero_le _) (Nat.zero_le _) ⟨_, _, _, rfl, rfl, H⟩
    rw [if_neg c30] at H
    by_cases c35 : x2 = 6
    · rw [if_pos c35] at H
      refine wp_tableIn (dflt := 109) (lo := 0) (hi := 8) (offs := #[50, 57, 64, 70, 84, 89, 94, 99, 104]) (len := 50) (off := 94) (tgt := 108) (by decide +kernel) (by rw [c35]; decide) (by rw [c35]; decide) (by rw [c35]; rfl) (by decide) ?_
      refine wp_aload_n (z := 3) (i := 3) (r := (some q5)) 0 (by decide +kernel) rfl rfl ?_
      obtain ⟨f36, H⟩ := H
      refine wp_callV (idx := 445) (B2 := B7_tenderest) (As := []) (a := q5) (st := []) (by decide +kernel) m7_tenderest ml8_445 k7_tenderest e7_tenderest ck7 f36.1 (⟨Nat.le_of_ble_eq_true rfl, Nat.le_of_ble_eq_true rfl⟩ : rOK B8_shade B7_tenderest) rfl (Nat.le_of_ble_eq_true rfl) (Nat.le_of_ble_eq_true rfl) ⟨Nat.le_of_ble_eq_true rfl, Nat.le_of_ble_eq_true rfl⟩ rfl (wp_mono H (fun v9 M9 hq9 => ?_))
      clear H
      obtain ⟨r39, I37, L38, rfl, rfl, H⟩ := hq9
      show wp X B8_shade 112 [(3, .ref q5), (0, .ref h), (1, .int x1), (2, .int x2)] [.int r39] (G, I37, L38) 0 0 _
      exact wp_iret (by decide +kernel) rfl (Nat.zero_le _) (Nat.zero_le _) ⟨_, _, _, rfl, rfl, H⟩
    rw [if_neg c35] at H
    by_cases c40 : x2 = 7
    · rw [if_pos c40] at H
      refine wp_tableIn (dflt := 109) (lo := 0) (hi := 8) (offs := #[50, 57, 64, 70, 84, 89, 94, 99, 104]) (len := 50) (off := 99) (tgt := 113) (by decide +kernel) (by rw [c40]; decide) (by rw [c40]; decide) (by rw [c40]; rfl) (by decide) ?_
      refine wp_aload_n (z := 3) (i := 3) (r := (some q5)) 0 (by decide +kernel) rfl rfl ?_
      obtain ⟨f41, H⟩ := H
      refine wp_callV (idx := 448) (B2 := B7_sharing) (As := []) (a := q5) (st := []) (by decide +kernel) m7_sharing ml8_448 k7_sharing e7_sharing ck7 f41.1 (⟨Nat.le_of_ble_eq_true rfl, Nat.le_of_ble_eq_true rfl⟩ : rOK B8_shade B7_sharing) rfl (Nat.le_of_ble_eq_true rfl) (Nat.le_of_ble_eq_true rfl) ⟨Nat.le_of_ble_eq_true rfl, Nat.le_of_ble_eq_true rfl⟩ rfl (wp_mono H (fun v9 M9 hq9 => ?_))
      clear H
      obtain ⟨r44, I42, L43, rfl, rfl, H⟩ := hq9
      show wp X B8_shade 117 [(3, .ref q5), (0, .ref h), (1, .int x1), (2, .int x2)] [.int r44] (G, I42, L43) 0 0 _
      exact wp_iret (by decide +kernel) rfl (Nat.zero_le _) (Nat.zero_le _) ⟨_, _, _, rfl, rfl, H⟩
    rw [if_neg c40] at H
    by_cases c45 : x2 = 8
    · rw [if_pos c45] at H
      refine wp_tableIn (dflt := 109) (lo := 0) (hi := 8) (offs := #[50, 57, 64, 70, 84, 89, 94, 99, 104]) (len := 50) (off := 104) (tgt := 118) (by decide +kernel) (by rw [c45]; decide) (by rw [c45]; decide) (by rw [c45]; rfl) (by decide) ?_
      refine wp_aload_n (z := 3) (i := 3) (r := (some q5)) 0 (by decide +kernel) rfl rfl ?_
      obtain ⟨f46, H⟩ := H
      refine wp_callV (idx := 451) (B2 := B7_seams) (As := []) (a := q5) (st := []) (by decide +kernel) m7_seams ml8_451 k7_seams e7_seams ck7 f46.1 (⟨Nat.le_of_ble_eq_true rfl, Nat.le_of_ble_eq_true rfl⟩ : rOK B8_shade B7_seams) rfl (Nat.le_of_ble_eq_true rfl) (Nat.le_of_ble_eq_true rfl) ⟨Nat.le_of_ble_eq_true rfl, Nat.le_of_ble_eq_true rfl⟩ rfl (wp_mono H (fun v9 M9 hq9 => ?_))
      clear H
      obtain ⟨r49, I47, L48, rfl, rfl, H⟩ := hq9
      show wp X B8_shade 122 [(3, .ref q5), (0, .ref h), (1, .int x1), (2, .int x2)] [.int r49] (G, I47, L48) 0 0 _
      exact wp_iret (by decide +kernel) rfl (Nat.zero_le _) (Nat.zero_le _) ⟨_, _, _, rfl, rfl, H⟩
    rw [if_neg c45] at H
    have qc6 := sw_ne c6 (z := 0) (by decide)
    have qc10 := sw_ne c10 (z := 1) (by decide)
    have qc14 := sw_ne c14 (z := 2) (by decide)
    have qc18 := sw_ne c18 (z := 3) (by decide)
    have qc25 := sw_ne c25 (z := 4) (by decide)
    have qc30 := sw_ne c30 (z := 5) (by decide)
    have qc35 := sw_ne c35 (z := 6) (by decide)
    have qc40 := sw_ne c40 (z := 7) (by decide)
    have qc45 := sw_ne c45 (z := 8) (by decide)
    refine wp_tableOut (dflt := 109) (lo := 0) (hi := 8) (offs := #[50, 57, 64, 70, 84, 89, 94, 99, 104]) (len := 50) (tgt := 123) (by decide +kernel) (by omega) (by decide) ?_
    refine wp_bipush (z := -2) (v := (-2)) (by decide +kernel) (by decide) ?_
    exact wp_iret (by decide +kernel) rfl (Nat.zero_le _) (Nat.zero_le _) ⟨_, _, _, rfl, rfl, H⟩
  · replace H := H.1 c4
    subst c4
    show wp X B8_shade 10 [(3, .null), (0, .ref h), (1, .int x1), (2, .int x2)] [] (G, I1, L2) 0 0 _
    refine wp_bipush (z := -2) (v := (-2)) (by decide +kernel) (by decide) ?_
    exact wp_iret (by decide +kernel) rfl (Nat.zero_le _) (Nat.zero_le _) ⟨_, _, _, rfl, rfl, H⟩
