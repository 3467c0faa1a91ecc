/-! DeafWallModel.rhyme(IIII)I -/
set_option maxRecDepth 20000 in
theorem b9_rhyme {X : XX} {G : GG} {I : Nat → Nat → Int32} {L : Nat → Nat → Int64} {h : Nat} {x1 : Int32} {x2 : Int32} {x3 : Int32} {x4 : Int32} {Q : Int32 → (Nat → Nat → Int32) → (Nat → Nat → Int64) → Prop} (ok : OK9 G h) (H : wpI X B9_isWall 0 [(0, .ref h), (1, .int x1)] [] G I L (fun r3 I1 L2 => if r3 = (0 : Int32) then (Q (-1) I1 L2) else (if (v9_isTale I1 h x2) = (0 : Int32) then (Q (-1) I1 L2) else (if (v9_isTale I1 h x3) = (0 : Int32) then (Q (-1) I1 L2) else (if x4 = 0 then (wpI X B9_rhymeOf 0 [(0, .ref h), (1, .int x2), (2, .int x3)] [] G I1 L2 (fun r10 I8 L9 => Q r10 I8 L9)) else (if x4 = 1 then (wpI X B9_alikeFrom 0 [(0, .ref h), (1, .int x2), (2, .int 0), (3, .int x3), (4, .int 0)] [] G I1 L2 (fun r14 I12 L13 => Q r14 I12 L13)) else (if x4 = 2 then (wpI X B9_isWithin 0 [(0, .ref h), (1, .int x2), (2, .int x3)] [] G I1 L2 (fun r18 I16 L17 => if r18 = (0 : Int32) then (Q 0 I16 L17) else (Q 1 I16 L17))) else (if x4 = 3 then (wpI X B9_echoOf 0 [(0, .ref h), (1, .int x2), (2, .int x3)] [] G I1 L2 (fun r23 I21 L22 => Q r23 I21 L22)) else (if x4 = 4 then (wpI X B9_isTurned 0 [(0, .ref h), (1, .int x2), (2, .int x3)] [] G I1 L2 (fun r27 I25 L26 => if r27 = (0 : Int32) then (Q 0 I25 L26) else (Q 1 I25 L26))) else (Q (-1) I1 L2)))))))))) : wpI X B9_rhyme 0 [(0, .ref h), (1, .int x1), (2, .int x2), (3, .int x3), (4, .int x4)] [] G I L Q := by
  refine wp_aload_n (z := 0) (i := 0) (r := (some h)) 0 (by decide +kernel) rfl rfl ?_
  refine wp_iload_n (z := 1) (i := 1) (x := x1) 1 (by decide +kernel) rfl rfl ?_
  refine wp_callV (idx := 196) (B2 := B9_isWall) (As := [.int x1]) (a := h) (st := []) (by decide +kernel) m9_isWall ml9_196 k9_isWall e9_isWall ck9 ok.1 (⟨Nat.le_of_ble_eq_true rfl, Nat.le_of_ble_eq_true rfl⟩ : rOK B9_rhyme B9_isWall) rfl (Nat.le_of_ble_eq_true rfl) (Nat.le_of_ble_eq_true rfl) ⟨Nat.le_of_ble_eq_true rfl, Nat.le_of_ble_eq_true rfl⟩ rfl (wp_mono H (fun v9 M9 hq9 => ?_))
  clear H
  obtain ⟨r3, I1, L2, rfl, rfl, H⟩ := hq9
  show wp X B9_rhyme 5 [(0, .ref h), (1, .int x1), (2, .int x2), (3, .int x3), (4, .int x4)] [.int r3] (G, I1, L2) 0 0 _
  refine wp_if_eq (off := 19) (tgt := 24) (by decide +kernel) (by decide) (fun c4 => ?_) (fun c4 => ?_)
  · rw [if_pos c4] at H
    refine wp_iconst (z := -1) (v := (-1)) (by decide +kernel) (by decide) ?_
    exact wp_iret (by decide +kernel) rfl (Nat.zero_le _) (Nat.zero_le _) ⟨_, _, _, rfl, rfl, H⟩
  · rw [if_neg c4] at H
    refine wp_aload_n (z := 0) (i := 0) (r := (some h)) 0 (by decide +kernel) rfl rfl ?_
    refine wp_iload_n (z := 2) (i := 2) (x := x2) 2 (by decide +kernel) rfl rfl ?_
    refine wp_callV (idx := 208) (B2 := B9_isTale) (As := [.int x2]) (a := h) (st := []) (by decide +kernel) m9_isTale ml9_208 k9_isTale e9_isTale ck9 ok.1 (⟨Nat.le_of_ble_eq_true rfl, Nat.le_of_ble_eq_true rfl⟩ : rOK B9_rhyme B9_isTale) rfl (Nat.le_of_ble_eq_true rfl) (Nat.le_of_ble_eq_true rfl) ⟨Nat.le_of_ble_eq_true rfl, Nat.le_of_ble_eq_true rfl⟩ rfl (wp_mono (b9_isTale (Q := (fun r I' L' => r = (v9_isTale I1 h x2) ∧ I1 = I' ∧ L2 = L')) ok ⟨rfl, rfl, rfl⟩) (fun v9 M9 hq9 => ?_))
    obtain ⟨_, _, _, rfl, rfl, rfl, rfl, rfl⟩ := hq9
    show wp X B9_rhyme 13 [(0, .ref h), (1, .int x1), (2, .int x2), (3, .int x3), (4, .int x4)] [.int (v9_isTale I1 h x2)] (G, I1, L2) 0 0 _
    refine wp_if_eq (off := 11) (tgt := 24) (by decide +kernel) (by decide) (fun c5 => ?_) (fun c5 => ?_)
    · rw [if_pos c5] at H
      refine wp_iconst (z := -1) (v := (-1)) (by decide +kernel) (by decide) ?_
      exact wp_iret (by decide +kernel) rfl (Nat.zero_le _) (Nat.zero_le _) ⟨_, _, _, rfl, rfl, H⟩
    · rw [if_neg c5] at H
      refine wp_aload_n (z := 0) (i := 0) (r := (some h)) 0 (by decide +kernel) rfl rfl ?_
      refine wp_iload_n (z := 3) (i := 3) (x := x3) 3 (by decide +kernel) rfl rfl ?_
      refine wp_callV (idx := 208) (B2 := B9_isTale) (As := [.int x3]) (a := h) (st := []) (by decide +kernel) m9_isTale ml9_208 k9_isTale e9_isTale ck9 ok.1 (⟨Nat.le_of_ble_eq_true rfl, Nat.le_of_ble_eq_true rfl⟩ : rOK B9_rhyme B9_isTale) rfl (Nat.le_of_ble_eq_true rfl) (Nat.le_of_ble_eq_true rfl) ⟨Nat.le_of_ble_eq_true rfl, Nat.le_of_ble_eq_true rfl⟩ rfl (wp_mono (b9_isTale (Q := (fun r I' L' => r = (v9_isTale I1 h x3) ∧ I1 = I' ∧ L2 = L')) ok ⟨rfl, rfl, rfl⟩) (fun v9 M9 hq9 => ?_))
      obtain ⟨_, _, _, rfl, rfl, rfl, rfl, rfl⟩ := hq9
      show wp X B9_rhyme 21 [(0, .ref h), (1, .int x1), (2, .int x2), (3, .int x3), (4, .int x4)] [.int (v9_isTale I1 h x3)] (G, I1, L2) 0 0 _
      refine wp_if_ne (off := 5) (tgt := 26) (by decide +kernel) (by decide) (fun c6 => ?_) (fun c6 => ?_)
      · rw [if_neg c6] at H
        refine wp_iload (i := 4) (x := x4) 4 (by decide +kernel) rfl ?_
        by_cases c7 : x4 = 0
        · rw [if_pos c7] at H
          refine wp_tableIn (dflt := 89) (lo := 0) (hi := 4) (offs := #[36, 43, 52, 67, 74]) (len := 36) (off := 36) (tgt := 64) (by decide +kernel) (by rw [c7]; decide) (by rw [c7]; decide) (by rw [c7]; rfl) (by decide) ?_
          refine wp_aload_n (z := 0) (i := 0) (r := (some h)) 0 (by decide +kernel) rfl rfl ?_
          refine wp_iload_n (z := 2) (i := 2) (x := x2) 2 (by decide +kernel) rfl rfl ?_
          refine wp_iload_n (z := 3) (i := 3) (x := x3) 3 (by decide +kernel) rfl rfl ?_
          refine wp_callV (idx := 312) (B2 := B9_rhymeOf) (As := [.int x2, .int x3]) (a := h) (st := []) (by decide +kernel) m9_rhymeOf ml9_312 k9_rhymeOf e9_rhymeOf ck9 ok.1 (⟨Nat.le_of_ble_eq_true rfl, Nat.le_of_ble_eq_true rfl⟩ : rOK B9_rhyme B9_rhymeOf) rfl (Nat.le_of_ble_eq_true rfl) (Nat.le_of_ble_eq_true rfl) ⟨Nat.le_of_ble_eq_true rfl, Nat.le_of_ble_eq_true rfl⟩ rfl (wp_mono H (fun v9 M9 hq9 => ?_))
          clear H
          obtain ⟨r10, I8, L9, rfl, rfl, H⟩ := hq9
          show wp X B9_rhyme 70 [(0, .ref h), (1, .int x1), (2, .int x2), (3, .int x3), (4, .int x4)] [.int r10] (G, I8, L9) 0 0 _
          exact wp_iret (by decide +kernel) rfl (Nat.zero_le _) (Nat.zero_le _) ⟨_, _, _, rfl, rfl, H⟩
        rw [if_neg c7] at H
        by_cases c11 : x4 = 1
        · rw [if_pos c11] at H
          refine wp_tableIn (dflt := 89) (lo := 0) (hi := 4) (offs := #[36, 43, 52, 67, 74]) (len := 36) (off := 43) (tgt := 71) (by decide +kernel) (by rw [c11]; decide) (by rw [c11]; decide) (by rw [c11]; rfl) (by decide) ?_
          refine wp_aload_n (z := 0) (i := 0) (r := (some h)) 0 (by decide +kernel) rfl rfl ?_
          refine wp_iload_n (z := 2) (i := 2) (x := x2) 2 (by decide +kernel) rfl rfl ?_
          refine wp_iconst (z := 0) (v := 0) (by decide +kernel) (by decide) ?_
          refine wp_iload_n (z := 3) (i := 3) (x := x3) 3 (by decide +kernel) rfl rfl ?_
          refine wp_iconst (z := 0) (v := 0) (by decide +kernel) (by decide) ?_
          refine wp_callV (idx := 309) (B2 := B9_alikeFrom) (As := [.int x2, .int 0, .int x3, .int 0]) (a := h) (st := []) (by decide +kernel) m9_alikeFrom ml9_309 k9_alikeFrom e9_alikeFrom ck9 ok.1 (⟨Nat.le_of_ble_eq_true rfl, Nat.le_of_ble_eq_true rfl⟩ : rOK B9_rhyme B9_alikeFrom) rfl (Nat.le_of_ble_eq_true rfl) (Nat.le_of_ble_eq_true rfl) ⟨Nat.le_of_ble_eq_true rfl, Nat.le_of_ble_eq_true rfl⟩ rfl (wp_mono H (fun v9 M9 hq9 => ?_))
          clear H
          obtain ⟨r14, I12, L13, rfl, rfl, H⟩ := hq9
          show wp X B9_rhyme 79 [(0, .ref h), (1, .int x1), (2, .int x2), (3, .int x3), (4, .int x4)] [.int r14] (G, I12, L13) 0 0 _
          exact wp_iret (by decide +kernel) rfl (Nat.zero_le _) (Nat.zero_le _) ⟨_, _, _, rfl, rfl, H⟩
        rw [if_neg c11] at H
        by_cases c15 : x4 = 2
        · rw [if_pos c15] at H
          refine wp_tableIn (dflt := 89) (lo := 0) (hi := 4) (offs := #[36, 43, 52, 67, 74]) (len := 36) (off := 52) (tgt := 80) (by decide +kernel) (by rw [c15]; decide) (by rw [c15]; decide) (by rw [c15]; rfl) (by decide) ?_
          refine wp_aload_n (z := 0) (i := 0) (r := (some h)) 0 (by decide +kernel) rfl rfl ?_
          refine wp_iload_n (z := 2) (i := 2) (x := x2) 2 (by decide +kernel) rfl rfl ?_
          refine wp_iload_n (z := 3) (i := 3) (x := x3) 3 (by decide +kernel) rfl rfl ?_
          refine wp_callV (idx := 315) (B2 := B9_isWithin) (As := [.int x2, .int x3]) (a := h) (st := []) (by decide +kernel) m9_isWithin ml9_315 k9_isWithin e9_isWithin ck9 ok.1 (⟨Nat.le_of_ble_eq_true rfl, Nat.le_of_ble_eq_true rfl⟩ : rOK B9_rhyme B9_isWithin) rfl (Nat.le_of_ble_eq_true rfl) (Nat.le_of_ble_eq_true rfl) ⟨Nat.le_of_ble_eq_true rfl, Nat.le_of_ble_eq_true rfl⟩ rfl (wp_mono H (fun v9 M9 hq9 => ?_))
          clear H
          obtain ⟨r18, I16, L17, rfl, rfl, H⟩ := hq9
          show wp X B9_rhyme 86 [(0, .ref h), (1, .int x1), (2, .int x2), (3, .int x3), (4, .int x4)] [.int r18] (G, I16, L17) 0 0 _
          refine wp_if_eq (off := 7) (tgt := 93) (by decide +kernel) (by decide) (fun c19 => ?_) (fun c19 => ?_)
          · rw [if_pos c19] at H
            refine wp_iconst (z := 0) (v := 0) (by decide +kernel) (by decide) ?_
            exact wp_iret (by decide +kernel) rfl (Nat.zero_le _) (Nat.zero_le _) ⟨_, _, _, rfl, rfl, H⟩
          · rw [if_neg c19] at H
            refine wp_iconst (z := 1) (v := 1) (by decide +kernel) (by decide) ?_
            refine wp_goto (off := 4) (tgt := 94) (by decide +kernel) (by decide) ?_
            exact wp_iret (by decide +kernel) rfl (Nat.zero_le _) (Nat.zero_le _) ⟨_, _, _, rfl, rfl, H⟩
        rw [if_neg c15] at H
        by_cases c20 : x4 = 3
        · rw [if_pos c20] at H
          refine wp_tableIn (dflt := 89) (lo := 0) (hi := 4) (offs := #[36, 43, 52, 67, 74]) (len := 36) (off := 67) (tgt := 95) (by decide +kernel) (by rw [c20]; decide) (by rw [c20]; decide) (by rw [c20]; rfl) (by decide) ?_
          refine wp_aload_n (z := 0) (i := 0) (r := (some h)) 0 (by decide +kernel) rfl rfl ?_
          refine wp_iload_n (z := 2) (i := 2) (x := x2) 2 (by decide +kernel) rfl rfl ?_
          refine wp_iload_n (z := 3) (i := 3) (x := x3) 3 (by decide +kernel) rfl rfl ?_
          refine wp_callV (idx := 318) (B2 := B9_echoOf) (As := [.int x2, .int x3]) (a := h) (st := []) (by decide +kernel) m9_echoOf ml9_318 k9_echoOf e9_echoOf ck9 ok.1 (⟨Nat.le_of_ble_eq_true rfl, Nat.le_of_ble_eq_true rfl⟩ : rOK B9_rhyme B9_echoOf) rfl (Nat.le_of_ble_eq_true rfl) (Nat.le_of_ble_eq_true rfl) ⟨Nat.le_of_ble_eq_true rfl, Nat.le_of_ble_eq_true rfl⟩ rfl (wp_mono H (fun v9 M9 hq9 => ?_))
          clear H
          obtain ⟨r23, I21, L22, rfl, rfl, H⟩ := hq9
          show wp X B9_rhyme 101 [(0, .ref h), (1, .int x1), (2, .int x2), (3, .int x3), (4, .int x4)] [.int r23] (G, I21, L22) 0 0 _
          exact wp_iret (by decide +kernel) rfl (Nat.zero_le _) (Nat.zero_le _) ⟨_, _, _, rfl, rfl, H⟩
        rw [if_neg c20] at H
        by_cases c24 : x4 = 4
        · rw [if_pos c24] at H
          refine wp_tableIn (dflt := 89) (lo := 0) (hi := 4) (offs := #[36, 43, 52, 67, 74]) (len := 36) (off := 74) (tgt := 102) (by decide +kernel) (by rw [c24]; decide) (by rw [c24]; decide) (by rw [c24]; rfl) (by decide) ?_
          refine wp_aload_n (z := 0) (i := 0) (r := (some h)) 0 (by decide +kernel) rfl rfl ?_
          refine wp_iload_n (z := 2) (i := 2) (x := x2) 2 (by decide +kernel) rfl rfl ?_
          refine wp_iload_n (z := 3) (i := 3) (x := x3) 3 (by decide +kernel) rfl rfl ?_
          refine wp_callV (idx := 321) (B2 := B9_isTurned) (As := [.int x2, .int x3]) (a := h) (st := []) (by decide +kernel) m9_isTurned ml9_321 k9_isTurned e9_isTurned ck9 ok.1 (⟨Nat.le_of_ble_eq_true rfl, Nat.le_of_ble_eq_true rfl⟩ : rOK B9_rhyme B9_isTurned) rfl (Nat.le_of_ble_eq_true rfl) (Nat.le_of_ble_eq_true rfl) ⟨Nat.le_of_ble_eq_true rfl, Nat.le_of_ble_eq_true rfl⟩ rfl (wp_mono H (fun v9 M9 hq9 => ?_))
          clear H
          obtain ⟨r27, I25, L26, rfl, rfl, H⟩ := hq9
          show wp X B9_rhyme 108 [(0, .ref h), (1, .int x1), (2, .int x2), (3, .int x3), (4, .int x4)] [.int r27] (G, I25, L26) 0 0 _
          refine wp_if_eq (off := 7) (tgt := 115) (by decide +kernel) (by decide) (fun c28 => ?_) (fun c28 => ?_)
          · rw [if_pos c28] at H
            refine wp_iconst (z := 0) (v := 0) (by decide +kernel) (by decide) ?_
            exact wp_iret (by decide +kernel) rfl (Nat.zero_le _) (Nat.zero_le _) ⟨_, _, _, rfl, rfl, H⟩
          · rw [if_neg c28] at H
            refine wp_iconst (z := 1) (v := 1) (by decide +kernel) (by decide) ?_
            refine wp_goto (off := 4) (tgt := 116) (by decide +kernel) (by decide) ?_
            exact wp_iret (by decide +kernel) rfl (Nat.zero_le _) (Nat.zero_le _) ⟨_, _, _, rfl, rfl, H⟩
        rw [if_neg c24] at H
        have qc7 := sw_ne c7 (z := 0) (by decide)
        have qc11 := sw_ne c11 (z := 1) (by decide)
        have qc15 := sw_ne c15 (z := 2) (by decide)
        have qc20 := sw_ne c20 (z := 3) (by decide)
        have qc24 := sw_ne c24 (z := 4) (by decide)
        refine wp_tableOut (dflt := 89) (lo := 0) (hi := 4) (offs := #[36, 43, 52, 67, 74]) (len := 36) (tgt := 117) (by decide +kernel) (by omega) (by decide) ?_
        refine wp_iconst (z := -1) (v := (-1)) (by decide +kernel) (by decide) ?_
        exact wp_iret (by decide +kernel) rfl (Nat.zero_le _) (Nat.zero_le _) ⟨_, _, _, rfl, rfl, H⟩
      · rw [if_pos c6] at H
        refine wp_iconst (z := -1) (v := (-1)) (by decide +kernel) (by decide) ?_
        exact wp_iret (by decide +kernel) rfl (Nat.zero_le _) (Nat.zero_le _) ⟨_, _, _, rfl, rfl, H⟩
/-! DeafWallModel.stepsInto(III)Z -/
set_option maxRecDepth 20000 in
theorem b9_stepsInto {X : XX} {G : GG} {I : Nat → Nat → Int32} {L : Nat → Nat → Int64} {h : Nat} {x1 : Int32} {x2 : Int32} {x3 : Int32} {Q : Int32 → (Nat → Nat → Int32) → (Nat → Nat → Int64) → Prop} (ok : OK9 G h) (H : wpI X B9_stepsInto 6 [(0, .ref h), (1, .int x1), (2, .int x2), (3, .int x3), (4, .int 0), (5, .int 0)] [] G I L Q) : wpI X B9_stepsInto 0 [(0, .ref h), (1, .int x1), (2, .int x2), (3, .int x3)] [] G I L Q := by
  refine wp_iconst (z := 0) (v := 0) (by decide +kernel) (by decide) ?_
  refine wp_istore (i := 4) (lv' := [(4, .int 0), (0, .ref h), (1, .int x1), (2, .int x2), (3, .int x3)]) (by decide +kernel) (by decide) rfl ?_
  refine wp_iconst (z := 0) (v := 0) (by decide +kernel) (by decide) ?_
  refine wp_istore (i := 5) (lv' := [(5, .int 0), (4, .int 0), (0, .ref h), (1, .int x1), (2, .int x2), (3, .int x3)]) (by decide +kernel) (by decide) rfl ?_
  exact wp_sub [2, 3, 4, 5, 1, 0] rfl H
set_option maxRecDepth 20000 in
theorem b9_stepsInto_6 {X : XX} {G : GG} {I : Nat → Nat → Int32} {L : Nat → Nat → Int64} {h : Nat} {x1 : Int32} {x2 : Int32} {x3 : Int32} {x4 : Int32} {x5 : Int32} {Q : Int32 → (Nat → Nat → Int32) → (Nat → Nat → Int64) → Prop} (ok : OK9 G h) (H : if 9 ≤ x5 then ((x4 = 0 ∨ x4 = 1) ∧ (Q x4 I L)) else (vp_in ((9 * x1) + x5) 288 ∧ (∀ u3, u3 = ((I (h + 16) (cl ((9 * x1) + x5))) + x3) → if x5 ≤ (0 : Int32) then (vp_in ((9 * x2) + x5) 288 ∧ (if u3 < (I (h + 16) (cl ((9 * x2) + x5))) then (vp_in ((9 * x2) + x5) 288 ∧ (∀ I6, I6 = up2 I (h + 16) (cl ((9 * x2) + x5)) u3 → wpI X B9_stepsInto 6 [(0, .ref h), (1, .int x1), (2, .int x2), (3, .int x3), (4, .int 1), (5, .int (x5 + 1))] [] G I6 L Q)) else (wpI X B9_stepsInto 6 [(0, .ref h), (1, .int x1), (2, .int x2), (3, .int x3), (4, .int x4), (5, .int (x5 + 1))] [] G I L Q))) else (vp_in (((9 * x1) + x5) - 1) 288 ∧ (if u3 ≤ ((I (h + 16) (cl (((9 * x1) + x5) - 1))) + 1) then (vp_in ((9 * x2) + x5) 288 ∧ (if u3 < (I (h + 16) (cl ((9 * x2) + x5))) then (vp_in ((9 * x2) + x5) 288 ∧ (∀ I11, I11 = up2 I (h + 16) (cl ((9 * x2) + x5)) u3 → wpI X B9_stepsInto 6 [(0, .ref h), (1, .int x1), (2, .int x2), (3, .int x3), (4, .int 1), (5, .int (x5 + 1))] [] G I11 L Q)) else (wpI X B9_stepsInto 6 [(0, .ref h), (1, .int x1), (2, .int x2), (3, .int x3), (4, .int x4), (5, .int (x5 + 1))] [] G I L Q))) else (vp_in (((9 * x1) + x5) - 1) 288 ∧ (∀ u14, u14 = ((I (h + 16) (cl (((9 * x1) + x5) - 1))) + 1) → vp_in ((9 * x2) + x5) 288 ∧ (if u14 < (I (h + 16) (cl ((9 * x2) + x5))) then (vp_in ((9 * x2) + x5) 288 ∧ (∀ I16, I16 = up2 I (h + 16) (cl ((9 * x2) + x5)) u14 → wpI X B9_stepsInto 6 [(0, .ref h), (1, .int x1), (2, .int x2), (3, .int x3), (4, .int 1), (5, .int (x5 + 1))] [] G I16 L Q)) else (wpI X B9_stepsInto 6 [(0, .ref h), (1, .int x1), (2, .int x2), (3, .int x3), (4, .int x4), (5, .int (x5 + 1))] [] G I L Q))))))))) : wpI X B9_stepsInto 6 [(0, .ref h), (1, .int x1), (2, .int x2), (3, .int x3), (4, .int x4), (5, .int x5)] [] G I L Q := by
  refine wp_iload (i := 5) (x := x5) 5 (by decide +kernel) rfl ?_
  refine wp_bipush (z := 9) (v := 9) (by decide +kernel) (by decide) ?_
  refine wp_icmp_ge (off := 106) (tgt := 116) (by decide +kernel) (by decide) (fun c1 => ?_) (fun c1 => ?_)
  · rw [if_pos c1] at H
    refine wp_iload (i := 4) (x := x4) 4 (by decide +kernel) rfl ?_
    obtain ⟨o2, H⟩ := H
    exact wp_zret (by decide +kernel) rfl o2 (Nat.zero_le _) (Nat.zero_le _) ⟨_, _, _, rfl, rfl, H⟩
  · rw [if_neg c1] at H
    refine wp_aload_n (z := 0) (i := 0) (r := (some h)) 0 (by decide +kernel) rfl rfl ?_
    refine wp_getS (idx := 57) (q := (h + 16)) (by decide +kernel) fl9_57 rfl ok.1 (okr9_35 ok) ?_
    refine wp_bipush (z := 9) (v := 9) (by decide +kernel) (by decide) ?_
    refine wp_iload_n (z := 1) (i := 1) (x := x1) 1 (by decide +kernel) rfl rfl ?_
    refine wp_imul (by decide +kernel) ?_
    refine wp_iload (i := 5) (x := x5) 5 (by decide +kernel) rfl ?_
    refine wp_iadd (by decide +kernel) ?_
    obtain ⟨o21, H⟩ := H
    refine wp_iald (j := (cl ((9 * x1) + x5))) (by decide +kernel) (oks9_35 ok) o21 rfl ?_
    refine wp_iload_n (z := 3) (i := 3) (x := x3) 3 (by decide +kernel) rfl rfl ?_
    refine wp_iadd (by decide +kernel) ?_
    refine wp_topi (fun u3 eu3 => ?_)
    replace H := H u3 eu3
    refine wp_istore (i := 6) (lv' := [(6, .int u3), (0, .ref h), (1, .int x1), (2, .int x2), (3, .int x3), (4, .int x4), (5, .int x5)]) (by decide +kernel) (by decide) rfl ?_
    refine wp_iload (i := 5) (x := x5) 6 (by decide +kernel) rfl ?_
    refine wp_if_le (off := 42) (tgt := 73) (by decide +kernel) (by decide) (fun c4 => ?_) (fun c4 => ?_)
    · rw [if_pos c4] at H
      refine wp_iload (i := 6) (x := u3) 0 (by decide +kernel) rfl ?_
      refine wp_aload_n (z := 0) (i := 0) (r := (some h)) 1 (by decide +kernel) rfl rfl ?_
      refine wp_getS (idx := 57) (q := (h + 16)) (by decide +kernel) fl9_57 rfl ok.1 (okr9_35 ok) ?_
      refine wp_bipush (z := 9) (v := 9) (by decide +kernel) (by decide) ?_
      refine wp_iload_n (z := 2) (i := 2) (x := x2) 3 (by decide +kernel) rfl rfl ?_
      refine wp_imul (by decide +kernel) ?_
      refine wp_iload (i := 5) (x := x5) 6 (by decide +kernel) rfl ?_
      refine wp_iadd (by decide +kernel) ?_
      obtain ⟨o8, H⟩ := H
      refine wp_iald (j := (cl ((9 * x2) + x5))) (by decide +kernel) (oks9_35 ok) o8 rfl ?_
      refine wp_icmp_lt (off := 6) (tgt := 93) (by decide +kernel) (by decide) (fun c5 => ?_) (fun c5 => ?_)
      · rw [if_pos c5] at H
        refine wp_aload_n (z := 0) (i := 0) (r := (some h)) 1 (by decide +kernel) rfl rfl ?_
        refine wp_getS (idx := 57) (q := (h + 16)) (by decide +kernel) fl9_57 rfl ok.1 (okr9_35 ok) ?_
        refine wp_bipush (z := 9) (v := 9) (by decide +kernel) (by decide) ?_
        refine wp_iload_n (z := 2) (i := 2) (x := x2) 3 (by decide +kernel) rfl rfl ?_
        refine wp_imul (by decide +kernel) ?_
        refine wp_iload (i := 5) (x := x5) 6 (by decide +kernel) rfl ?_
        refine wp_iadd (by decide +kernel) ?_
        refine wp_iload (i := 6) (x := u3) 0 (by decide +kernel) rfl ?_
        obtain ⟨o7, H⟩ := H
        refine wp_iast (j := (cl ((9 * x2) + x5))) (by decide +kernel) (oks9_35 ok) o7 rfl ?_
        refine wp_memI (fun I6 eI6 => ?_)
        replace H := H I6 eI6
        refine wp_iconst (z := 1) (v := 1) (by decide +kernel) (by decide) ?_
        refine wp_istore (i := 4) (lv' := [(4, .int 1), (6, .int u3), (0, .ref h), (1, .int x1), (2, .int x2), (3, .int x3), (5, .int x5)]) (by decide +kernel) (by decide) rfl ?_
        refine wp_iinc (i := 5) (z := 1) (v := 1) (lv' := [(5, .int (x5 + 1)), (4, .int 1), (6, .int u3), (0, .ref h), (1, .int x1), (2, .int x2), (3, .int x3)]) 6 (by decide +kernel) rfl (by decide) (by decide) rfl ?_
        refine wp_goto (off := -107) (tgt := 6) (by decide +kernel) (by decide) ?_
        exact wp_sub [3, 4, 5, 6, 1, 0] rfl H
      · rw [if_neg c5] at H
        refine wp_goto (off := 20) (tgt := 110) (by decide +kernel) (by decide) ?_
        refine wp_iinc (i := 5) (z := 1) (v := 1) (lv' := [(5, .int (x5 + 1)), (6, .int u3), (0, .ref h), (1, .int x1), (2, .int x2), (3, .int x3), (4, .int x4)]) 6 (by decide +kernel) rfl (by decide) (by decide) rfl ?_
        refine wp_goto (off := -107) (tgt := 6) (by decide +kernel) (by decide) ?_
        exact wp_sub [2, 3, 4, 5, 6, 0] rfl H
    · rw [if_neg c4] at H
      refine wp_aload_n (z := 0) (i := 0) (r := (some h)) 1 (by decide +kernel) rfl rfl ?_
      refine wp_getS (idx := 57) (q := (h + 16)) (by decide +kernel) fl9_57 rfl ok.1 (okr9_35 ok) ?_
      refine wp_bipush (z := 9) (v := 9) (by decide +kernel) (by decide) ?_
      refine wp_iload_n (z := 1) (i := 1) (x := x1) 2 (by decide +kernel) rfl rfl ?_
      refine wp_imul (by decide +kernel) ?_
      refine wp_iload (i := 5) (x := x5) 6 (by decide +kernel) rfl ?_
      refine wp_iadd (by decide +kernel) ?_
      refine wp_iconst (z := 1) (v := 1) (by decide +kernel) (by decide) ?_
      refine wp_isub (by decide +kernel) ?_
      obtain ⟨o20, H⟩ := H
      refine wp_iald (j := (cl (((9 * x1) + x5) - 1))) (by decide +kernel) (oks9_35 ok) o20 rfl ?_
      refine wp_iconst (z := 1) (v := 1) (by decide +kernel) (by decide) ?_
      refine wp_iadd (by decide +kernel) ?_
      refine wp_iload (i := 6) (x := u3) 0 (by decide +kernel) rfl ?_
      refine wp_icmp_ge (off := 21) (tgt := 73) (by decide +kernel) (by decide) (fun c9 => ?_) (fun c9 => ?_)
      · rw [if_pos c9] at H
        refine wp_iload (i := 6) (x := u3) 0 (by decide +kernel) rfl ?_
        refine wp_aload_n (z := 0) (i := 0) (r := (some h)) 1 (by decide +kernel) rfl rfl ?_
        refine wp_getS (idx := 57) (q := (h + 16)) (by decide +kernel) fl9_57 rfl ok.1 (okr9_35 ok) ?_
        refine wp_bipush (z := 9) (v := 9) (by decide +kernel) (by decide) ?_
        refine wp_iload_n (z := 2) (i := 2) (x := x2) 3 (by decide +kernel) rfl rfl ?_
        refine wp_imul (by decide +kernel) ?_
        refine wp_iload (i := 5) (x := x5) 6 (by decide +kernel) rfl ?_
        refine wp_iadd (by decide +kernel) ?_
        obtain ⟨o13, H⟩ := H
        refine wp_iald (j := (cl ((9 * x2) + x5))) (by decide +kernel) (oks9_35 ok) o13 rfl ?_
        refine wp_icmp_lt (off := 6) (tgt := 93) (by decide +kernel) (by decide) (fun c10 => ?_) (fun c10 => ?_)
        · rw [if_pos c10] at H
          refine wp_aload_n (z := 0) (i := 0) (r := (some h)) 1 (by decide +kernel) rfl rfl ?_
          refine wp_getS (idx := 57) (q := (h + 16)) (by decide +kernel) fl9_57 rfl ok.1 (okr9_35 ok) ?_
          refine wp_bipush (z := 9) (v := 9) (by decide +kernel) (by decide) ?_
          refine wp_iload_n (z := 2) (i := 2) (x := x2) 3 (by decide +kernel) rfl rfl ?_
          refine wp_imul (by decide +kernel) ?_
          refine wp_iload (i := 5) (x := x5) 6 (by decide +kernel) rfl ?_
          refine wp_iadd (by decide +kernel) ?_
          refine wp_iload (i := 6) (x := u3) 0 (by decide +kernel) rfl ?_
          obtain ⟨o12, H⟩ := H
          refine wp_iast (j := (cl ((9 * x2) + x5))) (by decide +kernel) (oks9_35 ok) o12 rfl ?_
          refine wp_memI (fun I11 eI11 => ?_)
          replace H := H I11 eI11
          refine wp_iconst (z := 1) (v := 1) (by decide +kernel) (by decide) ?_
          refine wp_istore (i := 4) (lv' := [(4, .int 1), (6, .int u3), (0, .ref h), (1, .int x1), (2, .int x2), (3, .int x3), (5, .int x5)]) (by decide +kernel) (by decide) rfl ?_
          refine wp_iinc (i := 5) (z := 1) (v := 1) (lv' := [(5, .int (x5 + 1)), (4, .int 1), (6, .int u3), (0, .ref h), (1, .int x1), (2, .int x2), (3, .int x3)]) 6 (by decide +kernel) rfl (by decide) (by decide) rfl ?_
          refine wp_goto (off := -107) (tgt := 6) (by decide +kernel) (by decide) ?_
          exact wp_sub [3, 4, 5, 6, 1, 0] rfl H
        · rw [if_neg c10] at H
          refine wp_goto (off := 20) (tgt := 110) (by decide +kernel) (by decide) ?_
          refine wp_iinc (i := 5) (z := 1) (v := 1) (lv' := [(5, .int (x5 + 1)), (6, .int u3), (0, .ref h), (1, .int x1), (2, .int x2), (3, .int x3), (4, .int x4)]) 6 (by decide +kernel) rfl (by decide) (by decide) rfl ?_
          refine wp_goto (off := -107) (tgt := 6) (by decide +kernel) (by decide) ?_
          exact wp_sub [2, 3, 4, 5, 6, 0] rfl H
      · rw [if_neg c9] at H
        refine wp_aload_n (z := 0) (i := 0) (r := (some h)) 1 (by decide +kernel) rfl rfl ?_
        refine wp_getS (idx := 57) (q := (h + 16)) (by decide +kernel) fl9_57 rfl ok.1 (okr9_35 ok) ?_
        refine wp_bipush (z := 9) (v := 9) (by decide +kernel) (by decide) ?_
        refine wp_iload_n (z := 1) (i := 1) (x := x1) 2 (by decide +kernel) rfl rfl ?_
        refine wp_imul (by decide +kernel) ?_
        refine wp_iload (i := 5) (x := x5) 6 (by decide +kernel) rfl ?_
        refine wp_iadd (by decide +kernel) ?_
        refine wp_iconst (z := 1) (v := 1) (by decide +kernel) (by decide) ?_
        refine wp_isub (by decide +kernel) ?_
        obtain ⟨o19, H⟩ := H
        refine wp_iald (j := (cl (((9 * x1) + x5) - 1))) (by decide +kernel) (oks9_35 ok) o19 rfl ?_
        refine wp_iconst (z := 1) (v := 1) (by decide +kernel) (by decide) ?_
        refine wp_iadd (by decide +kernel) ?_
        refine wp_topi (fun u14 eu14 => ?_)
        replace H := H u14 eu14
        refine wp_istore (i := 6) (lv' := [(6, .int u14), (0, .ref h), (1, .int x1), (2, .int x2), (3, .int x3), (4, .int x4), (5, .int x5)]) (by decide +kernel) (by decide) rfl ?_
        refine wp_iload (i := 6) (x := u14) 0 (by decide +kernel) rfl ?_
        refine wp_aload_n (z := 0) (i := 0) (r := (some h)) 1 (by decide +kernel) rfl rfl ?_
        refine wp_getS (idx := 57) (q := (h + 16)) (by decide +kernel) fl9_57 rfl ok.1 (okr9_35 ok) ?_
        refine wp_bipush (z := 9) (v := 9) (by decide +kernel) (by decide) ?_
        refine wp_iload_n (z := 2) (i := 2) (x := x2) 3 (by decide +kernel) rfl rfl ?_
        refine wp_imul (by decide +kernel) ?_
        refine wp_iload (i := 5) (x := x5) 6 (by decide +kernel) rfl ?_
        refine wp_iadd (by decide +kernel) ?_
        obtain ⟨o18, H⟩ := H
        refine wp_iald (j := (cl ((9 * x2) + x5))) (by decide +kernel) (oks9_35 ok) o18 rfl ?_
        refine wp_icmp_lt (off := 6) (tgt := 93) (by decide +kernel) (by decide) (fun c15 => ?_) (fun c15 => ?_)
        · rw [if_pos c15] at H
          refine wp_aload_n (z := 0) (i := 0) (r := (some h)) 1 (by decide +kernel) rfl rfl ?_
          refine wp_getS (idx := 57) (q := (h + 16)) (by decide +kernel) fl9_57 rfl ok.1 (okr9_35 ok) ?_
          refine wp_bipush (z := 9) (v := 9) (by decide +kernel) (by decide) ?_
          refine wp_iload_n (z := 2) (i := 2) (x := x2) 3 (by decide +kernel) rfl rfl ?_
          refine wp_imul (by decide +kernel) ?_
          refine wp_iload (i := 5) (x := x5) 6 (by decide +kernel) rfl ?_
          refine wp_iadd (by decide +kernel) ?_
          refine wp_iload (i := 6) (x := u14) 0 (by decide +kernel) rfl ?_
          obtain ⟨o17, H⟩ := H
          refine wp_iast (j := (cl ((9 * x2) + x5))) (by decide +kernel) (oks9_35 ok) o17 rfl ?_
          refine wp_memI (fun I16 eI16 => ?_)
          replace H := H I16 eI16
          refine wp_iconst (z := 1) (v := 1) (by decide +kernel) (by decide) ?_
          refine wp_istore (i := 4) (lv' := [(4, .int 1), (6, .int u14), (0, .ref h), (1, .int x1), (2, .int x2), (3, .int x3), (5, .int x5)]) (by decide +kernel) (by decide) rfl ?_
          refine wp_iinc (i := 5) (z := 1) (v := 1) (lv' := [(5, .int (x5 + 1)), (4, .int 1), (6, .int u14), (0, .ref h), (1, .int x1), (2, .int x2), (3, .int x3)]) 6 (by decide +kernel) rfl (by decide) (by decide) rfl ?_
          refine wp_goto (off := -107) (tgt := 6) (by decide +kernel) (by decide) ?_
          exact wp_sub [3, 4, 5, 6, 1, 0] rfl H
        · rw [if_neg c15] at H
          refine wp_goto (off := 20) (tgt := 110) (by decide +kernel) (by decide) ?_
          refine wp_iinc (i := 5) (z := 1) (v := 1) (lv' := [(5, .int (x5 + 1)), (6, .int u14), (0, .ref h), (1, .int x1), (2, .int x2), (3, .int x3), (4, .int x4)]) 6 (by decide +kernel) rfl (by decide) (by decide) rfl ?_
          refine wp_goto (off := -107) (tgt := 6) (by decide +kernel) (by decide) ?_
          exact wp_sub [2, 3, 4, 5, 6, 0] rfl H
/-! DeafWallModel.laysLost(III)V -/
set_option maxRecDepth 20000 in
theorem b9_laysLost {X : XX} {G : GG} {I : Nat → Nat → Int32} {L : Nat → Nat → Int64} {h : Nat} {x1 : Int32} {x2 : Int32} {x3 : Int32} {Q : (Nat → Nat → Int32) → (Nat → Nat → Int64) → Prop} (ok : OK9 G h) (H : wpV X B9_laysLost 3 [(0, .ref h), (1, .int x1), (2, .int x2), (3, .int x3), (4, .int 0)] [] G I L Q) : wpV X B9_laysLost 0 [(0, .ref h), (1, .int x1), (2, .int x2), (3, .int x3)] [] G I L Q := by
  refine wp_iconst (z := 0) (v := 0) (by decide +kernel) (by decide) ?_
  refine wp_istore (i := 4) (lv' := [(4, .int 0), (0, .ref h), (1, .int x1), (2, .int x2), (3, .int x3)]) (by decide +kernel) (by decide) rfl ?_
  exact wp_sub [1, 2, 3, 4, 0] rfl H
set_option maxRecDepth 20000 in
theorem b9_laysLost_3 {X : XX} {G : GG} {I : Nat → Nat → Int32} {L : Nat → Nat → Int64} {h : Nat} {x1 : Int32} {x2 : Int32} {x3 : Int32} {x4 : Int32} {Q : (Nat → Nat → Int32) → (Nat → Nat → Int64) → Prop} (ok : OK9 G h) (H : if 288 ≤ x4 then (wpV X B9_laysLost 30 [(0, .ref h), (1, .int x1), (2, .int x2), (3, .int x3), (4, .int 0)] [] G I L Q) else (vp_in x4 288 ∧ (∀ I2, I2 = up2 I (h + 16) (cl x4) 99999999 → wpV X B9_laysLost 3 [(0, .ref h), (1, .int x1), (2, .int x2), (3, .int x3), (4, .int (x4 + 1))] [] G I2 L Q))) : wpV X B9_laysLost 3 [(0, .ref h), (1, .int x1), (2, .int x2), (3, .int x3), (4, .int x4)] [] G I L Q := by
  refine wp_iload (i := 4) (x := x4) 4 (by decide +kernel) rfl ?_
  refine wp_sipush (z := 288) (v := 288) (by decide +kernel) (by decide) ?_
  refine wp_icmp_ge (off := 19) (tgt := 27) (by decide +kernel) (by decide) (fun c1 => ?_) (fun c1 => ?_)
  · rw [if_pos c1] at H
    refine wp_iconst (z := 0) (v := 0) (by decide +kernel) (by decide) ?_
    refine wp_istore (i := 4) (lv' := [(4, .int 0), (0, .ref h), (1, .int x1), (2, .int x2), (3, .int x3)]) (by decide +kernel) (by decide) rfl ?_
    exact wp_sub [1, 2, 3, 4, 0] rfl H
  · rw [if_neg c1] at H
    refine wp_aload_n (z := 0) (i := 0) (r := (some h)) 0 (by decide +kernel) rfl rfl ?_
    refine wp_getS (idx := 57) (q := (h + 16)) (by decide +kernel) fl9_57 rfl ok.1 (okr9_35 ok) ?_
    refine wp_iload (i := 4) (x := x4) 4 (by decide +kernel) rfl ?_
    refine wp_ldcw (idx := 305) (v := 99999999) (by decide +kernel) (in_g (List.mem_of_getElem? (i := 1520) (by decide +kernel)) rfl) ?_
    obtain ⟨o3, H⟩ := H
    refine wp_iast (j := (cl x4)) (by decide +kernel) (oks9_35 ok) o3 rfl ?_
    refine wp_memI (fun I2 eI2 => ?_)
    replace H := H I2 eI2
    refine wp_iinc (i := 4) (z := 1) (v := 1) (lv' := [(4, .int (x4 + 1)), (0, .ref h), (1, .int x1), (2, .int x2), (3, .int x3)]) 4 (by decide +kernel) rfl (by decide) (by decide) rfl ?_
    refine wp_goto (off := -21) (tgt := 3) (by decide +kernel) (by decide) ?_
    exact wp_sub [1, 2, 3, 4, 0] rfl H
set_option maxRecDepth 20000 in
theorem b9_laysLost_30 {X : XX} {G : GG} {I : Nat → Nat → Int32} {L : Nat → Nat → Int64} {h : Nat} {x1 : Int32} {x2 : Int32} {x3 : Int32} {x4 : Int32} {Q : (Nat → Nat → Int32) → (Nat → Nat → Int64) → Prop} (ok : OK9 G h) (H : if 9 ≤ x4 then (wpV X B9_laysLost 59 [(0, .ref h), (2, .int x2), (3, .int x3), (4, .int 1)] [] G I L Q) else (vp_in ((9 * x1) + x4) 288 ∧ (∀ I2, I2 = up2 I (h + 16) (cl ((9 * x1) + x4)) 0 → wpV X B9_laysLost 30 [(0, .ref h), (1, .int x1), (2, .int x2), (3, .int x3), (4, .int (x4 + 1))] [] G I2 L Q))) : wpV X B9_laysLost 30 [(0, .ref h), (1, .int x1), (2, .int x2), (3, .int x3), (4, .int x4)] [] G I L Q := by
  refine wp_iload (i := 4) (x := x4) 4 (by decide +kernel) rfl ?_
  refine wp_bipush (z := 9) (v := 9) (by decide +kernel) (by decide) ?_
  refine wp_icmp_ge (off := 22) (tgt := 56) (by decide +kernel) (by decide) (fun c1 => ?_) (fun c1 => ?_)
  · rw [if_pos c1] at H
    refine wp_iconst (z := 1) (v := 1) (by decide +kernel) (by decide) ?_
    refine wp_istore (i := 4) (lv' := [(4, .int 1), (0, .ref h), (1, .int x1), (2, .int x2), (3, .int x3)]) (by decide +kernel) (by decide) rfl ?_
    exact wp_sub [1, 3, 4, 0] rfl H
  · rw [if_neg c1] at H
    refine wp_aload_n (z := 0) (i := 0) (r := (some h)) 0 (by decide +kernel) rfl rfl ?_
    refine wp_getS (idx := 57) (q := (h + 16)) (by decide +kernel) fl9_57 rfl ok.1 (okr9_35 ok) ?_
    refine wp_bipush (z := 9) (v := 9) (by decide +kernel) (by decide) ?_
    refine wp_iload_n (z := 1) (i := 1) (x := x1) 1 (by decide +kernel) rfl rfl ?_
    refine wp_imul (by decide +kernel) ?_
    refine wp_iload (i := 4) (x := x4) 4 (by decide +kernel) rfl ?_
    refine wp_iadd (by decide +kernel) ?_
    refine wp_iconst (z := 0) (v := 0) (by decide +kernel) (by decide) ?_
    obtain ⟨o3, H⟩ := H
    refine wp_iast (j := (cl ((9 * x1) + x4))) (by decide +kernel) (oks9_35 ok) o3 rfl ?_
    refine wp_memI (fun I2 eI2 => ?_)
    replace H := H I2 eI2
    refine wp_iinc (i := 4) (z := 1) (v := 1) (lv' := [(4, .int (x4 + 1)), (0, .ref h), (1, .int x1), (2, .int x2), (3, .int x3)]) 4 (by decide +kernel) rfl (by decide) (by decide) rfl ?_
    refine wp_goto (off := -23) (tgt := 30) (by decide +kernel) (by decide) ?_
    exact wp_sub [1, 2, 3, 4, 0] rfl H
set_option maxRecDepth 20000 in
theorem b9_laysLost_59 {X : XX} {G : GG} {I : Nat → Nat → Int32} {L : Nat → Nat → Int64} {h : Nat} {x2 : Int32} {x3 : Int32} {x4 : Int32} {Q : (Nat → Nat → Int32) → (Nat → Nat → Int64) → Prop} (ok : OK9 G h) (H : if x4 = (0 : Int32) then (Q I L) else (wpV X B9_laysLost 70 [(0, .ref h), (2, .int x2), (3, .int x3), (4, .int 0), (5, .int 0)] [] G I L Q)) : wpV X B9_laysLost 59 [(0, .ref h), (2, .int x2), (3, .int x3), (4, .int x4)] [] G I L Q := by
  refine wp_iload (i := 4) (x := x4) 3 (by decide +kernel) rfl ?_
  refine wp_if_eq (off := 86) (tgt := 147) (by decide +kernel) (by decide) (fun c1 => ?_) (fun c1 => ?_)
  · rw [if_pos c1] at H
    exact wp_vret (by decide +kernel) rfl (Nat.zero_le _) (Nat.zero_le _) ⟨_, _, rfl, rfl, H⟩
  · rw [if_neg c1] at H
    refine wp_iconst (z := 0) (v := 0) (by decide +kernel) (by decide) ?_
    refine wp_istore (i := 4) (lv' := [(4, .int 0), (0, .ref h), (2, .int x2), (3, .int x3)]) (by decide +kernel) (by decide) rfl ?_
    refine wp_iconst (z := 0) (v := 0) (by decide +kernel) (by decide) ?_
    refine wp_istore (i := 5) (lv' := [(5, .int 0), (4, .int 0), (0, .ref h), (2, .int x2), (3, .int x3)]) (by decide +kernel) (by decide) rfl ?_
    exact wp_sub [2, 3, 4, 1, 0] rfl H
set_option maxRecDepth 20000 in
theorem b9_laysLost_70 {X : XX} {G : GG} {I : Nat → Nat → Int32} {L : Nat → Nat → Int64} {h : Nat} {x2 : Int32} {x3 : Int32} {x4 : Int32} {x5 : Int32} {Q : (Nat → Nat → Int32) → (Nat → Nat → Int64) → Prop} (ok : OK9 G h) (H : if (I h 13) ≤ x5 then (wpV X B9_laysLost 59 [(0, .ref h), (2, .int x2), (3, .int x3), (4, .int x4)] [] G I L Q) else (wpV X B9_laysLost 82 [(0, .ref h), (2, .int x2), (3, .int x3), (4, .int x4), (5, .int x5), (6, .int 0)] [] G I L Q)) : wpV X B9_laysLost 70 [(0, .ref h), (2, .int x2), (3, .int x3), (4, .int x4), (5, .int x5)] [] G I L Q := by
  refine wp_iload (i := 5) (x := x5) 4 (by decide +kernel) rfl ?_
  refine wp_aload_n (z := 0) (i := 0) (r := (some h)) 0 (by decide +kernel) rfl rfl ?_
  refine wp_getI (idx := 184) (by decide +kernel) fl9_184 rfl ok.1 ?_
  refine wp_icmp_ge (off := 68) (tgt := 144) (by decide +kernel) (by decide) (fun c1 => ?_) (fun c1 => ?_)
  · rw [if_pos c1] at H
    refine wp_goto (off := -85) (tgt := 59) (by decide +kernel) (by decide) ?_
    exact wp_sub [0, 1, 2, 3] rfl H
  · rw [if_neg c1] at H
    refine wp_iconst (z := 0) (v := 0) (by decide +kernel) (by decide) ?_
    refine wp_istore (i := 6) (lv' := [(6, .int 0), (0, .ref h), (2, .int x2), (3, .int x3), (4, .int x4), (5, .int x5)]) (by decide +kernel) (by decide) rfl ?_
    exact wp_sub [1, 2, 3, 4, 5, 0] rfl H
set_option maxRecDepth 20000 in
theorem b9_laysLost_82 {X : XX} {G : GG} {I : Nat → Nat → Int32} {L : Nat → Nat → Int64} {h : Nat} {x2 : Int32} {x3 : Int32} {x4 : Int32} {x5 : Int32} {x6 : Int32} {Q : (Nat → Nat → Int32) → (Nat → Nat → Int64) → Prop} (ok : OK9 G h) (H : if (I h 13) ≤ x6 then (wpV X B9_laysLost 70 [(0, .ref h), (2, .int x2), (3, .int x3), (4, .int x4), (5, .int (x5 + 1))] [] G I L Q) else (p9_areBeside I h x6 x5 ∧ (if (v9_areBeside I h x6 x5) = (0 : Int32) then (wpV X B9_laysLost 82 [(0, .ref h), (2, .int x2), (3, .int x3), (4, .int x4), (5, .int x5), (6, .int (x6 + 1))] [] G I L Q) else (if x5 = x2 then (wpI X B9_stepsInto 0 [(0, .ref h), (1, .int x6), (2, .int x5), (3, .int x3)] [] G I L (fun r11 I9 L10 => if r11 = (0 : Int32) then (wpV X B9_laysLost 82 [(0, .ref h), (2, .int x2), (3, .int x3), (4, .int x4), (5, .int x5), (6, .int (x6 + 1))] [] G I9 L10 Q) else (wpV X B9_laysLost 82 [(0, .ref h), (2, .int x2), (3, .int x3), (4, .int 1), (5, .int x5), (6, .int (x6 + 1))] [] G I9 L10 Q))) else (p9_deadTold I h x5 ∧ (wpI X B9_stepsInto 0 [(0, .ref h), (1, .int x6), (2, .int x5), (3, .int (v9_deadTold I h x5))] [] G I L (fun r6 I4 L5 => if r6 = (0 : Int32) then (wpV X B9_laysLost 82 [(0, .ref h), (2, .int x2), (3, .int x3), (4, .int x4), (5, .int x5), (6, .int (x6 + 1))] [] G I4 L5 Q) else (wpV X B9_laysLost 82 [(0, .ref h), (2, .int x2), (3, .int x3), (4, .int 1), (5, .int x5), (6, .int (x6 + 1))] [] G I4 L5 Q)))))))) : wpV X B9_laysLost 82 [(0, .ref h), (2, .int x2), (3, .int x3), (4, .int x4), (5, .int x5), (6, .int x6)] [] G I L Q := by
  refine wp_iload (i := 6) (x := x6) 5 (by decide +kernel) rfl ?_
  refine wp_aload_n (z := 0) (i := 0) (r := (some h)) 0 (by decide +kernel) rfl rfl ?_
  refine wp_getI (idx := 184) (by decide +kernel) fl9_184 rfl ok.1 ?_
  refine wp_icmp_ge (off := 50) (tgt := 138) (by decide +kernel) (by decide) (fun c1 => ?_) (fun c1 => ?_)
  · rw [if_pos c1] at H
    refine wp_iinc (i := 5) (z := 1) (v := 1) (lv' := [(5, .int (x5 + 1)), (0, .ref h), (2, .int x2), (3, .int x3), (4, .int x4), (6, .int x6)]) 4 (by decide +kernel) rfl (by decide) (by decide) rfl ?_
    refine wp_goto (off := -71) (tgt := 70) (by decide +kernel) (by decide) ?_
    exact wp_sub [1, 2, 3, 4, 0] rfl H
  · rw [if_neg c1] at H
    refine wp_aload_n (z := 0) (i := 0) (r := (some h)) 0 (by decide +kernel) rfl rfl ?_
    refine wp_iload (i := 6) (x := x6) 5 (by decide +kernel) rfl ?_
    refine wp_iload (i := 5) (x := x5) 4 (by decide +kernel) rfl ?_
    obtain ⟨o13, H⟩ := H
    refine wp_callV (idx := 238) (B2 := B9_areBeside) (As := [.int x6, .int x5]) (a := h) (st := []) (by decide +kernel) m9_areBeside ml9_238 k9_areBeside e9_areBeside ck9 ok.1 (⟨Nat.le_of_ble_eq_true rfl, Nat.le_of_ble_eq_true rfl⟩ : rOK B9_laysLost B9_areBeside) rfl (Nat.le_of_ble_eq_true rfl) (Nat.le_of_ble_eq_true rfl) ⟨Nat.le_of_ble_eq_true rfl, Nat.le_of_ble_eq_true rfl⟩ rfl (wp_mono (b9_areBeside (Q := (fun r I' L' => r = (v9_areBeside I h x6 x5) ∧ I = I' ∧ L = L')) ok o13 ⟨rfl, rfl, rfl⟩) (fun v9 M9 hq9 => ?_))
    obtain ⟨_, _, _, rfl, rfl, rfl, rfl, rfl⟩ := hq9
    show wp X B9_laysLost 99 [(0, .ref h), (2, .int x2), (3, .int x3), (4, .int x4), (5, .int x5), (6, .int x6)] [.int (v9_areBeside I h x6 x5)] (G, I, L) 0 0 _
    refine wp_if_eq (off := 33) (tgt := 132) (by decide +kernel) (by decide) (fun c2 => ?_) (fun c2 => ?_)
    · rw [if_pos c2] at H
      refine wp_iinc (i := 6) (z := 1) (v := 1) (lv' := [(6, .int (x6 + 1)), (0, .ref h), (2, .int x2), (3, .int x3), (4, .int x4), (5, .int x5)]) 5 (by decide +kernel) rfl (by decide) (by decide) rfl ?_
      refine wp_goto (off := -53) (tgt := 82) (by decide +kernel) (by decide) ?_
      exact wp_sub [1, 2, 3, 4, 5, 0] rfl H
    · rw [if_neg c2] at H
      refine wp_aload_n (z := 0) (i := 0) (r := (some h)) 0 (by decide +kernel) rfl rfl ?_
      refine wp_iload (i := 6) (x := x6) 5 (by decide +kernel) rfl ?_
      refine wp_iload (i := 5) (x := x5) 4 (by decide +kernel) rfl ?_
      refine wp_iload (i := 5) (x := x5) 4 (by decide +kernel) rfl ?_
      refine wp_iload_n (z := 2) (i := 2) (x := x2) 1 (by decide +kernel) rfl rfl ?_
      refine wp_icmp_ne (off := 7) (tgt := 117) (by decide +kernel) (by decide) (fun c3 => ?_) (fun c3 => ?_)
      · rw [if_neg c3] at H
        refine wp_aload_n (z := 0) (i := 0) (r := (some h)) 0 (by decide +kernel) rfl rfl ?_
        refine wp_iload (i := 5) (x := x5) 4 (by decide +kernel) rfl ?_
        obtain ⟨o8, H⟩ := H
        refine wp_callV (idx := 217) (B2 := B9_deadTold) (As := [.int x5]) (a := h) (st := [.int x5, .int x6, .ref h]) (by decide +kernel) m9_deadTold ml9_217 k9_deadTold e9_deadTold ck9 ok.1 (⟨Nat.le_of_ble_eq_true rfl, Nat.le_of_ble_eq_true rfl⟩ : rOK B9_laysLost B9_deadTold) rfl (Nat.le_of_ble_eq_true rfl) (Nat.le_of_ble_eq_true rfl) ⟨Nat.le_of_ble_eq_true rfl, Nat.le_of_ble_eq_true rfl⟩ rfl (wp_mono (b9_deadTold (Q := (fun r I' L' => r = (v9_deadTold I h x5) ∧ I = I' ∧ L = L')) ok o8 ⟨rfl, rfl, rfl⟩) (fun v9 M9 hq9 => ?_))
        obtain ⟨_, _, _, rfl, rfl, rfl, rfl, rfl⟩ := hq9
        show wp X B9_laysLost 123 [(0, .ref h), (2, .int x2), (3, .int x3), (4, .int x4), (5, .int x5), (6, .int x6)] [.int (v9_deadTold I h x5), .int x5, .int x6, .ref h] (G, I, L) 0 0 _
        refine wp_callV (idx := 324) (B2 := B9_stepsInto) (As := [.int x6, .int x5, .int (v9_deadTold I h x5)]) (a := h) (st := []) (by decide +kernel) m9_stepsInto ml9_324 k9_stepsInto e9_stepsInto ck9 ok.1 (⟨Nat.le_of_ble_eq_true rfl, Nat.le_of_ble_eq_true rfl⟩ : rOK B9_laysLost B9_stepsInto) rfl (Nat.le_of_ble_eq_true rfl) (Nat.le_of_ble_eq_true rfl) ⟨Nat.le_of_ble_eq_true rfl, Nat.le_of_ble_eq_true rfl⟩ rfl (wp_mono H (fun v9 M9 hq9 => ?_))
        clear H
        obtain ⟨r6, I4, L5, rfl, rfl, H⟩ := hq9
        show wp X B9_laysLost 126 [(0, .ref h), (2, .int x2), (3, .int x3), (4, .int x4), (5, .int x5), (6, .int x6)] [.int r6] (G, I4, L5) 0 0 _
        refine wp_if_eq (off := 6) (tgt := 132) (by decide +kernel) (by decide) (fun c7 => ?_) (fun c7 => ?_)
        · rw [if_pos c7] at H
          refine wp_iinc (i := 6) (z := 1) (v := 1) (lv' := [(6, .int (x6 + 1)), (0, .ref h), (2, .int x2), (3, .int x3), (4, .int x4), (5, .int x5)]) 5 (by decide +kernel) rfl (by decide) (by decide) rfl ?_
          refine wp_goto (off := -53) (tgt := 82) (by decide +kernel) (by decide) ?_
          exact wp_sub [1, 2, 3, 4, 5, 0] rfl H
        · rw [if_neg c7] at H
          refine wp_iconst (z := 1) (v := 1) (by decide +kernel) (by decide) ?_
          refine wp_istore (i := 4) (lv' := [(4, .int 1), (0, .ref h), (2, .int x2), (3, .int x3), (5, .int x5), (6, .int x6)]) (by decide +kernel) (by decide) rfl ?_
          refine wp_iinc (i := 6) (z := 1) (v := 1) (lv' := [(6, .int (x6 + 1)), (4, .int 1), (0, .ref h), (2, .int x2), (3, .int x3), (5, .int x5)]) 5 (by decide +kernel) rfl (by decide) (by decide) rfl ?_
          refine wp_goto (off := -53) (tgt := 82) (by decide +kernel) (by decide) ?_
          exact wp_sub [2, 3, 4, 1, 5, 0] rfl H
      · rw [if_pos c3] at H
        refine wp_iload_n (z := 3) (i := 3) (x := x3) 2 (by decide +kernel) rfl rfl ?_
        refine wp_goto (off := 9) (tgt := 123) (by decide +kernel) (by decide) ?_
        refine wp_callV (idx := 324) (B2 := B9_stepsInto) (As := [.int x6, .int x5, .int x3]) (a := h) (st := []) (by decide +kernel) m9_stepsInto ml9_324 k9_stepsInto e9_stepsInto ck9 ok.1 (⟨Nat.le_of_ble_eq_true rfl, Nat.le_of_ble_eq_true rfl⟩ : rOK B9_laysLost B9_stepsInto) rfl (Nat.le_of_ble_eq_true rfl) (Nat.le_of_ble_eq_true rfl) ⟨Nat.le_of_ble_eq_true rfl, Nat.le_of_ble_eq_true rfl⟩ rfl (wp_mono H (fun v9 M9 hq9 => ?_))
        clear H
        obtain ⟨r11, I9, L10, rfl, rfl, H⟩ := hq9
        show wp X B9_laysLost 126 [(0, .ref h), (2, .int x2), (3, .int x3), (4, .int x4), (5, .int x5), (6, .int x6)] [.int r11] (G, I9, L10) 0 0 _
        refine wp_if_eq (off := 6) (tgt := 132) (by decide +kernel) (by decide) (fun c12 => ?_) (fun c12 => ?_)
        · rw [if_pos c12] at H
          refine wp_iinc (i := 6) (z := 1) (v := 1) (lv' := [(6, .int (x6 + 1)), (0, .ref h), (2, .int x2), (3, .int x3), (4, .int x4), (5, .int x5)]) 5 (by decide +kernel) rfl (by decide) (by decide) rfl ?_
          refine wp_goto (off := -53) (tgt := 82) (by decide +kernel) (by decide) ?_
          exact wp_sub [1, 2, 3, 4, 5, 0] rfl H
        · rw [if_neg c12] at H
          refine wp_iconst (z := 1) (v := 1) (by decide +kernel) (by decide) ?_
          refine wp_istore (i := 4) (lv' := [(4, .int 1), (0, .ref h), (2, .int x2), (3, .int x3), (5, .int x5), (6, .int x6)]) (by decide +kernel) (by decide) rfl ?_
          refine wp_iinc (i := 6) (z := 1) (v := 1) (lv' := [(6, .int (x6 + 1)), (4, .int 1), (0, .ref h), (2, .int x2), (3, .int x3), (5, .int x5)]) 5 (by decide +kernel) rfl (by decide) (by decide) rfl ?_
          refine wp_goto (off := -53) (tgt := 82) (by decide +kernel) (by decide) ?_
          exact wp_sub [2, 3, 4, 1, 5, 0] rfl H
/-! DeafWallModel.loss(IIIZ)I -/
set_option maxRecDepth 20000 in
theorem b9_loss {X : XX} {G : GG} {I : Nat → Nat → Int32} {L : Nat → Nat → Int64} {h : Nat} {x1 : Int32} {x2 : Int32} {x3 : Int32} {x4 : Int32} {Q : Int32 → (Nat → Nat → Int32) → (Nat → Nat → Int64) → Prop} (ok : OK9 G h) (H : wpI X B9_isWall 0 [(0, .ref h), (1, .int x1)] [] G I L (fun r3 I1 L2 => if r3 = (0 : Int32) then (Q (-1) I1 L2) else (if (v9_isCell I1 h x2) = (0 : Int32) then (Q (-1) I1 L2) else (if (v9_isCell I1 h x3) = (0 : Int32) then (Q (-1) I1 L2) else (if x4 = (0 : Int32) then (wpV X B9_laysLost 0 [(0, .ref h), (1, .int x2), (2, .int (-1)), (3, .int 0)] [] G I1 L2 (fun I8 L9 => vp_in (9 * x3) 288 ∧ (Q (I8 (h + 16) (cl (9 * x3))) I8 L9))) else (p9_stepsOf I1 h x2 x3 ∧ (Q (v9_stepsOf I1 h x2 x3) I1 L2))))))) : wpI X B9_loss 0 [(0, .ref h), (1, .int x1), (2, .int x2), (3, .int x3), (4, .int x4)] [] G I L Q := by
  refine wp_aload_n (z := 0) (i := 0) (r := (some h)) 0 (by decide +kernel) rfl rfl ?_
  refine wp_iload_n (z := 1) (i := 1) (x := x1) 1 (by decide +kernel) rfl rfl ?_
  refine wp_callV (idx := 196) (B2 := B9_isWall) (As := [.int x1]) (a := h) (st := []) (by decide +kernel) m9_isWall ml9_196 k9_isWall e9_isWall ck9 ok.1 (⟨Nat.le_of_ble_eq_true rfl, Nat.le_of_ble_eq_true rfl⟩ : rOK B9_loss B9_isWall) rfl (Nat.le_of_ble_eq_true rfl) (Nat.le_of_ble_eq_true rfl) ⟨Nat.le_of_ble_eq_true rfl, Nat.le_of_ble_eq_true rfl⟩ rfl (wp_mono H (fun v9 M9 hq9 => ?_))
  clear H
  obtain ⟨r3, I1, L2, rfl, rfl, H⟩ := hq9
  show wp X B9_loss 5 [(0, .ref h), (1, .int x1), (2, .int x2), (3, .int x3), (4, .int x4)] [.int r3] (G, I1, L2) 0 0 _
  refine wp_if_eq (off := 19) (tgt := 24) (by decide +kernel) (by decide) (fun c4 => ?_) (fun c4 => ?_)
  · rw [if_pos c4] at H
    refine wp_iconst (z := -1) (v := (-1)) (by decide +kernel) (by decide) ?_
    exact wp_iret (by decide +kernel) rfl (Nat.zero_le _) (Nat.zero_le _) ⟨_, _, _, rfl, rfl, H⟩
  · rw [if_neg c4] at H
    refine wp_aload_n (z := 0) (i := 0) (r := (some h)) 0 (by decide +kernel) rfl rfl ?_
    refine wp_iload_n (z := 2) (i := 2) (x := x2) 2 (by decide +kernel) rfl rfl ?_
    refine wp_callV (idx := 214) (B2 := B9_isCell) (As := [.int x2]) (a := h) (st := []) (by decide +kernel) m9_isCell ml9_214 k9_isCell e9_isCell ck9 ok.1 (⟨Nat.le_of_ble_eq_true rfl, Nat.le_of_ble_eq_true rfl⟩ : rOK B9_loss B9_isCell) rfl (Nat.le_of_ble_eq_true rfl) (Nat.le_of_ble_eq_true rfl) ⟨Nat.le_of_ble_eq_true rfl, Nat.le_of_ble_eq_true rfl⟩ rfl (wp_mono (b9_isCell (Q := (fun r I' L' => r = (v9_isCell I1 h x2) ∧ I1 = I' ∧ L2 = L')) ok ⟨rfl, rfl, rfl⟩) (fun v9 M9 hq9 => ?_))
    obtain ⟨_, _, _, rfl, rfl, rfl, rfl, rfl⟩ := hq9
    show wp X B9_loss 13 [(0, .ref h), (1, .int x1), (2, .int x2), (3, .int x3), (4, .int x4)] [.int (v9_isCell I1 h x2)] (G, I1, L2) 0 0 _
    refine wp_if_eq (off := 11) (tgt := 24) (by decide +kernel) (by decide) (fun c5 => ?_) (fun c5 => ?_)
    · rw [if_pos c5] at H
      refine wp_iconst (z := -1) (v := (-1)) (by decide +kernel) (by decide) ?_
      exact wp_iret (by decide +kernel) rfl (Nat.zero_le _) (Nat.zero_le _) ⟨_, _, _, rfl, rfl, H⟩
    · rw [if_neg c5] at H
      refine wp_aload_n (z := 0) (i := 0) (r := (some h)) 0 (by decide +kernel) rfl rfl ?_
      refine wp_iload_n (z := 3) (i := 3) (x := x3) 3 (by decide +kernel) rfl rfl ?_
      refine wp_callV (idx := 214) (B2 := B9_isCell) (As := [.int x3]) (a := h) (st := []) (by decide +kernel) m9_isCell ml9_214 k9_isCell e9_isCell ck9 ok.1 (⟨Nat.le_of_ble_eq_true rfl, Nat.le_of_ble_eq_true rfl⟩ : rOK B9_loss B9_isCell) rfl (Nat.le_of_ble_eq_true rfl) (Nat.le_of_ble_eq_true rfl) ⟨Nat.le_of_ble_eq_true rfl, Nat.le_of_ble_eq_true rfl⟩ rfl (wp_mono (b9_isCell (Q := (fun r I' L' => r = (v9_isCell I1 h x3) ∧ I1 = I' ∧ L2 = L')) ok ⟨rfl, rfl, rfl⟩) (fun v9 M9 hq9 => ?_))
      obtain ⟨_, _, _, rfl, rfl, rfl, rfl, rfl⟩ := hq9
      show wp X B9_loss 21 [(0, .ref h), (1, .int x1), (2, .int x2), (3, .int x3), (4, .int x4)] [.int (v9_isCell I1 h x3)] (G, I1, L2) 0 0 _
      refine wp_if_ne (off := 5) (tgt := 26) (by decide +kernel) (by decide) (fun c6 => ?_) (fun c6 => ?_)
      · rw [if_neg c6] at H
        refine wp_iload (i := 4) (x := x4) 4 (by decide +kernel) rfl ?_
        refine wp_if_eq (off := 10) (tgt := 38) (by decide +kernel) (by decide) (fun c7 => ?_) (fun c7 => ?_)
        · rw [if_pos c7] at H
          refine wp_aload_n (z := 0) (i := 0) (r := (some h)) 0 (by decide +kernel) rfl rfl ?_
          refine wp_iload_n (z := 2) (i := 2) (x := x2) 2 (by decide +kernel) rfl rfl ?_
          refine wp_iconst (z := -1) (v := (-1)) (by decide +kernel) (by decide) ?_
          refine wp_iconst (z := 0) (v := 0) (by decide +kernel) (by decide) ?_
          refine wp_callV (idx := 330) (B2 := B9_laysLost) (As := [.int x2, .int (-1), .int 0]) (a := h) (st := []) (by decide +kernel) m9_laysLost ml9_330 k9_laysLost e9_laysLost ck9 ok.1 (⟨Nat.le_of_ble_eq_true rfl, Nat.le_of_ble_eq_true rfl⟩ : rOK B9_loss B9_laysLost) rfl (Nat.le_of_ble_eq_true rfl) (Nat.le_of_ble_eq_true rfl) ⟨Nat.le_of_ble_eq_true rfl, Nat.le_of_ble_eq_true rfl⟩ rfl (wp_mono H (fun v9 M9 hq9 => ?_))
          clear H
          obtain ⟨I8, L9, rfl, rfl, H⟩ := hq9
          show wp X B9_loss 45 [(0, .ref h), (1, .int x1), (2, .int x2), (3, .int x3), (4, .int x4)] [] (G, I8, L9) 0 0 _
          refine wp_aload_n (z := 0) (i := 0) (r := (some h)) 0 (by decide +kernel) rfl rfl ?_
          refine wp_getS (idx := 57) (q := (h + 16)) (by decide +kernel) fl9_57 rfl ok.1 (okr9_35 ok) ?_
          refine wp_bipush (z := 9) (v := 9) (by decide +kernel) (by decide) ?_
          refine wp_iload_n (z := 3) (i := 3) (x := x3) 3 (by decide +kernel) rfl rfl ?_
          refine wp_imul (by decide +kernel) ?_
          obtain ⟨o11, H⟩ := H
          refine wp_iald (j := (cl (9 * x3))) (by decide +kernel) (oks9_35 ok) o11 rfl ?_
          exact wp_iret (by decide +kernel) rfl (Nat.zero_le _) (Nat.zero_le _) ⟨_, _, _, rfl, rfl, H⟩
        · rw [if_neg c7] at H
          refine wp_aload_n (z := 0) (i := 0) (r := (some h)) 0 (by decide +kernel) rfl rfl ?_
          refine wp_iload_n (z := 2) (i := 2) (x := x2) 2 (by decide +kernel) rfl rfl ?_
          refine wp_iload_n (z := 3) (i := 3) (x := x3) 3 (by decide +kernel) rfl rfl ?_
          obtain ⟨o12, H⟩ := H
          refine wp_callV (idx := 327) (B2 := B9_stepsOf) (As := [.int x2, .int x3]) (a := h) (st := []) (by decide +kernel) m9_stepsOf ml9_327 k9_stepsOf e9_stepsOf ck9 ok.1 (⟨Nat.le_of_ble_eq_true rfl, Nat.le_of_ble_eq_true rfl⟩ : rOK B9_loss B9_stepsOf) rfl (Nat.le_of_ble_eq_true rfl) (Nat.le_of_ble_eq_true rfl) ⟨Nat.le_of_ble_eq_true rfl, Nat.le_of_ble_eq_true rfl⟩ rfl (wp_mono (b9_stepsOf (Q := (fun r I' L' => r = (v9_stepsOf I1 h x2 x3) ∧ I1 = I' ∧ L2 = L')) ok o12 ⟨rfl, rfl, rfl⟩) (fun v9 M9 hq9 => ?_))
          obtain ⟨_, _, _, rfl, rfl, rfl, rfl, rfl⟩ := hq9
          show wp X B9_loss 37 [(0, .ref h), (1, .int x1), (2, .int x2), (3, .int x3), (4, .int x4)] [.int (v9_stepsOf I1 h x2 x3)] (G, I1, L2) 0 0 _
          exact wp_iret (by decide +kernel) rfl (Nat.zero_le _) (Nat.zero_le _) ⟨_, _, _, rfl, rfl, H⟩
      · rw [if_pos c6] at H
        refine wp_iconst (z := -1) (v := (-1)) (by decide +kernel) (by decide) ?_
        exact wp_iret (by decide +kernel) rfl (Nat.zero_le _) (Nat.zero_le _) ⟨_, _, _, rfl, rfl, H⟩
/-! DeafWallModel.shadowOf(Z)I -/
set_option maxRecDepth 20000 in
theorem b9_shadowOf {X : XX} {G : GG} {I : Nat → Nat → Int32} {L : Nat → Nat → Int64} {h : Nat} {x1 : Int32} {Q : Int32 → (Nat → Nat → Int32) → (Nat → Nat → Int64) → Prop} (ok : OK9 G h) (H : wpV X B9_laysLost 0 [(0, .ref h), (1, .int (I h 14)), (2, .int (-1)), (3, .int 0)] [] G I L (fun I1 L2 => ∀ u4, u4 = ((I1 h 13) - 1) → wpI X B9_shadowOf 22 [(0, .ref h), (1, .int x1), (2, .int 0), (3, .int (-1)), (4, .int u4)] [] G I1 L2 Q)) : wpI X B9_shadowOf 0 [(0, .ref h), (1, .int x1)] [] G I L Q := by
  refine wp_aload_n (z := 0) (i := 0) (r := (some h)) 0 (by decide +kernel) rfl rfl ?_
  refine wp_aload_n (z := 0) (i := 0) (r := (some h)) 0 (by decide +kernel) rfl rfl ?_
  refine wp_getI (idx := 187) (by decide +kernel) fl9_187 rfl ok.1 ?_
  refine wp_iconst (z := -1) (v := (-1)) (by decide +kernel) (by decide) ?_
  refine wp_iconst (z := 0) (v := 0) (by decide +kernel) (by decide) ?_
  refine wp_callV (idx := 330) (B2 := B9_laysLost) (As := [.int (I h 14), .int (-1), .int 0]) (a := h) (st := []) (by decide +kernel) m9_laysLost ml9_330 k9_laysLost e9_laysLost ck9 ok.1 (⟨Nat.le_of_ble_eq_true rfl, Nat.le_of_ble_eq_true rfl⟩ : rOK B9_shadowOf B9_laysLost) rfl (Nat.le_of_ble_eq_true rfl) (Nat.le_of_ble_eq_true rfl) ⟨Nat.le_of_ble_eq_true rfl, Nat.le_of_ble_eq_true rfl⟩ rfl (wp_mono H (fun v9 M9 hq9 => ?_))
  clear H
  obtain ⟨I1, L2, rfl, rfl, H⟩ := hq9
  show wp X B9_shadowOf 10 [(0, .ref h), (1, .int x1)] [] (G, I1, L2) 0 0 _
  refine wp_iconst (z := 0) (v := 0) (by decide +kernel) (by decide) ?_
  refine wp_istore_n (z := 2) (i := 2) (lv' := [(2, .int 0), (0, .ref h), (1, .int x1)]) (by decide +kernel) rfl (by decide) rfl ?_
  refine wp_iconst (z := -1) (v := (-1)) (by decide +kernel) (by decide) ?_
  refine wp_istore_n (z := 3) (i := 3) (lv' := [(3, .int (-1)), (2, .int 0), (0, .ref h), (1, .int x1)]) (by decide +kernel) rfl (by decide) rfl ?_
  refine wp_aload_n (z := 0) (i := 0) (r := (some h)) 2 (by decide +kernel) rfl rfl ?_
  refine wp_getI (idx := 184) (by decide +kernel) fl9_184 rfl ok.1 ?_
  refine wp_iconst (z := 1) (v := 1) (by decide +kernel) (by decide) ?_
  refine wp_isub (by decide +kernel) ?_
  refine wp_topi (fun u4 eu4 => ?_)
  replace H := H u4 eu4
  refine wp_istore (i := 4) (lv' := [(4, .int u4), (3, .int (-1)), (2, .int 0), (0, .ref h), (1, .int x1)]) (by decide +kernel) (by decide) rfl ?_
  exact wp_sub [3, 4, 2, 1, 0] rfl H
set_option maxRecDepth 20000 in
theorem b9_shadowOf_22 {X : XX} {G : GG} {I : Nat → Nat → Int32} {L : Nat → Nat → Int64} {h : Nat} {x1 : Int32} {x2 : Int32} {x3 : Int32} {x4 : Int32} {Q : Int32 → (Nat → Nat → Int32) → (Nat → Nat → Int64) → Prop} (ok : OK9 G h) (H : if x4 < (0 : Int32) then (if x1 = (0 : Int32) then (Q x2 I L) else (Q x3 I L)) else (vp_in (9 * x4) 288 ∧ (if (9 - (I (h + 16) (cl (9 * x4)))) ≤ (0 : Int32) then (wpI X B9_shadowOf 22 [(0, .ref h), (1, .int x1), (2, .int (x2 + 1)), (3, .int x4), (4, .int (x4 + (-1)))] [] G I L Q) else (wpI X B9_shadowOf 22 [(0, .ref h), (1, .int x1), (2, .int x2), (3, .int x3), (4, .int (x4 + (-1)))] [] G I L Q)))) : wpI X B9_shadowOf 22 [(0, .ref h), (1, .int x1), (2, .int x2), (3, .int x3), (4, .int x4)] [] G I L Q := by
  refine wp_iload (i := 4) (x := x4) 4 (by decide +kernel) rfl ?_
  refine wp_if_lt (off := 34) (tgt := 58) (by decide +kernel) (by decide) (fun c1 => ?_) (fun c1 => ?_)
  · rw [if_pos c1] at H
    refine wp_iload_n (z := 1) (i := 1) (x := x1) 1 (by decide +kernel) rfl rfl ?_
    refine wp_if_eq (off := 7) (tgt := 66) (by decide +kernel) (by decide) (fun c2 => ?_) (fun c2 => ?_)
    · rw [if_pos c2] at H
      refine wp_iload_n (z := 2) (i := 2) (x := x2) 2 (by decide +kernel) rfl rfl ?_
      exact wp_iret (by decide +kernel) rfl (Nat.zero_le _) (Nat.zero_le _) ⟨_, _, _, rfl, rfl, H⟩
    · rw [if_neg c2] at H
      refine wp_iload_n (z := 3) (i := 3) (x := x3) 3 (by decide +kernel) rfl rfl ?_
      refine wp_goto (off := 4) (tgt := 67) (by decide +kernel) (by decide) ?_
      exact wp_iret (by decide +kernel) rfl (Nat.zero_le _) (Nat.zero_le _) ⟨_, _, _, rfl, rfl, H⟩
  · rw [if_neg c1] at H
    refine wp_bipush (z := 9) (v := 9) (by decide +kernel) (by decide) ?_
    refine wp_aload_n (z := 0) (i := 0) (r := (some h)) 0 (by decide +kernel) rfl rfl ?_
    refine wp_getS (idx := 57) (q := (h + 16)) (by decide +kernel) fl9_57 rfl ok.1 (okr9_35 ok) ?_
    refine wp_bipush (z := 9) (v := 9) (by decide +kernel) (by decide) ?_
    refine wp_iload (i := 4) (x := x4) 4 (by decide +kernel) rfl ?_
    refine wp_imul (by decide +kernel) ?_
    obtain ⟨o4, H⟩ := H
    refine wp_iald (j := (cl (9 * x4))) (by decide +kernel) (oks9_35 ok) o4 rfl ?_
    refine wp_isub (by decide +kernel) ?_
    refine wp_if_le (off := 6) (tgt := 46) (by decide +kernel) (by decide) (fun c3 => ?_) (fun c3 => ?_)
    · rw [if_pos c3] at H
      refine wp_iinc (i := 2) (z := 1) (v := 1) (lv' := [(2, .int (x2 + 1)), (0, .ref h), (1, .int x1), (3, .int x3), (4, .int x4)]) 2 (by decide +kernel) rfl (by decide) (by decide) rfl ?_
      refine wp_iload (i := 4) (x := x4) 4 (by decide +kernel) rfl ?_
      refine wp_istore_n (z := 3) (i := 3) (lv' := [(3, .int x4), (2, .int (x2 + 1)), (0, .ref h), (1, .int x1), (4, .int x4)]) (by decide +kernel) rfl (by decide) rfl ?_
      refine wp_iinc (i := 4) (z := -1) (v := (-1)) (lv' := [(4, .int (x4 + (-1))), (3, .int x4), (2, .int (x2 + 1)), (0, .ref h), (1, .int x1)]) 4 (by decide +kernel) rfl (by decide) (by decide) rfl ?_
      refine wp_goto (off := -33) (tgt := 22) (by decide +kernel) (by decide) ?_
      exact wp_sub [3, 4, 2, 1, 0] rfl H
    · rw [if_neg c3] at H
      refine wp_goto (off := 9) (tgt := 52) (by decide +kernel) (by decide) ?_
      refine wp_iinc (i := 4) (z := -1) (v := (-1)) (lv' := [(4, .int (x4 + (-1))), (0, .ref h), (1, .int x1), (2, .int x2), (3, .int x3)]) 4 (by decide +kernel) rfl (by decide) (by decide) rfl ?_
      refine wp_goto (off := -33) (tgt := 22) (by decide +kernel) (by decide) ?_
      exact wp_sub [1, 2, 3, 4, 0] rfl H
/-! DeafWallModel.farthestOf(Z)I -/
set_option maxRecDepth 20000 in
theorem b9_farthestOf {X : XX} {G : GG} {I : Nat → Nat → Int32} {L : Nat → Nat → Int64} {h : Nat} {x1 : Int32} {Q : Int32 → (Nat → Nat → Int32) → (Nat → Nat → Int64) → Prop} (ok : OK9 G h) (H : wpV X B9_laysLost 0 [(0, .ref h), (1, .int (I h 14)), (2, .int (-1)), (3, .int 0)] [] G I L (fun I1 L2 => wpI X B9_farthestOf 14 [(0, .ref h), (1, .int x1), (2, .int 0), (3, .int 1)] [] G I1 L2 Q)) : wpI X B9_farthestOf 0 [(0, .ref h), (1, .int x1)] [] G I L Q := by
  refine wp_aload_n (z := 0) (i := 0) (r := (some h)) 0 (by decide +kernel) rfl rfl ?_
  refine wp_aload_n (z := 0) (i := 0) (r := (some h)) 0 (by decide +kernel) rfl rfl ?_
  refine wp_getI (idx := 187) (by decide +kernel) fl9_187 rfl ok.1 ?_
  refine wp_iconst (z := -1) (v := (-1)) (by decide +kernel) (by decide) ?_
  refine wp_iconst (z := 0) (v := 0) (by decide +kernel) (by decide) ?_
  refine wp_callV (idx := 330) (B2 := B9_laysLost) (As := [.int (I h 14), .int (-1), .int 0]) (a := h) (st := []) (by decide +kernel) m9_laysLost ml9_330 k9_laysLost e9_laysLost ck9 ok.1 (⟨Nat.le_of_ble_eq_true rfl, Nat.le_of_ble_eq_true rfl⟩ : rOK B9_farthestOf B9_laysLost) rfl (Nat.le_of_ble_eq_true rfl) (Nat.le_of_ble_eq_true rfl) ⟨Nat.le_of_ble_eq_true rfl, Nat.le_of_ble_eq_true rfl⟩ rfl (wp_mono H (fun v9 M9 hq9 => ?_))
  clear H
  obtain ⟨I1, L2, rfl, rfl, H⟩ := hq9
  show wp X B9_farthestOf 10 [(0, .ref h), (1, .int x1)] [] (G, I1, L2) 0 0 _
  refine wp_iconst (z := 0) (v := 0) (by decide +kernel) (by decide) ?_
  refine wp_istore_n (z := 2) (i := 2) (lv' := [(2, .int 0), (0, .ref h), (1, .int x1)]) (by decide +kernel) rfl (by decide) rfl ?_
  refine wp_iconst (z := 1) (v := 1) (by decide +kernel) (by decide) ?_
  refine wp_istore_n (z := 3) (i := 3) (lv' := [(3, .int 1), (2, .int 0), (0, .ref h), (1, .int x1)]) (by decide +kernel) rfl (by decide) rfl ?_
  exact wp_sub [2, 3, 1, 0] rfl H
set_option maxRecDepth 20000 in
theorem b9_farthestOf_14 {X : XX} {G : GG} {I : Nat → Nat → Int32} {L : Nat → Nat → Int64} {h : Nat} {x1 : Int32} {x2 : Int32} {x3 : Int32} {Q : Int32 → (Nat → Nat → Int32) → (Nat → Nat → Int64) → Prop} (ok : OK9 G h) (H : if (I h 13) ≤ x3 then (if x1 = (0 : Int32) then (Q x2 I L) else (vp_in (9 * x2) 288 ∧ (Q (I (h + 16) (cl (9 * x2))) I L))) else (vp_in (9 * x3) 288 ∧ (vp_in (9 * x2) 288 ∧ (if (I (h + 16) (cl (9 * x3))) ≤ (I (h + 16) (cl (9 * x2))) then (wpI X B9_farthestOf 14 [(0, .ref h), (1, .int x1), (2, .int x2), (3, .int (x3 + 1))] [] G I L Q) else (wpI X B9_farthestOf 14 [(0, .ref h), (1, .int x1), (2, .int x3), (3, .int (x3 + 1))] [] G I L Q))))) : wpI X B9_farthestOf 14 [(0, .ref h), (1, .int x1), (2, .int x2), (3, .int x3)] [] G I L Q := by
  refine wp_iload_n (z := 3) (i := 3) (x := x3) 3 (by decide +kernel) rfl rfl ?_
  refine wp_aload_n (z := 0) (i := 0) (r := (some h)) 0 (by decide +kernel) rfl rfl ?_
  refine wp_getI (idx := 184) (by decide +kernel) fl9_184 rfl ok.1 ?_
  refine wp_icmp_ge (off := 36) (tgt := 55) (by decide +kernel) (by decide) (fun c1 => ?_) (fun c1 => ?_)
  · rw [if_pos c1] at H
    refine wp_iload_n (z := 1) (i := 1) (x := x1) 1 (by decide +kernel) rfl rfl ?_
    refine wp_if_eq (off := 15) (tgt := 71) (by decide +kernel) (by decide) (fun c2 => ?_) (fun c2 => ?_)
    · rw [if_pos c2] at H
      refine wp_iload_n (z := 2) (i := 2) (x := x2) 2 (by decide +kernel) rfl rfl ?_
      exact wp_iret (by decide +kernel) rfl (Nat.zero_le _) (Nat.zero_le _) ⟨_, _, _, rfl, rfl, H⟩
    · rw [if_neg c2] at H
      refine wp_aload_n (z := 0) (i := 0) (r := (some h)) 0 (by decide +kernel) rfl rfl ?_
      refine wp_getS (idx := 57) (q := (h + 16)) (by decide +kernel) fl9_57 rfl ok.1 (okr9_35 ok) ?_
      refine wp_bipush (z := 9) (v := 9) (by decide +kernel) (by decide) ?_
      refine wp_iload_n (z := 2) (i := 2) (x := x2) 2 (by decide +kernel) rfl rfl ?_
      refine wp_imul (by decide +kernel) ?_
      obtain ⟨o3, H⟩ := H
      refine wp_iald (j := (cl (9 * x2))) (by decide +kernel) (oks9_35 ok) o3 rfl ?_
      refine wp_goto (off := 4) (tgt := 72) (by decide +kernel) (by decide) ?_
      exact wp_iret (by decide +kernel) rfl (Nat.zero_le _) (Nat.zero_le _) ⟨_, _, _, rfl, rfl, H⟩
  · rw [if_neg c1] at H
    refine wp_aload_n (z := 0) (i := 0) (r := (some h)) 0 (by decide +kernel) rfl rfl ?_
    refine wp_getS (idx := 57) (q := (h + 16)) (by decide +kernel) fl9_57 rfl ok.1 (okr9_35 ok) ?_
    refine wp_bipush (z := 9) (v := 9) (by decide +kernel) (by decide) ?_
    refine wp_iload_n (z := 3) (i := 3) (x := x3) 3 (by decide +kernel) rfl rfl ?_
    refine wp_imul (by decide +kernel) ?_
    obtain ⟨o6, H⟩ := H
    refine wp_iald (j := (cl (9 * x3))) (by decide +kernel) (oks9_35 ok) o6 rfl ?_
    refine wp_aload_n (z := 0) (i := 0) (r := (some h)) 0 (by decide +kernel) rfl rfl ?_
    refine wp_getS (idx := 57) (q := (h + 16)) (by decide +kernel) fl9_57 rfl ok.1 (okr9_35 ok) ?_
    refine wp_bipush (z := 9) (v := 9) (by decide +kernel) (by decide) ?_
    refine wp_iload_n (z := 2) (i := 2) (x := x2) 2 (by decide +kernel) rfl rfl ?_
    refine wp_imul (by decide +kernel) ?_
    obtain ⟨o5, H⟩ := H
    refine wp_iald (j := (cl (9 * x2))) (by decide +kernel) (oks9_35 ok) o5 rfl ?_
    refine wp_icmp_le (off := 7) (tgt := 47) (by decide +kernel) (by decide) (fun c4 => ?_) (fun c4 => ?_)
    · rw [if_pos c4] at H
      refine wp_iload_n (z := 2) (i := 2) (x := x2) 2 (by decide +kernel) rfl rfl ?_
      refine wp_istore_n (z := 2) (i := 2) (lv' := [(2, .int x2), (0, .ref h), (1, .int x1), (3, .int x3)]) (by decide +kernel) rfl (by decide) rfl ?_
      refine wp_iinc (i := 3) (z := 1) (v := 1) (lv' := [(3, .int (x3 + 1)), (2, .int x2), (0, .ref h), (1, .int x1)]) 3 (by decide +kernel) rfl (by decide) (by decide) rfl ?_
      refine wp_goto (off := -38) (tgt := 14) (by decide +kernel) (by decide) ?_
      exact wp_sub [2, 3, 1, 0] rfl H
    · rw [if_neg c4] at H
      refine wp_iload_n (z := 3) (i := 3) (x := x3) 3 (by decide +kernel) rfl rfl ?_
      refine wp_goto (off := 4) (tgt := 48) (by decide +kernel) (by decide) ?_
      refine wp_istore_n (z := 2) (i := 2) (lv' := [(2, .int x3), (0, .ref h), (1, .int x1), (3, .int x3)]) (by decide +kernel) rfl (by decide) rfl ?_
      refine wp_iinc (i := 3) (z := 1) (v := 1) (lv' := [(3, .int (x3 + 1)), (2, .int x3), (0, .ref h), (1, .int x1)]) 3 (by decide +kernel) rfl (by decide) (by decide) rfl ?_
      refine wp_goto (off := -38) (tgt := 14) (by decide +kernel) (by decide) ?_
      exact wp_sub [2, 3, 1, 0] rfl H
/-! DeafWallModel.deadestOf(Z)I -/
set_option maxRecDepth 20000 in
theorem b9_deadestOf {X : XX} {G : GG} {I : Nat → Nat → Int32} {L : Nat → Nat → Int64} {h : Nat} {x1 : Int32} {Q : Int32 → (Nat → Nat → Int32) → (Nat → Nat → Int64) → Prop} (ok : OK9 G h) (H : wpI X B9_deadestOf 7 [(0, .ref h), (1, .int x1), (2, .int 0), (3, .int 0), (4, .int 0)] [] G I L Q) : wpI X B9_deadestOf 0 [(0, .ref h), (1, .int x1)] [] G I L Q := by
  refine wp_iconst (z := 0) (v := 0) (by decide +kernel) (by decide) ?_
  refine wp_istore_n (z := 2) (i := 2) (lv' := [(2, .int 0), (0, .ref h), (1, .int x1)]) (by decide +kernel) rfl (by decide) rfl ?_
  refine wp_iconst (z := 0) (v := 0) (by decide +kernel) (by decide) ?_
  refine wp_istore_n (z := 3) (i := 3) (lv' := [(3, .int 0), (2, .int 0), (0, .ref h), (1, .int x1)]) (by decide +kernel) rfl (by decide) rfl ?_
  refine wp_iconst (z := 0) (v := 0) (by decide +kernel) (by decide) ?_
  refine wp_istore (i := 4) (lv' := [(4, .int 0), (3, .int 0), (2, .int 0), (0, .ref h), (1, .int x1)]) (by decide +kernel) (by decide) rfl ?_
  exact wp_sub [3, 4, 2, 1, 0] rfl H
set_option maxRecDepth 20000 in
theorem b9_deadestOf_7 {X : XX} {G : GG} {I : Nat → Nat → Int32} {L : Nat → Nat → Int64} {h : Nat} {x1 : Int32} {x2 : Int32} {x3 : Int32} {x4 : Int32} {Q : Int32 → (Nat → Nat → Int32) → (Nat → Nat → Int64) → Prop} (ok : OK9 G h) (H : if (I h 13) ≤ x4 then (if x1 = (0 : Int32) then (Q x2 I L) else (Q x3 I L)) else (p9_deadTold I h x4 ∧ (p9_deadTold I h x2 ∧ (if (v9_deadTold I h x4) ≤ (v9_deadTold I h x2) then (p9_deadTold I h x4 ∧ (∀ u4, u4 = (x3 + (v9_deadTold I h x4)) → wpI X B9_deadestOf 7 [(0, .ref h), (1, .int x1), (2, .int x2), (3, .int u4), (4, .int (x4 + 1))] [] G I L Q)) else (p9_deadTold I h x4 ∧ (∀ u6, u6 = (x3 + (v9_deadTold I h x4)) → wpI X B9_deadestOf 7 [(0, .ref h), (1, .int x1), (2, .int x4), (3, .int u6), (4, .int (x4 + 1))] [] G I L Q)))))) : wpI X B9_deadestOf 7 [(0, .ref h), (1, .int x1), (2, .int x2), (3, .int x3), (4, .int x4)] [] G I L Q := by
  refine wp_iload (i := 4) (x := x4) 4 (by decide +kernel) rfl ?_
  refine wp_aload_n (z := 0) (i := 0) (r := (some h)) 0 (by decide +kernel) rfl rfl ?_
  refine wp_getI (idx := 184) (by decide +kernel) fl9_184 rfl ok.1 ?_
  refine wp_icmp_ge (off := 39) (tgt := 52) (by decide +kernel) (by decide) (fun c1 => ?_) (fun c1 => ?_)
  · rw [if_pos c1] at H
    refine wp_iload_n (z := 1) (i := 1) (x := x1) 1 (by decide +kernel) rfl rfl ?_
    refine wp_if_eq (off := 7) (tgt := 60) (by decide +kernel) (by decide) (fun c2 => ?_) (fun c2 => ?_)
    · rw [if_pos c2] at H
      refine wp_iload_n (z := 2) (i := 2) (x := x2) 2 (by decide +kernel) rfl rfl ?_
      exact wp_iret (by decide +kernel) rfl (Nat.zero_le _) (Nat.zero_le _) ⟨_, _, _, rfl, rfl, H⟩
    · rw [if_neg c2] at H
      refine wp_iload_n (z := 3) (i := 3) (x := x3) 3 (by decide +kernel) rfl rfl ?_
      refine wp_goto (off := 4) (tgt := 61) (by decide +kernel) (by decide) ?_
      exact wp_iret (by decide +kernel) rfl (Nat.zero_le _) (Nat.zero_le _) ⟨_, _, _, rfl, rfl, H⟩
  · rw [if_neg c1] at H
    refine wp_aload_n (z := 0) (i := 0) (r := (some h)) 0 (by decide +kernel) rfl rfl ?_
    refine wp_iload (i := 4) (x := x4) 4 (by decide +kernel) rfl ?_
    obtain ⟨o9, H⟩ := H
    refine wp_callV (idx := 217) (B2 := B9_deadTold) (As := [.int x4]) (a := h) (st := []) (by decide +kernel) m9_deadTold ml9_217 k9_deadTold e9_deadTold ck9 ok.1 (⟨Nat.le_of_ble_eq_true rfl, Nat.le_of_ble_eq_true rfl⟩ : rOK B9_deadestOf B9_deadTold) rfl (Nat.le_of_ble_eq_true rfl) (Nat.le_of_ble_eq_true rfl) ⟨Nat.le_of_ble_eq_true rfl, Nat.le_of_ble_eq_true rfl⟩ rfl (wp_mono (b9_deadTold (Q := (fun r I' L' => r = (v9_deadTold I h x4) ∧ I = I' ∧ L = L')) ok o9 ⟨rfl, rfl, rfl⟩) (fun v9 M9 hq9 => ?_))
    obtain ⟨_, _, _, rfl, rfl, rfl, rfl, rfl⟩ := hq9
    show wp X B9_deadestOf 22 [(0, .ref h), (1, .int x1), (2, .int x2), (3, .int x3), (4, .int x4)] [.int (v9_deadTold I h x4)] (G, I, L) 0 0 _
    refine wp_aload_n (z := 0) (i := 0) (r := (some h)) 0 (by decide +kernel) rfl rfl ?_
    refine wp_iload_n (z := 2) (i := 2) (x := x2) 2 (by decide +kernel) rfl rfl ?_
    obtain ⟨o8, H⟩ := H
    refine wp_callV (idx := 217) (B2 := B9_deadTold) (As := [.int x2]) (a := h) (st := [.int (v9_deadTold I h x4)]) (by decide +kernel) m9_deadTold ml9_217 k9_deadTold e9_deadTold ck9 ok.1 (⟨Nat.le_of_ble_eq_true rfl, Nat.le_of_ble_eq_true rfl⟩ : rOK B9_deadestOf B9_deadTold) rfl (Nat.le_of_ble_eq_true rfl) (Nat.le_of_ble_eq_true rfl) ⟨Nat.le_of_ble_eq_true rfl, Nat.le_of_ble_eq_true rfl⟩ rfl (wp_mono (b9_deadTold (Q := (fun r I' L' => r = (v9_deadTold I h x2) ∧ I = I' ∧ L = L')) ok o8 ⟨rfl, rfl, rfl⟩) (fun v9 M9 hq9 => ?_))
    obtain ⟨_, _, _, rfl, rfl, rfl, rfl, rfl⟩ := hq9
    show wp X B9_deadestOf 27 [(0, .ref h), (1, .int x1), (2, .int x2), (3, .int x3), (4, .int x4)] [.int (v9_deadTold I h x2), .int (v9_deadTold I h x4)] (G, I, L) 0 0 _
    refine wp_icmp_le (off := 8) (tgt := 35) (by decide +kernel) (by decide) (fun c3 => ?_) (fun c3 => ?_)
    · rw [if_pos c3] at H
      refine wp_iload_n (z := 2) (i := 2) (x := x2) 2 (by decide +kernel) rfl rfl ?_
      refine wp_istore_n (z := 2) (i := 2) (lv' := [(2, .int x2), (0, .ref h), (1, .int x1), (3, .int x3), (4, .int x4)]) (by decide +kernel) rfl (by decide) rfl ?_
      refine wp_iload_n (z := 3) (i := 3) (x := x3) 3 (by decide +kernel) rfl rfl ?_
      refine wp_aload_n (z := 0) (i := 0) (r := (some h)) 1 (by decide +kernel) rfl rfl ?_
      refine wp_iload (i := 4) (x := x4) 4 (by decide +kernel) rfl ?_
      obtain ⟨o5, H⟩ := H
      refine wp_callV (idx := 217) (B2 := B9_deadTold) (As := [.int x4]) (a := h) (st := [.int x3]) (by decide +kernel) m9_deadTold ml9_217 k9_deadTold e9_deadTold ck9 ok.1 (⟨Nat.le_of_ble_eq_true rfl, Nat.le_of_ble_eq_true rfl⟩ : rOK B9_deadestOf B9_deadTold) rfl (Nat.le_of_ble_eq_true rfl) (Nat.le_of_ble_eq_true rfl) ⟨Nat.le_of_ble_eq_true rfl, Nat.le_of_ble_eq_true rfl⟩ rfl (wp_mono (b9_deadTold (Q := (fun r I' L' => r = (v9_deadTold I h x4) ∧ I = I' ∧ L = L')) ok o5 ⟨rfl, rfl, rfl⟩) (fun v9 M9 hq9 => ?_))
      obtain ⟨_, _, _, rfl, rfl, rfl, rfl, rfl⟩ := hq9
      show wp X B9_deadestOf 44 [(2, .int x2), (0, .ref h), (1, .int x1), (3, .int x3), (4, .int x4)] [.int (v9_deadTold I h x4), .int x3] (G, I, L) 0 0 _
      refine wp_iadd (by decide +kernel) ?_
      refine wp_topi (fun u4 eu4 => ?_)
      replace H := H u4 eu4
      refine wp_istore_n (z := 3) (i := 3) (lv' := [(3, .int u4), (2, .int x2), (0, .ref h), (1, .int x1), (4, .int x4)]) (by decide +kernel) rfl (by decide) rfl ?_
      refine wp_iinc (i := 4) (z := 1) (v := 1) (lv' := [(4, .int (x4 + 1)), (3, .int u4), (2, .int x2), (0, .ref h), (1, .int x1)]) 4 (by decide +kernel) rfl (by decide) (by decide) rfl ?_
      refine wp_goto (off := -42) (tgt := 7) (by decide +kernel) (by decide) ?_
      exact wp_sub [3, 4, 2, 1, 0] rfl H
    · rw [if_neg c3] at H
      refine wp_iload (i := 4) (x := x4) 4 (by decide +kernel) rfl ?_
      refine wp_goto (off := 4) (tgt := 36) (by decide +kernel) (by decide) ?_
      refine wp_istore_n (z := 2) (i := 2) (lv' := [(2, .int x4), (0, .ref h), (1, .int x1), (3, .int x3), (4, .int x4)]) (by decide +kernel) rfl (by decide) rfl ?_
      refine wp_iload_n (z := 3) (i := 3) (x := x3) 3 (by decide +kernel) rfl rfl ?_
      refine wp_aload_n (z := 0) (i := 0) (r := (some h)) 1 (by decide +kernel) rfl rfl ?_
      refine wp_iload (i := 4) (x := x4) 4 (by decide +kernel) rfl ?_
      obtain ⟨o7, H⟩ := H
      refine wp_callV (idx := 217) (B2 := B9_deadTold) (As := [.int x4]) (a := h) (st := [.int x3]) (by decide +kernel) m9_deadTold ml9_217 k9_deadTold e9_deadTold ck9 ok.1 (⟨Nat.le_of_ble_eq_true rfl, Nat.le_of_ble_eq_true rfl⟩ : rOK B9_deadestOf B9_deadTold) rfl (Nat.le_of_ble_eq_true rfl) (Nat.le_of_ble_eq_true rfl) ⟨Nat.le_of_ble_eq_true rfl, Nat.le_of_ble_eq_true rfl⟩ rfl (wp_mono (b9_deadTold (Q := (fun r I' L' => r = (v9_deadTold I h x4) ∧ I = I' ∧ L = L')) ok o7 ⟨rfl, rfl, rfl⟩) (fun v9 M9 hq9 => ?_))
      obtain ⟨_, _, _, rfl, rfl, rfl, rfl, rfl⟩ := hq9
      show wp X B9_deadestOf 44 [(2, .int x4), (0, .ref h), (1, .int x1), (3, .int x3), (4, .int x4)] [.int (v9_deadTold I h x4), .int x3] (G, I, L) 0 0 _
      refine wp_iadd (by decide +kernel) ?_
      refine wp_topi (fun u6 eu6 => ?_)
      replace H := H u6 eu6
      refine wp_istore_n (z := 3) (i := 3) (lv' := [(3, .int u6), (2, .int x4), (0, .ref h), (1, .int x1), (4, .int x4)]) (by decide +kernel) rfl (by decide) rfl ?_
      refine wp_iinc (i := 4) (z := 1) (v := 1) (lv' := [(4, .int (x4 + 1)), (3, .int u6), (2, .int x4), (0, .ref h), (1, .int x1)]) 4 (by decide +kernel) rfl (by decide) (by decide) rfl ?_
      refine wp_goto (off := -42) (tgt := 7) (by decide +kernel) (by decide) ?_
      exact wp_sub [3, 4, 2, 1, 0] rfl H
/-! DeafWallModel.tenderestOf()I -/
set_option maxRecDepth 20000 in
theorem b9_tenderestOf {X : XX} {G : GG} {I : Nat → Nat → Int32} {L : Nat → Nat → Int64} {h : Nat} {Q : Int32 → (Nat → Nat → Int32) → (Nat → Nat → Int64) → Prop} (ok : OK9 G h) (H : if (I h 15) = (0 : Int32) then (wpI X B9_tenderestOf 15 [(0, .ref h), (1, .int (-1)), (2, .int 1)] [] G I L Q) else (wpI X B9_tenderestOf 15 [(0, .ref h), (1, .int 0), (2, .int 1)] [] G I L Q)) : wpI X B9_tenderestOf 0 [(0, .ref h)] [] G I L Q := by
  refine wp_aload_n (z := 0) (i := 0) (r := (some h)) 0 (by decide +kernel) rfl rfl ?_
  refine wp_getI (idx := 190) (by decide +kernel) fl9_190 rfl ok.1 ?_
  refine wp_if_ne (off := 7) (tgt := 11) (by decide +kernel) (by decide) (fun c1 => ?_) (fun c1 => ?_)
  · rw [if_neg c1] at H
    refine wp_iconst (z := 0) (v := 0) (by decide +kernel) (by decide) ?_
    refine wp_istore_n (z := 1) (i := 1) (lv' := [(1, .int 0), (0, .ref h)]) (by decide +kernel) rfl (by decide) rfl ?_
    refine wp_iconst (z := 1) (v := 1) (by decide +kernel) (by decide) ?_
    refine wp_istore_n (z := 2) (i := 2) (lv' := [(2, .int 1), (1, .int 0), (0, .ref h)]) (by decide +kernel) rfl (by decide) rfl ?_
    exact wp_sub [2, 1, 0] rfl H
  · rw [if_pos c1] at H
    refine wp_iconst (z := -1) (v := (-1)) (by decide +kernel) (by decide) ?_
    refine wp_goto (off := 4) (tgt := 12) (by decide +kernel) (by decide) ?_
    refine wp_istore_n (z := 1) (i := 1) (lv' := [(1, .int (-1)), (0, .ref h)]) (by decide +kernel) rfl (by decide) rfl ?_
    refine wp_iconst (z := 1) (v := 1) (by decide +kernel) (by decide) ?_
    refine wp_istore_n (z := 2) (i := 2) (lv' := [(2, .int 1), (1, .int (-1)), (0, .ref h)]) (by decide +kernel) rfl (by decide) rfl ?_
    exact wp_sub [2, 1, 0] rfl H
set_option maxRecDepth 20000 in
theorem b9_tenderestOf_15 {X : XX} {G : GG} {I : Nat → Nat → Int32} {L : Nat → Nat → Int64} {h : Nat} {x1 : Int32} {x2 : Int32} {Q : Int32 → (Nat → Nat → Int32) → (Nat → Nat → Int64) → Prop} (ok : OK9 G h) (H : if (I h 15) ≤ x2 then (Q x1 I L) else (p9_tenderOf I h x2 ∧ (p9_tenderOf I h x1 ∧ (if (v9_tenderOf I h x1) ≤ (v9_tenderOf I h x2) then (wpI X B9_tenderestOf 15 [(0, .ref h), (1, .int x1), (2, .int (x2 + 1))] [] G I L Q) else (wpI X B9_tenderestOf 15 [(0, .ref h), (1, .int x2), (2, .int (x2 + 1))] [] G I L Q))))) : wpI X B9_tenderestOf 15 [(0, .ref h), (1, .int x1), (2, .int x2)] [] G I L Q := by
  refine wp_iload_n (z := 2) (i := 2) (x := x2) 2 (by decide +kernel) rfl rfl ?_
  refine wp_aload_n (z := 0) (i := 0) (r := (some h)) 0 (by decide +kernel) rfl rfl ?_
  refine wp_getI (idx := 190) (by decide +kernel) fl9_190 rfl ok.1 ?_
  refine wp_icmp_ge (off := 28) (tgt := 48) (by decide +kernel) (by decide) (fun c1 => ?_) (fun c1 => ?_)
  · rw [if_pos c1] at H
    refine wp_iload_n (z := 1) (i := 1) (x := x1) 1 (by decide +kernel) rfl rfl ?_
    exact wp_iret (by decide +kernel) rfl (Nat.zero_le _) (Nat.zero_le _) ⟨_, _, _, rfl, rfl, H⟩
  · rw [if_neg c1] at H
    refine wp_aload_n (z := 0) (i := 0) (r := (some h)) 0 (by decide +kernel) rfl rfl ?_
    refine wp_iload_n (z := 2) (i := 2) (x := x2) 2 (by decide +kernel) rfl rfl ?_
    obtain ⟨o4, H⟩ := H
    refine wp_callV (idx := 205) (B2 := B9_tenderOf) (As := [.int x2]) (a := h) (st := []) (by decide +kernel) m9_tenderOf ml9_205 k9_tenderOf e9_tenderOf ck9 ok.1 (⟨Nat.le_of_ble_eq_true rfl, Nat.le_of_ble_eq_true rfl⟩ : rOK B9_tenderestOf B9_tenderOf) rfl (Nat.le_of_ble_eq_true rfl) (Nat.le_of_ble_eq_true rfl) ⟨Nat.le_of_ble_eq_true rfl, Nat.le_of_ble_eq_true rfl⟩ rfl (wp_mono (b9_tenderOf (Q := (fun r I' L' => r = (v9_tenderOf I h x2) ∧ I = I' ∧ L = L')) ok o4 ⟨rfl, rfl, rfl⟩) (fun v9 M9 hq9 => ?_))
    obtain ⟨_, _, _, rfl, rfl, rfl, rfl, rfl⟩ := hq9
    show wp X B9_tenderestOf 28 [(0, .ref h), (1, .int x1), (2, .int x2)] [.int (v9_tenderOf I h x2)] (G, I, L) 0 0 _
    refine wp_aload_n (z := 0) (i := 0) (r := (some h)) 0 (by decide +kernel) rfl rfl ?_
    refine wp_iload_n (z := 1) (i := 1) (x := x1) 1 (by decide +kernel) rfl rfl ?_
    obtain ⟨o3, H⟩ := H
    refine wp_callV (idx := 205) (B2 := B9_tenderOf) (As := [.int x1]) (a := h) (st := [.int (v9_tenderOf I h x2)]) (by decide +kernel) m9_tenderOf ml9_205 k9_tenderOf e9_tenderOf ck9 ok.1 (⟨Nat.le_of_ble_eq_true rfl, Nat.le_of_ble_eq_true rfl⟩ : rOK B9_tenderestOf B9_tenderOf) rfl (Nat.le_of_ble_eq_true rfl) (Nat.le_of_ble_eq_true rfl) ⟨Nat.le_of_ble_eq_true rfl, Nat.le_of_ble_eq_true rfl⟩ rfl (wp_mono (b9_tenderOf (Q := (fun r I' L' => r = (v9_tenderOf I h x1) ∧ I = I' ∧ L = L')) ok o3 ⟨rfl, rfl, rfl⟩) (fun v9 M9 hq9 => ?_))
    obtain ⟨_, _, _, rfl, rfl, rfl, rfl, rfl⟩ := hq9
    show wp X B9_tenderestOf 33 [(0, .ref h), (1, .int x1), (2, .int x2)] [.int (v9_tenderOf I h x1), .int (v9_tenderOf I h x2)] (G, I, L) 0 0 _
    refine wp_icmp_ge (off := 7) (tgt := 40) (by decide +kernel) (by decide) (fun c2 => ?_) (fun c2 => ?_)
    · rw [if_pos c2] at H
      refine wp_iload_n (z := 1) (i := 1) (x := x1) 1 (by decide +kernel) rfl rfl ?_
      refine wp_istore_n (z := 1) (i := 1) (lv' := [(1, .int x1), (0, .ref h), (2, .int x2)]) (by decide +kernel) rfl (by decide) rfl ?_
      refine wp_iinc (i := 2) (z := 1) (v := 1) (lv' := [(2, .int (x2 + 1)), (1, .int x1), (0, .ref h)]) 2 (by decide +kernel) rfl (by decide) (by decide) rfl ?_
      refine wp_goto (off := -30) (tgt := 15) (by decide +kernel) (by decide) ?_
      exact wp_sub [2, 1, 0] rfl H
    · rw [if_neg c2] at H
      refine wp_iload_n (z := 2) (i := 2) (x := x2) 2 (by decide +kernel) rfl rfl ?_
      refine wp_goto (off := 4) (tgt := 41) (by decide +kernel) (by decide) ?_
      refine wp_istore_n (z := 1) (i := 1) (lv' := [(1, .int x2), (0, .ref h), (2, .int x2)]) (by decide +kernel) rfl (by decide) rfl ?_
      refine wp_iinc (i := 2) (z := 1) (v := 1) (lv' := [(2, .int (x2 + 1)), (1, .int x2), (0, .ref h)]) 2 (by decide +kernel) rfl (by decide) (by decide) rfl ?_
      refine wp_goto (off := -30) (tgt := 15) (by decide +kernel) (by decide) ?_
      exact wp_sub [2, 1, 0] rfl H
/-! DeafWallModel.sharingOf()I -/
set_option maxRecDepth 20000 in
theorem b9_sharingOf {X : XX} {G : GG} {I : Nat → Nat → Int32} {L : Nat → Nat → Int64} {h : Nat} {Q : Int32 → (Nat → Nat → Int32) → (Nat → Nat → Int64) → Prop} (ok : OK9 G h) (H : wpI X B9_sharingOf 4 [(0, .ref h), (1, .int 0), (2, .int 0)] [] G I L Q) : wpI X B9_sharingOf 0 [(0, .ref h)] [] G I L Q := by
  refine wp_iconst (z := 0) (v := 0) (by decide +kernel) (by decide) ?_
  refine wp_istore_n (z := 1) (i := 1) (lv' := [(1, .int 0), (0, .ref h)]) (by decide +kernel) rfl (by decide) rfl ?_
  refine wp_iconst (z := 0) (v := 0) (by decide +kernel) (by decide) ?_
  refine wp_istore_n (z := 2) (i := 2) (lv' := [(2, .int 0), (1, .int 0), (0, .ref h)]) (by decide +kernel) rfl (by decide) rfl ?_
  exact wp_sub [2, 1, 0] rfl H
set_option maxRecDepth 20000 in
theorem b9_sharingOf_4 {X : XX} {G : GG} {I : Nat → Nat → Int32} {L : Nat → Nat → Int64} {h : Nat} {x1 : Int32} {x2 : Int32} {Q : Int32 → (Nat → Nat → Int32) → (Nat → Nat → Int64) → Prop} (ok : OK9 G h) (H : if (I h 15) ≤ x2 then (Q x1 I L) else (wpI X B9_sharingOf 14 [(0, .ref h), (1, .int x1), (2, .int x2), (3, .int 0)] [] G I L Q)) : wpI X B9_sharingOf 4 [(0, .ref h), (1, .int x1), (2, .int x2)] [] G I L Q := by
  refine wp_iload_n (z := 2) (i := 2) (x := x2) 2 (by decide +kernel) rfl rfl ?_
  refine wp_aload_n (z := 0) (i := 0) (r := (some h)) 0 (by decide +kernel) rfl rfl ?_
  refine wp_getI (idx := 190) (by decide +kernel) fl9_190 rfl ok.1 ?_
  refine wp_icmp_ge (off := 43) (tgt := 52) (by decide +kernel) (by decide) (fun c1 => ?_) (fun c1 => ?_)
  · rw [if_pos c1] at H
    refine wp_iload_n (z := 1) (i := 1) (x := x1) 1 (by decide +kernel) rfl rfl ?_
    exact wp_iret (by decide +kernel) rfl (Nat.zero_le _) (Nat.zero_le _) ⟨_, _, _, rfl, rfl, H⟩
  · rw [if_neg c1] at H
    refine wp_iconst (z := 0) (v := 0) (by decide +kernel) (by decide) ?_
    refine wp_istore_n (z := 3) (i := 3) (lv' := [(3, .int 0), (0, .ref h), (1, .int x1), (2, .int x2)]) (by decide +kernel) rfl (by decide) rfl ?_
    exact wp_sub [1, 2, 3, 0] rfl H
set_option maxRecDepth 20000 in
theorem b9_sharingOf_14 {X : XX} {G : GG} {I : Nat → Nat → Int32} {L : Nat → Nat → Int64} {h : Nat} {x1 : Int32} {x2 : Int32} {x3 : Int32} {Q : Int32 → (Nat → Nat → Int32) → (Nat → Nat → Int64) → Prop} (ok : OK9 G h) (H : if x2 ≤ x3 then (wpI X B9_sharingOf 4 [(0, .ref h), (1, .int x1), (2, .int (x2 + 1))] [] G I L Q) else (p9_cellTold0 I h x2 ∧ (p9_cellTold0 I h x3 ∧ (if (v9_cellTold0 I h x2) = (v9_cellTold0 I h x3) then (wpI X B9_sharingOf 14 [(0, .ref h), (1, .int (x1 + 1)), (2, .int x2), (3, .int (x3 + 1))] [] G I L Q) else (wpI X B9_sharingOf 14 [(0, .ref h), (1, .int (x1 + 0)), (2, .int x2), (3, .int (x3 + 1))] [] G I L Q))))) : wpI X B9_sharingOf 14 [(0, .ref h), (1, .int x1), (2, .int x2), (3, .int x3)] [] G I L Q := by
  refine wp_iload_n (z := 3) (i := 3) (x := x3) 3 (by decide +kernel) rfl rfl ?_
  refine wp_iload_n (z := 2) (i := 2) (x := x2) 2 (by decide +kernel) rfl rfl ?_
  refine wp_icmp_ge (off := 30) (tgt := 46) (by decide +kernel) (by decide) (fun c1 => ?_) (fun c1 => ?_)
  · rw [if_pos c1] at H
    refine wp_iinc (i := 2) (z := 1) (v := 1) (lv' := [(2, .int (x2 + 1)), (0, .ref h), (1, .int x1), (3, .int x3)]) 2 (by decide +kernel) rfl (by decide) (by decide) rfl ?_
    refine wp_goto (off := -45) (tgt := 4) (by decide +kernel) (by decide) ?_
    exact wp_sub [1, 2, 0] rfl H
  · rw [if_neg c1] at H
    refine wp_iload_n (z := 1) (i := 1) (x := x1) 1 (by decide +kernel) rfl rfl ?_
    refine wp_aload_n (z := 0) (i := 0) (r := (some h)) 0 (by decide +kernel) rfl rfl ?_
    refine wp_iload_n (z := 2) (i := 2) (x := x2) 2 (by decide +kernel) rfl rfl ?_
    obtain ⟨o4, H⟩ := H
    refine wp_callV (idx := 202) (B2 := B9_cellTold0) (As := [.int x2]) (a := h) (st := [.int x1]) (by decide +kernel) m9_cellTold0 ml9_202 k9_cellTold0 e9_cellTold0 ck9 ok.1 (⟨Nat.le_of_ble_eq_true rfl, Nat.le_of_ble_eq_true rfl⟩ : rOK B9_sharingOf B9_cellTold0) rfl (Nat.le_of_ble_eq_true rfl) (Nat.le_of_ble_eq_true rfl) ⟨Nat.le_of_ble_eq_true rfl, Nat.le_of_ble_eq_true rfl⟩ rfl (wp_mono (b9_cellTold0 (Q := (fun r I' L' => r = (v9_cellTold0 I h x2) ∧ I = I' ∧ L = L')) ok o4 ⟨rfl, rfl, rfl⟩) (fun v9 M9 hq9 => ?_))
    obtain ⟨_, _, _, rfl, rfl, rfl, rfl, rfl⟩ := hq9
    show wp X B9_sharingOf 25 [(0, .ref h), (1, .int x1), (2, .int x2), (3, .int x3)] [.int (v9_cellTold0 I h x2), .int x1] (G, I, L) 0 0 _
    refine wp_aload_n (z := 0) (i := 0) (r := (some h)) 0 (by decide +kernel) rfl rfl ?_
    refine wp_iload_n (z := 3) (i := 3) (x := x3) 3 (by decide +kernel) rfl rfl ?_
    obtain ⟨o3, H⟩ := H
    refine wp_callV (idx := 202) (B2 := B9_cellTold0) (As := [.int x3]) (a := h) (st := [.int (v9_cellTold0 I h x2), .int x1]) (by decide +kernel) m9_cellTold0 ml9_202 k9_cellTold0 e9_cellTold0 ck9 ok.1 (⟨Nat.le_of_ble_eq_true rfl, Nat.le_of_ble_eq_true rfl⟩ : rOK B9_sharingOf B9_cellTold0) rfl (Nat.le_of_ble_eq_true rfl) (Nat.le_of_ble_eq_true rfl) ⟨Nat.le_of_ble_eq_true rfl, Nat.le_of_ble_eq_true rfl⟩ rfl (wp_mono (b9_cellTold0 (Q := (fun r I' L' => r = (v9_cellTold0 I h x3) ∧ I = I' ∧ L = L')) ok o3 ⟨rfl, rfl, rfl⟩) (fun v9 M9 hq9 => ?_))
    obtain ⟨_, _, _, rfl, rfl, rfl, rfl, rfl⟩ := hq9
    show wp X B9_sharingOf 30 [(0, .ref h), (1, .int x1), (2, .int x2), (3, .int x3)] [.int (v9_cellTold0 I h x3), .int (v9_cellTold0 I h x2), .int x1] (G, I, L) 0 0 _
    refine wp_icmp_ne (off := 7) (tgt := 37) (by decide +kernel) (by decide) (fun c2 => ?_) (fun c2 => ?_)
    · rw [if_neg c2] at H
      refine wp_iconst (z := 0) (v := 0) (by decide +kernel) (by decide) ?_
      refine wp_iadd (by decide +kernel) ?_
      refine wp_istore_n (z := 1) (i := 1) (lv' := [(1, .int (x1 + 0)), (0, .ref h), (2, .int x2), (3, .int x3)]) (by decide +kernel) rfl (by decide) rfl ?_
      refine wp_iinc (i := 3) (z := 1) (v := 1) (lv' := [(3, .int (x3 + 1)), (1, .int (x1 + 0)), (0, .ref h), (2, .int x2)]) 3 (by decide +kernel) rfl (by decide) (by decide) rfl ?_
      refine wp_goto (off := -29) (tgt := 14) (by decide +kernel) (by decide) ?_
      exact wp_sub [2, 1, 3, 0] rfl H
    · rw [if_pos c2] at H
      refine wp_iconst (z := 1) (v := 1) (by decide +kernel) (by decide) ?_
      refine wp_goto (off := 4) (tgt := 38) (by decide +kernel) (by decide) ?_
      refine wp_iadd (by decide +kernel) ?_
      refine wp_istore_n (z := 1) (i := 1) (lv' := [(1, .int (x1 + 1)), (0, .ref h), (2, .int x2), (3, .int x3)]) (by decide +kernel) rfl (by decide) rfl ?_
      refine wp_iinc (i := 3) (z := 1) (v := 1) (lv' := [(3, .int (x3 + 1)), (1, .int (x1 + 1)), (0, .ref h), (2, .int x2)]) 3 (by decide +kernel) rfl (by decide) (by decide) rfl ?_
      refine wp_goto (off := -29) (tgt := 14) (by decide +kernel) (by decide) ?_
      exact wp_sub [2, 1, 3, 0] rfl H
/-! DeafWallModel.seamsOf()I -/
set_option maxRecDepth 20000 in
theorem b9_seamsOf {X : XX} {G : GG} {I : Nat → Nat → Int32} {L : Nat → Nat → Int64} {h : Nat} {Q : Int32 → (Nat → Nat → Int32) → (Nat → Nat → Int64) → Prop} (ok : OK9 G h) (H : wpI X B9_seamsOf 4 [(0, .ref h), (1, .int 0), (2, .int 0)] [] G I L Q) : wpI X B9_seamsOf 0 [(0, .ref h)] [] G I L Q := by
  refine wp_iconst (z := 0) (v := 0) (by decide +kernel) (by decide) ?_
  refine wp_istore_n (z := 1) (i := 1) (lv' := [(1, .int 0), (0, .ref h)]) (by decide +kernel) rfl (by decide) rfl ?_
  refine wp_iconst (z := 0) (v := 0) (by decide +kernel) (by decide) ?_
  refine wp_istore_n (z := 2) (i := 2) (lv' := [(2, .int 0), (1, .int 0), (0, .ref h)]) (by decide +kernel) rfl (by decide) rfl ?_
  exact wp_sub [2, 1, 0] rfl H
set_option maxRecDepth 20000 in
theorem b9_seamsOf_4 {X : XX} {G : GG} {I : Nat → Nat → Int32} {L : Nat → Nat → Int64} {h : Nat} {x1 : Int32} {x2 : Int32} {Q : Int32 → (Nat → Nat → Int32) → (Nat → Nat → Int64) → Prop} (ok : OK9 G h) (H : if (I h 13) ≤ x2 then (Q x1 I L) else (wpI X B9_seamsOf 14 [(0, .ref h), (1, .int x1), (2, .int x2), (3, .int 0)] [] G I L Q)) : wpI X B9_seamsOf 4 [(0, .ref h), (1, .int x1), (2, .int x2)] [] G I L Q := by
  refine wp_iload_n (z := 2) (i := 2) (x := x2) 2 (by decide +kernel) rfl rfl ?_
  refine wp_aload_n (z := 0) (i := 0) (r := (some h)) 0 (by decide +kernel) rfl rfl ?_
  refine wp_getI (idx := 184) (by decide +kernel) fl9_184 rfl ok.1 ?_
  refine wp_icmp_ge (off := 52) (tgt := 61) (by decide +kernel) (by decide) (fun c1 => ?_) (fun c1 => ?_)
  · rw [if_pos c1] at H
    refine wp_iload_n (z := 1) (i := 1) (x := x1) 1 (by decide +kernel) rfl rfl ?_
    exact wp_iret (by decide +kernel) rfl (Nat.zero_le _) (Nat.zero_le _) ⟨_, _, _, rfl, rfl, H⟩
  · rw [if_neg c1] at H
    refine wp_iconst (z := 0) (v := 0) (by decide +kernel) (by decide) ?_
    refine wp_istore_n (z := 3) (i := 3) (lv' := [(3, .int 0), (0, .ref h), (1, .int x1), (2, .int x2)]) (by decide +kernel) rfl (by decide) rfl ?_
    exact wp_sub [1, 2, 3, 0] rfl H
set_option maxRecDepth 20000 in
theorem b9_seamsOf_14 {X : XX} {G : GG} {I : Nat → Nat → Int32} {L : Nat → Nat → Int64} {h : Nat} {x1 : Int32} {x2 : Int32} {x3 : Int32} {Q : Int32 → (Nat → Nat → Int32) → (Nat → Nat → Int64) → Prop} (ok : OK9 G h) (H : if x2 ≤ x3 then (wpI X B9_seamsOf 4 [(0, .ref h), (1, .int x1), (2, .int (x2 + 1))] [] G I L Q) else (p9_areBeside I h x2 x3 ∧ (if (v9_areBeside I h x2 x3) = (0 : Int32) then (wpI X B9_seamsOf 14 [(0, .ref h), (1, .int (x1 + 0)), (2, .int x2), (3, .int (x3 + 1))] [] G I L Q) else (p9_deadTold I h x2 ∧ (p9_deadTold I h x3 ∧ (if (v9_deadTold I h x2) = (v9_deadTold I h x3) then (wpI X B9_seamsOf 14 [(0, .ref h), (1, .int (x1 + 0)), (2, .int x2), (3, .int (x3 + 1))] [] G I L Q) else (wpI X B9_seamsOf 14 [(0, .ref h), (1, .int (x1 + 1)), (2, .int x2), (3, .int (x3 + 1))] [] G I L Q))))))) : wpI X B9_seamsOf 14 [(0, .ref h), (1, .int x1), (2, .int x2), (3, .int x3)] [] G I L Q := by
  refine wp_iload_n (z := 3) (i := 3) (x := x3) 3 (by decide +kernel) rfl rfl ?_
  refine wp_iload_n (z := 2) (i := 2) (x := x2) 2 (by decide +kernel) rfl rfl ?_
  refine wp_icmp_ge (off := 39) (tgt := 55) (by decide +kernel) (by decide) (fun c1 => ?_) (fun c1 => ?_)
  · rw [if_pos c1] at H
    refine wp_iinc (i := 2) (z := 1) (v := 1) (lv' := [(2, .int (x2 + 1)), (0, .ref h), (1, .int x1), (3, .int x3)]) 2 (by decide +kernel) rfl (by decide) (by decide) rfl ?_
    refine wp_goto (off := -54) (tgt := 4) (by decide +kernel) (by decide) ?_
    exact wp_sub [1, 2, 0] rfl H
  · rw [if_neg c1] at H
    refine wp_iload_n (z := 1) (i := 1) (x := x1) 1 (by decide +kernel) rfl rfl ?_
    refine wp_aload_n (z := 0) (i := 0) (r := (some h)) 0 (by decide +kernel) rfl rfl ?_
    refine wp_iload_n (z := 2) (i := 2) (x := x2) 2 (by decide +kernel) rfl rfl ?_
    refine wp_iload_n (z := 3) (i := 3) (x := x3) 3 (by decide +kernel) rfl rfl ?_
    obtain ⟨o6, H⟩ := H
    refine wp_callV (idx := 238) (B2 := B9_areBeside) (As := [.int x2, .int x3]) (a := h) (st := [.int x1]) (by decide +kernel) m9_areBeside ml9_238 k9_areBeside e9_areBeside ck9 ok.1 (⟨Nat.le_of_ble_eq_true rfl, Nat.le_of_ble_eq_true rfl⟩ : rOK B9_seamsOf B9_areBeside) rfl (Nat.le_of_ble_eq_true rfl) (Nat.le_of_ble_eq_true rfl) ⟨Nat.le_of_ble_eq_true rfl, Nat.le_of_ble_eq_true rfl⟩ rfl (wp_mono (b9_areBeside (Q := (fun r I' L' => r = (v9_areBeside I h x2 x3) ∧ I = I' ∧ L = L')) ok o6 ⟨rfl, rfl, rfl⟩) (fun v9 M9 hq9 => ?_))
    obtain ⟨_, _, _, rfl, rfl, rfl, rfl, rfl⟩ := hq9
    show wp X B9_seamsOf 26 [(0, .ref h), (1, .int x1), (2, .int x2), (3, .int x3)] [.int (v9_areBeside I h x2 x3), .int x1] (G, I, L) 0 0 _
    refine wp_if_eq (off := 20) (tgt := 46) (by decide +kernel) (by decide) (fun c2 => ?_) (fun c2 => ?_)
    · rw [if_pos c2] at H
      refine wp_iconst (z := 0) (v := 0) (by decide +kernel) (by decide) ?_
      refine wp_iadd (by decide +kernel) ?_
      refine wp_istore_n (z := 1) (i := 1) (lv' := [(1, .int (x1 + 0)), (0, .ref h), (2, .int x2), (3, .int x3)]) (by decide +kernel) rfl (by decide) rfl ?_
      refine wp_iinc (i := 3) (z := 1) (v := 1) (lv' := [(3, .int (x3 + 1)), (1, .int (x1 + 0)), (0, .ref h), (2, .int x2)]) 3 (by decide +kernel) rfl (by decide) (by decide) rfl ?_
      refine wp_goto (off := -38) (tgt := 14) (by decide +kernel) (by decide) ?_
      exact wp_sub [2, 1, 3, 0] rfl H
    · rw [if_neg c2] at H
      refine wp_aload_n (z := 0) (i := 0) (r := (some h)) 0 (by decide +kernel) rfl rfl ?_
      refine wp_iload_n (z := 2) (i := 2) (x := x2) 2 (by decide +kernel) rfl rfl ?_
      obtain ⟨o5, H⟩ := H
      refine wp_callV (idx := 217) (B2 := B9_deadTold) (As := [.int x2]) (a := h) (st := [.int x1]) (by decide +kernel) m9_deadTold ml9_217 k9_deadTold e9_deadTold ck9 ok.1 (⟨Nat.le_of_ble_eq_true rfl, Nat.le_of_ble_eq_true rfl⟩ : rOK B9_seamsOf B9_deadTold) rfl (Nat.le_of_ble_eq_true rfl) (Nat.le_of_ble_eq_true rfl) ⟨Nat.le_of_ble_eq_true rfl, Nat.le_of_ble_eq_true rfl⟩ rfl (wp_mono (b9_deadTold (Q := (fun r I' L' => r = (v9_deadTold I h x2) ∧ I = I' ∧ L = L')) ok o5 ⟨rfl, rfl, rfl⟩) (fun v9 M9 hq9 => ?_))
      obtain ⟨_, _, _, rfl, rfl, rfl, rfl, rfl⟩ := hq9
      show wp X B9_seamsOf 34 [(0, .ref h), (1, .int x1), (2, .int x2), (3, .int x3)] [.int (v9_deadTold I h x2), .int x1] (G, I, L) 0 0 _
      refine wp_aload_n (z := 0) (i := 0) (r := (some h)) 0 (by decide +kernel) rfl rfl ?_
      refine wp_iload_n (z := 3) (i := 3) (x := x3) 3 (by decide +kernel) rfl rfl ?_
      obtain ⟨o4, H⟩ := H
      refine wp_callV (idx := 217) (B2 := B9_deadTold) (As := [.int x3]) (a := h) (st := [.int (v9_deadTold I h x2), .int x1]) (by decide +kernel) m9_deadTold ml9_217 k9_deadTold e9_deadTold ck9 ok.1 (⟨Nat.le_of_ble_eq_true rfl, Nat.le_of_ble_eq_true rfl⟩ : rOK B9_seamsOf B9_deadTold) rfl (Nat.le_of_ble_eq_true rfl) (Nat.le_of_ble_eq_true rfl) ⟨Nat.le_of_ble_eq_true rfl, Nat.le_of_ble_eq_true rfl⟩ rfl (wp_mono (b9_deadTold (Q := (fun r I' L' => r = (v9_deadTold I h x3) ∧ I = I' ∧ L = L')) ok o4 ⟨rfl, rfl, rfl⟩) (fun v9 M9 hq9 => ?_))
      obtain ⟨_, _, _, rfl, rfl, rfl, rfl, rfl⟩ := hq9
      show wp X B9_seamsOf 39 [(0, .ref h), (1, .int x1), (2, .int x2), (3, .int x3)] [.int (v9_deadTold I h x3), .int (v9_deadTold I h x2), .int x1] (G, I, L) 0 0 _
      refine wp_icmp_eq (off := 7) (tgt := 46) (by decide +kernel) (by decide) (fun c3 => ?_) (fun c3 => ?_)
      · rw [if_pos c3] at H
        refine wp_iconst (z := 0) (v := 0) (by decide +kernel) (by decide) ?_
        refine wp_iadd (by decide +kernel) ?_
        refine wp_istore_n (z := 1) (i := 1) (lv' := [(1, .int (x1 + 0)), (0, .ref h), (2, .int x2), (3, .int x3)]) (by decide +kernel) rfl (by decide) rfl ?_
        refine wp_iinc (i := 3) (z := 1) (v := 1) (lv' := [(3, .int (x3 + 1)), (1, .int (x1 + 0)), (0, .ref h), (2, .int x2)]) 3 (by decide +kernel) rfl (by decide) (by decide) rfl ?_
        refine wp_goto (off := -38) (tgt := 14) (by decide +kernel) (by decide) ?_
        exact wp_sub [2, 1, 3, 0] rfl H
      · rw [if_neg c3] at H
        refine wp_iconst (z := 1) (v := 1) (by decide +kernel) (by decide) ?_
        refine wp_goto (off := 4) (tgt := 47) (by decide +kernel) (by decide) ?_
        refine wp_iadd (by decide +kernel) ?_
        refine wp_istore_n (z := 1) (i := 1) (lv' := [(1, .int (x1 + 1)), (0, .ref h), (2, .int x2), (3, .int x3)]) (by decide +kernel) rfl (by decide) rfl ?_
        refine wp_iinc (i := 3) (z := 1) (v := 1) (lv' := [(3, .int (x3 + 1)), (1, .int (x1 + 1)), (0, .ref h), (2, .int x2)]) 3 (by decide +kernel) rfl (by decide) (by decide) rfl ?_
        refine wp_goto (off := -38) (tgt := 14) (by decide +kernel) (by decide) ?_
        exact wp_sub [2, 1, 3, 0] rfl H
/-! DeafWallModel.shade(II)I -/
set_option maxRecDepth 20000 in
theorem b9_shade {X : XX} {G : GG} {I : Nat → Nat → Int32} {L : Nat → Nat → Int64} {h : Nat} {x1 : Int32} {x2 : Int32} {Q : Int32 → (Nat → Nat → Int32) → (Nat → Nat → Int64) → Prop} (ok : OK9 G h) (H : wpI X B9_isWall 0 [(0, .ref h), (1, .int x1)] [] G I L (fun r3 I1 L2 => if r3 = (0 : Int32) then (Q (-2) I1 L2) else (if x2 = 0 then (if x2 = 1 then (wpI X B9_shadowOf 0 [(0, .ref h), (1, .int 1)] [] G I1 L2 (fun r12 I10 L11 => Q r12 I10 L11)) else (wpI X B9_shadowOf 0 [(0, .ref h), (1, .int 0)] [] G I1 L2 (fun r9 I7 L8 => Q r9 I7 L8))) else (if x2 = 1 then (if x2 = 1 then (wpI X B9_shadowOf 0 [(0, .ref h), (1, .int 1)] [] G I1 L2 (fun r20 I18 L19 => Q r20 I18 L19)) else (wpI X B9_shadowOf 0 [(0, .ref h), (1, .int 0)] [] G I1 L2 (fun r17 I15 L16 => Q r17 I15 L16))) else (if x2 = 2 then (if x2 = 3 then (wpI X B9_farthestOf 0 [(0, .ref h), (1, .int 1)] [] G I1 L2 (fun r28 I26 L27 => Q r28 I26 L27)) else (wpI X B9_farthestOf 0 [(0, .ref h), (1, .int 0)] [] G I1 L2 (fun r25 I23 L24 => Q r25 I23 L24))) else (if x2 = 3 then (if x2 = 3 then (wpI X B9_farthestOf 0 [(0, .ref h), (1, .int 1)] [] G I1 L2 (fun r36 I34 L35 => Q r36 I34 L35)) else (wpI X B9_farthestOf 0 [(0, .ref h), (1, .int 0)] [] G I1 L2 (fun r33 I31 L32 => Q r33 I31 L32))) else (if x2 = 4 then (if x2 = 5 then (wpI X B9_deadestOf 0 [(0, .ref h), (1, .int 1)] [] G I1 L2 (fun r44 I42 L43 => Q r44 I42 L43)) else (wpI X B9_deadestOf 0 [(0, .ref h), (1, .int 0)] [] G I1 L2 (fun r41 I39 L40 => Q r41 I39 L40))) else (if x2 = 5 then (if x2 = 5 then (wpI X B9_deadestOf 0 [(0, .ref h), (1, .int 1)] [] G I1 L2 (fun r52 I50 L51 => Q r52 I50 L51)) else (wpI X B9_deadestOf 0 [(0, .ref h), (1, .int 0)] [] G I1 L2 (fun r49 I47 L48 => Q r49 I47 L48))) else (if x2 = 6 then (wpI X B9_tenderestOf 0 [(0, .ref h)] [] G I1 L2 (fun r56 I54 L55 => Q r56 I54 L55)) else (if x2 = 7 then (wpI X B9_sharingOf 0 [(0, .ref h)] [] G I1 L2 (fun r60 I58 L59 => Q r60 I58 L59)) else (if x2 = 8 then (wpI X B9_seamsOf 0 [(0, .ref h)] [] G I1 L2 (fun r64 I62 L63 => Q r64 I62 L63)) else (Q (-2) I1 L2)))))))))))) : wpI X B9_shade 0 [(0, .ref h), (1, .int x1), (2, .int x2)] [] G I L Q := by
  refine wp_aload_n (z := 0) (i := 0) (r := (some h)) 0 (by decide +kernel) rfl rfl ?_
  refine wp_iload_n (z := 1) (i := 1) (x := x1) 1 (by decide +kernel) rfl rfl ?_
  refine wp_callV (idx := 196) (B2 := B9_isWall) (As := [.int x1]) (a := h) (st := []) (by decide +kernel) m9_isWall ml9_196 k9_isWall e9_isWall ck9 ok.1 (⟨Nat.le_of_ble_eq_true rfl, Nat.le_of_ble_eq_true rfl⟩ : rOK B9_shade B9_isWall) rfl (Nat.le_of_ble_eq_true rfl) (Nat.le_of_ble_eq_true rfl) ⟨Nat.le_of_ble_eq_true rfl, Nat.le_of_ble_eq_true rfl⟩ rfl (wp_mono H (fun v9 M9 hq9 => ?_))
  clear H
  obtain ⟨r3, I1, L2, rfl, rfl, H⟩ := hq9
  show wp X B9_shade 5 [(0, .ref h), (1, .int x1), (2, .int x2)] [.int r3] (G, I1, L2) 0 0 _
  refine wp_if_ne (off := 6) (tgt := 11) (by decide +kernel) (by decide) (fun c4 => ?_) (fun c4 => ?_)
  · rw [if_neg c4] at H
    refine wp_iload_n (z := 2) (i := 2) (x := x2) 2 (by decide +kernel) rfl rfl ?_
    by_cases c5 : x2 = 0
    · rw [if_pos c5] at H
      refine wp_tableIn (dflt := 112) (lo := 0) (hi := 8) (offs := #[52, 52, 67, 67, 82, 82, 97, 102, 107]) (len := 52) (off := 52) (tgt := 64) (by decide +kernel) (by rw [c5]; decide) (by rw [c5]; decide) (by rw [c5]; rfl) (by decide) ?_
      refine wp_aload_n (z := 0) (i := 0) (r := (some h)) 0 (by decide +kernel) rfl rfl ?_
      refine wp_iload_n (z := 2) (i := 2) (x := x2) 2 (by decide +kernel) rfl rfl ?_
      refine wp_iconst (z := 1) (v := 1) (by decide +kernel) (by decide) ?_
      refine wp_icmp_ne (off := 7) (tgt := 74) (by decide +kernel) (by decide) (fun c6 => ?_) (fun c6 => ?_)
      · rw [if_neg c6] at H
        refine wp_iconst (z := 0) (v := 0) (by decide +kernel) (by decide) ?_
        refine wp_callV (idx := 334) (B2 := B9_shadowOf) (As := [.int 0]) (a := h) (st := []) (by decide +kernel) m9_shadowOf ml9_334 k9_shadowOf e9_shadowOf ck9 ok.1 (⟨Nat.le_of_ble_eq_true rfl, Nat.le_of_ble_eq_true rfl⟩ : rOK B9_shade B9_shadowOf) rfl (Nat.le_of_ble_eq_true rfl) (Nat.le_of_ble_eq_true rfl) ⟨Nat.le_of_ble_eq_true rfl, Nat.le_of_ble_eq_true rfl⟩ rfl (wp_mono H (fun v9 M9 hq9 => ?_))
        clear H
        obtain ⟨r9, I7, L8, rfl, rfl, H⟩ := hq9
        show wp X B9_shade 78 [(0, .ref h), (1, .int x1), (2, .int x2)] [.int r9] (G, I7, L8) 0 0 _
        exact wp_iret (by decide +kernel) rfl (Nat.zero_le _) (Nat.zero_le _) ⟨_, _, _, rfl, rfl, H⟩
      · rw [if_pos c6] at H
        refine wp_iconst (z := 1) (v := 1) (by decide +kernel) (by decide) ?_
        refine wp_goto (off := 4) (tgt := 75) (by decide +kernel) (by decide) ?_
        refine wp_callV (idx := 334) (B2 := B9_shadowOf) (As := [.int 1]) (a := h) (st := []) (by decide +kernel) m9_shadowOf ml9_334 k9_shadowOf e9_shadowOf ck9 ok.1 (⟨Nat.le_of_ble_eq_true rfl, Nat.le_of_ble_eq_true rfl⟩ : rOK B9_shade B9_shadowOf) rfl (Nat.le_of_ble_eq_true rfl) (Nat.le_of_ble_eq_true rfl) ⟨Nat.le_of_ble_eq_true rfl, Nat.le_of_ble_eq_true rfl⟩ rfl (wp_mono H (fun v9 M9 hq9 => ?_))
        clear H
        obtain ⟨r12, I10, L11, rfl, rfl, H⟩ := hq9
        show wp X B9_shade 78 [(0, .ref h), (1, .int x1), (2, .int x2)] [.int r12] (G, I10, L11) 0 0 _
        exact wp_iret (by decide +kernel) rfl (Nat.zero_le _) (Nat.zero_le _) ⟨_, _, _, rfl, rfl, H⟩
    rw [if_neg c5] at H
    by_cases c13 : x2 = 1
    · rw [if_pos c13] at H
      refine wp_tableIn (dflt := 112) (lo := 0) (hi := 8) (offs := #[52, 52, 67, 67, 82, 82, 97, 102, 107]) (len := 52) (off := 52) (tgt := 64) (by decide +kernel) (by rw [c13]; decide) (by rw [c13]; decide) (by rw [c13]; rfl) (by decide) ?_
      refine wp_aload_n (z := 0) (i := 0) (r := (some h)) 0 (by decide +kernel) rfl rfl ?_
      refine wp_iload_n (z := 2) (i := 2) (x := x2) 2 (by decide +kernel) rfl rfl ?_
      refine wp_iconst (z := 1) (v := 1) (by decide +kernel) (by decide) ?_
      refine wp_icmp_ne (off := 7) (tgt := 74) (by decide +kernel) (by decide) (fun c14 => ?_) (fun c14 => ?_)
      · rw [if_neg c14] at H
        refine wp_iconst (z := 0) (v := 0) (by decide +kernel) (by decide) ?_
        refine wp_callV (idx := 334) (B2 := B9_shadowOf) (As := [.int 0]) (a := h) (st := []) (by decide +kernel) m9_shadowOf ml9_334 k9_shadowOf e9_shadowOf ck9 ok.1 (⟨Nat.le_of_ble_eq_true rfl, Nat.le_of_ble_eq_true rfl⟩ : rOK B9_shade B9_shadowOf) rfl (Nat.le_of_ble_eq_true rfl) (Nat.le_of_ble_eq_true rfl) ⟨Nat.le_of_ble_eq_true rfl, Nat.le_of_ble_eq_true rfl⟩ rfl (wp_mono H (fun v9 M9 hq9 => ?_))
        clear H
        obtain ⟨r17, I15, L16, rfl, rfl, H⟩ := hq9
        show wp X B9_shade 78 [(0, .ref h), (1, .int x1), (2, .int x2)] [.int r17] (G, I15, L16) 0 0 _
        exact wp_iret (by decide +kernel) rfl (Nat.zero_le _) (Nat.zero_le _) ⟨_, _, _, rfl, rfl, H⟩
      · rw [if_pos c14] at H
        refine wp_iconst (z := 1) (v := 1) (by decide +kernel) (by decide) ?_
        refine wp_goto (off := 4) (tgt := 75) (by decide +kernel) (by decide) ?_
        refine wp_callV (idx := 334) (B2 := B9_shadowOf) (As := [.int 1]) (a := h) (st := []) (by decide +kernel) m9_shadowOf ml9_334 k9_shadowOf e9_shadowOf ck9 ok.1 (⟨Nat.le_of_ble_eq_true rfl, Nat.le_of_ble_eq_true rfl⟩ : rOK B9_shade B9_shadowOf) rfl (Nat.le_of_ble_eq_true rfl) (Nat.le_of_ble_eq_true rfl) ⟨Nat.le_of_ble_eq_true rfl, Nat.le_of_ble_eq_true rfl⟩ rfl (wp_mono H (fun v9 M9 hq9 => ?_))
        clear H
        obtain ⟨r20, I18, L19, rfl, rfl, H⟩ := hq9
        show wp X B9_shade 78 [(0, .ref h), (1, .int x1), (2, .int x2)] [.int r20] (G, I18, L19) 0 0 _
        exact wp_iret (by decide +kernel) rfl (Nat.zero_le _) (Nat.zero_le _) ⟨_, _, _, rfl, rfl, H⟩
    rw [if_neg c13] at H
    by_cases c21 : x2 = 2
    · rw [if_pos c21] at H
      refine wp_tableIn (dflt := 112) (lo := 0) (hi := 8) (offs := #[52, 52, 67, 67, 82, 82, 97, 102, 107]) (len := 52) (off := 67) (tgt := 79) (by decide +kernel) (by rw [c21]; decide) (by rw [c21]; decide) (by rw [c21]; rfl) (by decide) ?_
      refine wp_aload_n (z := 0) (i := 0) (r := (some h)) 0 (by decide +kernel) rfl rfl ?_
      refine wp_iload_n (z := 2) (i := 2) (x := x2) 2 (by decide +kernel) rfl rfl ?_
      refine wp_iconst (z := 3) (v := 3) (by decide +kernel) (by decide) ?_
      refine wp_icmp_ne (off := 7) (tgt := 89) (by decide +kernel) (by decide) (fun c22 => ?_) (fun c22 => ?_)
      · rw [if_neg c22] at H
        refine wp_iconst (z := 0) (v := 0) (by decide +kernel) (by decide) ?_
        refine wp_callV (idx := 338) (B2 := B9_farthestOf) (As := [.int 0]) (a := h) (st := []) (by decide +kernel) m9_farthestOf ml9_338 k9_farthestOf e9_farthestOf ck9 ok.1 (⟨Nat.le_of_ble_eq_true rfl, Nat.le_of_ble_eq_true rfl⟩ : rOK B9_shade B9_farthestOf) rfl (Nat.le_of_ble_eq_true rfl) (Nat.le_of_ble_eq_true rfl) ⟨Nat.le_of_ble_eq_true rfl, Nat.le_of_ble_eq_true rfl⟩ rfl (wp_mono H (fun v9 M9 hq9 => ?_))
        clear H
        obtain ⟨r25, I23, L24, rfl, rfl, H⟩ := hq9
        show wp X B9_shade 93 [(0, .ref h), (1, .int x1), (2, .int x2)] [.int r25] (G, I23, L24) 0 0 _
        exact wp_iret (by decide +kernel) rfl (Nat.zero_le _) (Nat.zero_le _) ⟨_, _, _, rfl, rfl, H⟩
      · rw [if_pos c22] at H
        refine wp_iconst (z := 1) (v := 1) (by decide +kernel) (by decide) ?_
        refine wp_goto (off := 4) (tgt := 90) (by decide +kernel) (by decide) ?_
        refine wp_callV (idx := 338) (B2 := B9_farthestOf) (As := [.int 1]) (a := h) (st := []) (by decide +kernel) m9_farthestOf ml9_338 k9_farthestOf e9_farthestOf ck9 ok.1 (⟨Nat.le_of_ble_eq_true rfl, Nat.le_of_ble_eq_true rfl⟩ : rOK B9_shade B9_farthestOf) rfl (Nat.le_of_ble_eq_true rfl) (Nat.le_of_ble_eq_true rfl) ⟨Nat.le_of_ble_eq_true rfl, Nat.le_of_ble_eq_true rfl⟩ rfl (wp_mono H (fun v9 M9 hq9 => ?_))
        clear H
        obtain ⟨r28, I26, L27, rfl, rfl, H⟩ := hq9
        show wp X B9_shade 93 [(0, .ref h), (1, .int x1), (2, .int x2)] [.int r28] (G, I26, L27) 0 0 _
        exact wp_iret (by decide +kernel) rfl (Nat.zero_le _) (Nat.zero_le _) ⟨_, _, _, rfl, rfl, H⟩
    rw [if_neg c21] at H
    by_cases c29 : x2 = 3
    · rw [if_pos c29] at H
      refine wp_tableIn (dflt := 112) (lo := 0) (hi := 8) (offs := #[52, 52, 67, 67, 82, 82, 97, 102, 107]) (len := 52) (off := 67) (tgt := 79) (by decide +kernel) (by rw [c29]; decide) (by rw [c29]; decide) (by rw [c29]; rfl) (by decide) ?_
      refine wp_aload_n (z := 0) (i := 0) (r := (some h)) 0 (by decide +kernel) rfl rfl ?_
      refine wp_iload_n (z := 2) (i := 2) (x := x2) 2 (by decide +kernel) rfl rfl ?_
      refine wp_iconst (z := 3) (v := 3) (by decide +kernel) (by decide) ?_
      refine wp_icmp_ne (off := 7) (tgt := 89) (by decide +kernel) (by decide) (fun c30 => ?_) (fun c30 => ?_)
      · rw [if_neg c30] at H
        refine wp_iconst (z := 0) (v := 0) (by decide +kernel) (by decide) ?_
        refine wp_callV (idx := 338) (B2 := B9_farthestOf) (As := [.int 0]) (a := h) (st := []) (by decide +kernel) m9_farthestOf ml9_338 k9_farthestOf e9_farthestOf ck9 ok.1 (⟨Nat.le_of_ble_eq_true rfl, Nat.le_of_ble_eq_true rfl⟩ : rOK B9_shade B9_farthestOf) rfl (Nat.le_of_ble_eq_true rfl) (Nat.le_of_ble_eq_true rfl) ⟨Nat.le_of_ble_eq_true rfl, Nat.le_of_ble_eq_true rfl⟩ rfl (wp_mono H (fun v9 M9 hq9 => ?_))
        clear H
        obtain ⟨r33, I31, L32, rfl, rfl, H⟩ := hq9
        show wp X B9_shade 93 [(0, .ref h), (1, .int x1), (2, .int x2)] [.int r33] (G, I31, L32) 0 0 _
        exact wp_iret (by decide +kernel) rfl (Nat.zero_le _) (Nat.zero_le _) ⟨_, _, _, rfl, rfl, H⟩
      · rw [if_pos c30] at H
        refine wp_iconst (z := 1) (v := 1) (by decide +kernel) (by decide) ?_
        refine wp_goto (off := 4) (tgt := 90) (by decide +kernel) (by decide) ?_
        refine wp_callV (idx := 338) (B2 := B9_farthestOf) (As := [.int 1]) (a := h) (st := []) (by decide +kernel) m9_farthestOf ml9_338 k9_farthestOf e9_farthestOf ck9 ok.1 (⟨Nat.le_of_ble_eq_true rfl, Nat.le_of_ble_eq_true rfl⟩ : rOK B9_shade B9_farthestOf) rfl (Nat.le_of_ble_eq_true rfl) (Nat.le_of_ble_eq_true rfl) ⟨Nat.le_of_ble_eq_true rfl, Nat.le_of_ble_eq_true rfl⟩ rfl (wp_mono H (fun v9 M9 hq9 => ?_))
        clear H
        obtain ⟨r36, I34, L35, rfl, rfl, H⟩ := hq9
        show wp X B9_shade 93 [(0, .ref h), (1, .int x1), (2, .int x2)] [.int r36] (G, I34, L35) 0 0 _
        exact wp_iret (by decide +kernel) rfl (Nat.zero_le _) (Nat.zero_le _) ⟨_, _, _, rfl, rfl, H⟩
    rw [if_neg c29] at H
    by_cases c37 : x2 = 4
    · rw [if_pos c37] at H
      refine wp_tableIn (dflt := 112) (lo := 0) (hi := 8) (offs := #[52, 52, 67, 67, 82, 82, 97, 102, 107]) (len := 52) (off := 82) (tgt := 94) (by decide +kernel) (by rw [c37]; decide) (by rw [c37]; decide) (by rw [c37]; rfl) (by decide) ?_
      refine wp_aload_n (z := 0) (i := 0) (r := (some h)) 0 (by decide +kernel) rfl rfl ?_
      refine wp_iload_n (z := 2) (i := 2) (x := x2) 2 (by decide +kernel) rfl rfl ?_
      refine wp_iconst (z := 5) (v := 5) (by decide +kernel) (by decide) ?_
      refine wp_icmp_ne (off := 7) (tgt := 104) (by decide +kernel) (by decide) (fun c38 => ?_) (fun c38 => ?_)
      · rw [if_neg c38] at H
        refine wp_iconst (z := 0) (v := 0) (by decide +kernel) (by decide) ?_
        refine wp_callV (idx := 341) (B2 := B9_deadestOf) (As := [.int 0]) (a := h) (st := []) (by decide +kernel) m9_deadestOf ml9_341 k9_deadestOf e9_deadestOf ck9 ok.1 (⟨Nat.le_of_ble_eq_true rfl, Nat.le_of_ble_eq_true rfl⟩ : rOK B9_shade B9_deadestOf) rfl (Nat.le_of_ble_eq_true rfl) (Nat.le_of_ble_eq_true rfl) ⟨Nat.le_of_ble_eq_true rfl, Nat.le_of_ble_eq_true rfl⟩ rfl (wp_mono H (fun v9 M9 hq9 => ?_))
        clear H
        obtain ⟨r41, I39, L40, rfl, rfl, H⟩ := hq9
        show wp X B9_shade 108 [(0, .ref h), (1, .int x1), (2, .int x2)] [.int r41] (G, I39, L40) 0 0 _
        exact wp_iret (by decide +kernel) rfl (Nat.zero_le _) (Nat.zero_le _) ⟨_, _, _, rfl, rfl, H⟩
      · rw [if_pos c38] at H
        refine wp_iconst (z := 1) (v := 1) (by decide +kernel) (by decide) ?_
        refine wp_goto (off := 4) (tgt := 105) (by decide +kernel) (by decide) ?_
        refine wp_callV (idx := 341) (B2 := B9_deadestOf) (As := [.int 1]) (a := h) (st := []) (by decide +kernel) m9_deadestOf ml9_341 k9_deadestOf e9_deadestOf ck9 ok.1 (⟨Nat.le_of_ble_eq_true rfl, Nat.le_of_ble_eq_true rfl⟩ : rOK B9_shade B9_deadestOf) rfl (Nat.le_of_ble_eq_true rfl) (Nat.le_of_ble_eq_true rfl) ⟨Nat.le_of_ble_eq_true rfl, Nat.le_of_ble_eq_true rfl⟩ rfl (wp_mono H (fun v9 M9 hq9 => ?_))
        clear H
        obtain ⟨r44, I42, L43, rfl, rfl, H⟩ := hq9
        show wp X B9_shade 108 [(0, .ref h), (1, .int x1), (2, .int x2)] [.int r44] (G, I42, L43) 0 0 _
        exact wp_iret (by decide +kernel) rfl (Nat.zero_le _) (Nat.zero_le _) ⟨_, _, _, rfl, rfl, H⟩
    rw [if_neg c37] at H
    by_cases c45 : x2 = 5
    · rw [if_pos c45] at H
      refine wp_tableIn (dflt := 112) (lo := 0) (hi := 8) (offs := #[52, 52, 67, 67, 82, 82, 97, 102, 107]) (len := 52) (off := 82) (tgt := 94) (by decide +kernel) (by rw [c45]; decide) (by rw [c45]; decide) (by rw [c45]; rfl) (by decide) ?_
      refine wp_aload_n (z := 0) (i := 0) (r := (some h)) 0 (by decide +kernel) rfl rfl ?_
      refine wp_iload_n (z := 2) (i := 2) (x := x2) 2 (by decide +kernel) rfl rfl ?_
      refine wp_iconst (z := 5) (v := 5) (by decide +kernel) (by decide) ?_
      refine wp_icmp_ne (off := 7) (tgt := 104) (by decide +kernel) (by decide) (fun c46 => ?_) (fun c46 => ?_)
      · rw [if_neg c46] at H
        refine wp_iconst (z := 0) (v := 0) (by decide +kernel) (by decide) ?_
        refine wp_callV (idx := 341) (B2 := B9_deadestOf) (As := [.int 0]) (a := h) (st := []) (by decide +kernel) m9_deadestOf ml9_341 k9_deadestOf e9_deadestOf ck9 ok.1 (⟨Nat.le_of_ble_eq_true rfl, Nat.le_of_ble_eq_true rfl⟩ : rOK B9_shade B9_deadestOf) rfl (Nat.le_of_ble_eq_true rfl) (Nat.le_of_ble_eq_true rfl) ⟨Nat.le_of_ble_eq_true rfl, Nat.le_of_ble_eq_true rfl⟩ rfl (wp_mono H (fun v9 M9 hq9 => ?_))
        clear H
        obtain ⟨r49, I47, L48, rfl, rfl, H⟩ := hq9
        show wp X B9_shade 108 [(0, .ref h), (1, .int x1), (2, .int x2)] [.int r49] (G, I47, L48) 0 0 _
        exact wp_iret (by decide +kernel) rfl (Nat.zero_le _) (Nat.zero_le _) ⟨_, _, _, rfl, rfl, H⟩
      · rw [if_pos c46] at H
        refine wp_iconst (z := 1) (v := 1) (by decide +kernel) (by decide) ?_
        refine wp_goto (off := 4) (tgt := 105) (by decide +kernel) (by decide) ?_
        refine wp_callV (idx := 341) (B2 := B9_deadestOf) (As := [.int 1]) (a := h) (st := []) (by decide +kernel) m9_deadestOf ml9_341 k9_deadestOf e9_deadestOf ck9 ok.1 (⟨Nat.le_of_ble_eq_true rfl, Nat.le_of_ble_eq_true rfl⟩ : rOK B9_shade B9_deadestOf) rfl (Nat.le_of_ble_eq_true rfl) (Nat.le_of_ble_eq_true rfl) ⟨Nat.le_of_ble_eq_true rfl, Nat.le_of_ble_eq_true rfl⟩ rfl (wp_mono H (fun v9 M9 hq9 => ?_))
        clear H
        obtain ⟨r52, I50, L51, rfl, rfl, H⟩ := hq9
        show wp X B9_shade 108 [(0, .ref h), (1, .int x1), (2, .int x2)] [.int r52] (G, I50, L51) 0 0 _
        exact wp_iret (by decide +kernel) rfl (Nat.zero_le _) (Nat.zero_le _) ⟨_, _, _, rfl, rfl, H⟩
    rw [if_neg c45] at H
    by_cases c53 : x2 = 6
    · rw [if_pos c53] at H
      refine wp_tableIn (dflt := 112) (lo := 0) (hi := 8) (offs := #[52, 52, 67, 67, 82, 82, 97, 102, 107]) (len := 52) (off := 97) (tgt := 109) (by decide +kernel) (by rw [c53]; decide) (by rw [c53]; decide) (by rw [c53]; rfl) (by decide) ?_
      refine wp_aload_n (z := 0) (i := 0) (r := (some h)) 0 (by decide +kernel) rfl rfl ?_
      refine wp_callV (idx := 344) (B2 := B9_tenderestOf) (As := []) (a := h) (st := []) (by decide +kernel) m9_tenderestOf ml9_344 k9_tenderestOf e9_tenderestOf ck9 ok.1 (⟨Nat.le_of_ble_eq_true rfl, Nat.le_of_ble_eq_true rfl⟩ : rOK B9_shade B9_tenderestOf) rfl (Nat.le_of_ble_eq_true rfl) (Nat.le_of_ble_eq_true rfl) ⟨Nat.le_of_ble_eq_true rfl, Nat.le_of_ble_eq_true rfl⟩ rfl (wp_mono H (fun v9 M9 hq9 => ?_))
      clear H
      obtain ⟨r56, I54, L55, rfl, rfl, H⟩ := hq9
      show wp X B9_shade 113 [(0, .ref h), (1, .int x1), (2, .int x2)] [.int r56] (G, I54, L55) 0 0 _
      exact wp_iret (by decide +kernel) rfl (Nat.zero_le _) (Nat.zero_le _) ⟨_, _, _, rfl, rfl, H⟩
    rw [if_neg c53] at H
    by_cases c57 : x2 = 7
    · rw [if_pos c57] at H
      refine wp_tableIn (dflt := 112) (lo := 0) (hi := 8) (offs := #[52, 52, 67, 67, 82, 82, 97, 102, 107]) (len := 52) (off := 102) (tgt := 114) (by decide +kernel) (by rw [c57]; decide) (by rw [c57]; decide) (by rw [c57]; rfl) (by decide) ?_
      refine wp_aload_n (z := 0) (i := 0) (r := (some h)) 0 (by decide +kernel) rfl rfl ?_
      refine wp_callV (idx := 347) (B2 := B9_sharingOf) (As := []) (a := h) (st := []) (by decide +kernel) m9_sharingOf ml9_347 k9_sharingOf e9_sharingOf ck9 ok.1 (⟨Nat.le_of_ble_eq_true rfl, Nat.le_of_ble_eq_true rfl⟩ : rOK B9_shade B9_sharingOf) rfl (Nat.le_of_ble_eq_true rfl) (Nat.le_of_ble_eq_true rfl) ⟨Nat.le_of_ble_eq_true rfl, Nat.le_of_ble_eq_true rfl⟩ rfl (wp_mono H (fun v9 M9 hq9 => ?_))
      clear H
      obtain ⟨r60, I58, L59, rfl, rfl, H⟩ := hq9
      show wp X B9_shade 118 [(0, .ref h), (1, .int x1), (2, .int x2)] [.int r60] (G, I58, L59) 0 0 _
      exact wp_iret (by decide +kernel) rfl (Nat.zero_le _) (Nat.zero_le _) ⟨_, _, _, rfl, rfl, H⟩
    rw [if_neg c57] at H
    by_cases c61 : x2 = 8
    · rw [if_pos c61] at H
      refine wp_tableIn (dflt := 112) (lo := 0) (hi := 8) (offs := #[52, 52, 67, 67, 82, 82, 97, 102, 107]) (len := 52) (off := 107) (tgt := 119) (by decide +kernel) (by rw [c61]; decide) (by rw [c61]; decide) (by rw [c61]; rfl) (by decide) ?_
      refine wp_aload_n (z := 0) (i := 0) (r := (some h)) 0 (by decide +kernel) rfl rfl ?_
      refine wp_callV (idx := 350) (B2 := B9_seamsOf) (As := []) (a := h) (st := []) (by decide +kernel) m9_seamsOf ml9_350 k9_seamsOf e9_seamsOf ck9 ok.1 (⟨Nat.le_of_ble_eq_true rfl, Nat.le_of_ble_eq_true rfl⟩ : rOK B9_shade B9_seamsOf) rfl (Nat.le_of_ble_eq_true rfl) (Nat.le_of_ble_eq_true rfl) ⟨Nat.le_of_ble_eq_true rfl, Nat.le_of_ble_eq_true rfl⟩ rfl (wp_mono H (fun v9 M9 hq9 => ?_))
      clear H
      obtain ⟨r64, I62, L63, rfl, rfl, H⟩ := hq9
      show wp X B9_shade 123 [(0, .ref h), (1, .int x1), (2, .int x2)] [.int r64] (G, I62, L63) 0 0 _
      exact wp_iret (by decide +kernel) rfl (Nat.zero_le _) (Nat.zero_le _) ⟨_, _, _, rfl, rfl, H⟩
    rw [if_neg c61] at H
    have qc5 := sw_ne c5 (z := 0) (by decide)
    have qc13 := sw_ne c13 (z := 1) (by decide)
    have qc21 := sw_ne c21 (z := 2) (by decide)
    have qc29 := sw_ne c29 (z := 3) (by decide)
    have qc37 := sw_ne c37 (z := 4) (by decide)
    have qc45 := sw_ne c45 (z := 5) (by decide)
    have qc53 := sw_ne c53 (z := 6) (by decide)
    have qc57 := sw_ne c57 (z := 7) (by decide)
    have qc61 := sw_ne c61 (z := 8) (by decide)
    refine wp_tableOut (dflt := 112) (lo := 0) (hi := 8) (offs := #[52, 52, 67, 67, 82, 82, 97, 102, 107]) (len := 52) (tgt := 124) (by decide +kernel) (by omega) (by decide) ?_
    refine wp_bipush (z := -2) (v := (-2)) (by decide +kernel) (by decide) ?_
    exact wp_iret (by decide +kernel) rfl (Nat.zero_le _) (Nat.zero_le _) ⟨_, _, _, rfl, rfl, H⟩
  · rw [if_pos c4] at H
    refine wp_bipush (z := -2) (v := (-2)) (by decide +kernel) (by decide) ?_
    exact wp_iret (by decide +kernel) rfl (Nat.zero_le _) (Nat.zero_le _) ⟨_, _, _, rfl, rfl, H⟩
/-! DeafWallModel.keys(IIZ)I -/
set_option maxRecDepth 20000 in
theorem b9_keys {X : XX} {G : GG} {I : Nat → Nat → Int32} {L : Nat → Nat → Int64} {h : Nat} {x1 : Int32} {x2 : Int32} {x3 : Int32} {Q : Int32 → (Nat → Nat → Int32) → (Nat → Nat → Int64) → Prop} (ok : OK9 G h) (H : wpI X B9_isWall 0 [(0, .ref h), (1, .int x1)] [] G I L (fun r3 I1 L2 => if r3 = (0 : Int32) then (Q (-2) I1 L2) else (if (v9_isFeeler I1 h x2) = (0 : Int32) then (Q (-2) I1 L2) else (wpV X B9_laysLost 0 [(0, .ref h), (1, .int (I1 h 14)), (2, .int (-1)), (3, .int 0)] [] G I1 L2 (fun I6 L7 => p9_reachBy I6 h x2 0 ∧ (if (v9_reachBy I6 h x2 0) = (-1) then (Q (-2) I6 L7) else (∀ u10, u10 = ((I6 h 13) - 1) → wpI X B9_keys 56 [(0, .ref h), (2, .int x2), (3, .int x3), (4, .int 0), (5, .int (-1)), (6, .int u10)] [] G I6 L7 Q))))))) : wpI X B9_keys 0 [(0, .ref h), (1, .int x1), (2, .int x2), (3, .int x3)] [] G I L Q := by
  refine wp_aload_n (z := 0) (i := 0) (r := (some h)) 0 (by decide +kernel) rfl rfl ?_
  refine wp_iload_n (z := 1) (i := 1) (x := x1) 1 (by decide +kernel) rfl rfl ?_
  refine wp_callV (idx := 196) (B2 := B9_isWall) (As := [.int x1]) (a := h) (st := []) (by decide +kernel) m9_isWall ml9_196 k9_isWall e9_isWall ck9 ok.1 (⟨Nat.le_of_ble_eq_true rfl, Nat.le_of_ble_eq_true rfl⟩ : rOK B9_keys B9_isWall) rfl (Nat.le_of_ble_eq_true rfl) (Nat.le_of_ble_eq_true rfl) ⟨Nat.le_of_ble_eq_true rfl, Nat.le_of_ble_eq_true rfl⟩ rfl (wp_mono H (fun v9 M9 hq9 => ?_))
  clear H
  obtain ⟨r3, I1, L2, rfl, rfl, H⟩ := hq9
  show wp X B9_keys 5 [(0, .ref h), (1, .int x1), (2, .int x2), (3, .int x3)] [.int r3] (G, I1, L2) 0 0 _
  refine wp_if_eq (off := 11) (tgt := 16) (by decide +kernel) (by decide) (fun c4 => ?_) (fun c4 => ?_)
  · rw [if_pos c4] at H
    refine wp_bipush (z := -2) (v := (-2)) (by decide +kernel) (by decide) ?_
    exact wp_iret (by decide +kernel) rfl (Nat.zero_le _) (Nat.zero_le _) ⟨_, _, _, rfl, rfl, H⟩
  · rw [if_neg c4] at H
    refine wp_aload_n (z := 0) (i := 0) (r := (some h)) 0 (by decide +kernel) rfl rfl ?_
    refine wp_iload_n (z := 2) (i := 2) (x := x2) 2 (by decide +kernel) rfl rfl ?_
    refine wp_callV (idx := 199) (B2 := B9_isFeeler) (As := [.int x2]) (a := h) (st := []) (by decide +kernel) m9_isFeeler ml9_199 k9_isFeeler e9_isFeeler ck9 ok.1 (⟨Nat.le_of_ble_eq_true rfl, Nat.le_of_ble_eq_true rfl⟩ : rOK B9_keys B9_isFeeler) rfl (Nat.le_of_ble_eq_true rfl) (Nat.le_of_ble_eq_true rfl) ⟨Nat.le_of_ble_eq_true rfl, Nat.le_of_ble_eq_true rfl⟩ rfl (wp_mono (b9_isFeeler (Q := (fun r I' L' => r = (v9_isFeeler I1 h x2) ∧ I1 = I' ∧ L2 = L')) ok ⟨rfl, rfl, rfl⟩) (fun v9 M9 hq9 => ?_))
    obtain ⟨_, _, _, rfl, rfl, rfl, rfl, rfl⟩ := hq9
    show wp X B9_keys 13 [(0, .ref h), (1, .int x1), (2, .int x2), (3, .int x3)] [.int (v9_isFeeler I1 h x2)] (G, I1, L2) 0 0 _
    refine wp_if_ne (off := 6) (tgt := 19) (by decide +kernel) (by decide) (fun c5 => ?_) (fun c5 => ?_)
    · rw [if_neg c5] at H
      refine wp_aload_n (z := 0) (i := 0) (r := (some h)) 0 (by decide +kernel) rfl rfl ?_
      refine wp_aload_n (z := 0) (i := 0) (r := (some h)) 0 (by decide +kernel) rfl rfl ?_
      refine wp_getI (idx := 187) (by decide +kernel) fl9_187 rfl ok.1 ?_
      refine wp_iconst (z := -1) (v := (-1)) (by decide +kernel) (by decide) ?_
      refine wp_iconst (z := 0) (v := 0) (by decide +kernel) (by decide) ?_
      refine wp_callV (idx := 330) (B2 := B9_laysLost) (As := [.int (I1 h 14), .int (-1), .int 0]) (a := h) (st := []) (by decide +kernel) m9_laysLost ml9_330 k9_laysLost e9_laysLost ck9 ok.1 (⟨Nat.le_of_ble_eq_true rfl, Nat.le_of_ble_eq_true rfl⟩ : rOK B9_keys B9_laysLost) rfl (Nat.le_of_ble_eq_true rfl) (Nat.le_of_ble_eq_true rfl) ⟨Nat.le_of_ble_eq_true rfl, Nat.le_of_ble_eq_true rfl⟩ rfl (wp_mono H (fun v9 M9 hq9 => ?_))
      clear H
      obtain ⟨I6, L7, rfl, rfl, H⟩ := hq9
      show wp X B9_keys 29 [(0, .ref h), (1, .int x1), (2, .int x2), (3, .int x3)] [] (G, I6, L7) 0 0 _
      refine wp_aload_n (z := 0) (i := 0) (r := (some h)) 0 (by decide +kernel) rfl rfl ?_
      refine wp_iload_n (z := 2) (i := 2) (x := x2) 2 (by decide +kernel) rfl rfl ?_
      refine wp_iconst (z := 0) (v := 0) (by decide +kernel) (by decide) ?_
      obtain ⟨o11, H⟩ := H
      refine wp_callV (idx := 353) (B2 := B9_reachBy) (As := [.int x2, .int 0]) (a := h) (st := []) (by decide +kernel) m9_reachBy ml9_353 k9_reachBy e9_reachBy ck9 ok.1 (⟨Nat.le_of_ble_eq_true rfl, Nat.le_of_ble_eq_true rfl⟩ : rOK B9_keys B9_reachBy) rfl (Nat.le_of_ble_eq_true rfl) (Nat.le_of_ble_eq_true rfl) ⟨Nat.le_of_ble_eq_true rfl, Nat.le_of_ble_eq_true rfl⟩ rfl (wp_mono (b9_reachBy (Q := (fun r I' L' => r = (v9_reachBy I6 h x2 0) ∧ I6 = I' ∧ L7 = L')) ok o11 ⟨rfl, rfl, rfl⟩) (fun v9 M9 hq9 => ?_))
      obtain ⟨_, _, _, rfl, rfl, rfl, rfl, rfl⟩ := hq9
      show wp X B9_keys 35 [(0, .ref h), (1, .int x1), (2, .int x2), (3, .int x3)] [.int (v9_reachBy I6 h x2 0)] (G, I6, L7) 0 0 _
      refine wp_iconst (z := -1) (v := (-1)) (by decide +kernel) (by decide) ?_
      refine wp_icmp_ne (off := 6) (tgt := 42) (by decide +kernel) (by decide) (fun c9 => ?_) (fun c9 => ?_)
      · rw [if_neg c9] at H
        refine wp_iconst (z := 0) (v := 0) (by decide +kernel) (by decide) ?_
        refine wp_istore (i := 4) (lv' := [(4, .int 0), (0, .ref h), (1, .int x1), (2, .int x2), (3, .int x3)]) (by decide +kernel) (by decide) rfl ?_
        refine wp_iconst (z := -1) (v := (-1)) (by decide +kernel) (by decide) ?_
        refine wp_istore (i := 5) (lv' := [(5, .int (-1)), (4, .int 0), (0, .ref h), (1, .int x1), (2, .int x2), (3, .int x3)]) (by decide +kernel) (by decide) rfl ?_
        refine wp_aload_n (z := 0) (i := 0) (r := (some h)) 2 (by decide +kernel) rfl rfl ?_
        refine wp_getI (idx := 184) (by decide +kernel) fl9_184 rfl ok.1 ?_
        refine wp_iconst (z := 1) (v := 1) (by decide +kernel) (by decide) ?_
        refine wp_isub (by decide +kernel) ?_
        refine wp_topi (fun u10 eu10 => ?_)
        replace H := H u10 eu10
        refine wp_istore (i := 6) (lv' := [(6, .int u10), (5, .int (-1)), (4, .int 0), (0, .ref h), (1, .int x1), (2, .int x2), (3, .int x3)]) (by decide +kernel) (by decide) rfl ?_
        exact wp_sub [3, 5, 6, 2, 1, 0] rfl H
      · rw [if_pos c9] at H
        refine wp_bipush (z := -2) (v := (-2)) (by decide +kernel) (by decide) ?_
        exact wp_iret (by decide +kernel) rfl (Nat.zero_le _) (Nat.zero_le _) ⟨_, _, _, rfl, rfl, H⟩
    · rw [if_pos c5] at H
      refine wp_bipush (z := -2) (v := (-2)) (by decide +kernel) (by decide) ?_
      exact wp_iret (by decide +kernel) rfl (Nat.zero_le _) (Nat.zero_le _) ⟨_, _, _, rfl, rfl, H⟩
set_option maxRecDepth 20000 in
theorem b9_keys_56 {X : XX} {G : GG} {I : Nat → Nat → Int32} {L : Nat → Nat → Int64} {h : Nat} {x2 : Int32} {x3 : Int32} {x4 : Int32} {x5 : Int32} {x6 : Int32} {Q : Int32 → (Nat → Nat → Int32) → (Nat → Nat → Int64) → Prop} (ok : OK9 G h) (H : if x6 < (0 : Int32) then (if x3 = (0 : Int32) then (Q x4 I L) else (Q x5 I L)) else (wpV X B9_laysLost 0 [(0, .ref h), (1, .int (I h 14)), (2, .int x6), (3, .int 9)] [] G I L (fun I3 L4 => p9_reachBy I3 h x2 0 ∧ (if (v9_reachBy I3 h x2 0) = (-1) then (wpI X B9_keys 56 [(0, .ref h), (2, .int x2), (3, .int x3), (4, .int (x4 + 1)), (5, .int x6), (6, .int (x6 + (-1)))] [] G I3 L4 Q) else (wpI X B9_keys 56 [(0, .ref h), (2, .int x2), (3, .int x3), (4, .int x4), (5, .int x5), (6, .int (x6 + (-1)))] [] G I3 L4 Q))))) : wpI X B9_keys 56 [(0, .ref h), (2, .int x2), (3, .int x3), (4, .int x4), (5, .int x5), (6, .int x6)] [] G I L Q := by
  refine wp_iload (i := 6) (x := x6) 5 (by decide +kernel) rfl ?_
  refine wp_if_lt (off := 41) (tgt := 99) (by decide +kernel) (by decide) (fun c1 => ?_) (fun c1 => ?_)
  · rw [if_pos c1] at H
    refine wp_iload_n (z := 3) (i := 3) (x := x3) 2 (by decide +kernel) rfl rfl ?_
    refine wp_if_eq (off := 8) (tgt := 108) (by decide +kernel) (by decide) (fun c2 => ?_) (fun c2 => ?_)
    · rw [if_pos c2] at H
      refine wp_iload (i := 4) (x := x4) 3 (by decide +kernel) rfl ?_
      exact wp_iret (by decide +kernel) rfl (Nat.zero_le _) (Nat.zero_le _) ⟨_, _, _, rfl, rfl, H⟩
    · rw [if_neg c2] at H
      refine wp_iload (i := 5) (x := x5) 4 (by decide +kernel) rfl ?_
      refine wp_goto (off := 5) (tgt := 110) (by decide +kernel) (by decide) ?_
      exact wp_iret (by decide +kernel) rfl (Nat.zero_le _) (Nat.zero_le _) ⟨_, _, _, rfl, rfl, H⟩
  · rw [if_neg c1] at H
    refine wp_aload_n (z := 0) (i := 0) (r := (some h)) 0 (by decide +kernel) rfl rfl ?_
    refine wp_aload_n (z := 0) (i := 0) (r := (some h)) 0 (by decide +kernel) rfl rfl ?_
    refine wp_getI (idx := 187) (by decide +kernel) fl9_187 rfl ok.1 ?_
    refine wp_iload (i := 6) (x := x6) 5 (by decide +kernel) rfl ?_
    refine wp_bipush (z := 9) (v := 9) (by decide +kernel) (by decide) ?_
    refine wp_callV (idx := 330) (B2 := B9_laysLost) (As := [.int (I h 14), .int x6, .int 9]) (a := h) (st := []) (by decide +kernel) m9_laysLost ml9_330 k9_laysLost e9_laysLost ck9 ok.1 (⟨Nat.le_of_ble_eq_true rfl, Nat.le_of_ble_eq_true rfl⟩ : rOK B9_keys B9_laysLost) rfl (Nat.le_of_ble_eq_true rfl) (Nat.le_of_ble_eq_true rfl) ⟨Nat.le_of_ble_eq_true rfl, Nat.le_of_ble_eq_true rfl⟩ rfl (wp_mono H (fun v9 M9 hq9 => ?_))
    clear H
    obtain ⟨I3, L4, rfl, rfl, H⟩ := hq9
    show wp X B9_keys 73 [(0, .ref h), (2, .int x2), (3, .int x3), (4, .int x4), (5, .int x5), (6, .int x6)] [] (G, I3, L4) 0 0 _
    refine wp_aload_n (z := 0) (i := 0) (r := (some h)) 0 (by decide +kernel) rfl rfl ?_
    refine wp_iload_n (z := 2) (i := 2) (x := x2) 1 (by decide +kernel) rfl rfl ?_
    refine wp_iconst (z := 0) (v := 0) (by decide +kernel) (by decide) ?_
    obtain ⟨o7, H⟩ := H
    refine wp_callV (idx := 353) (B2 := B9_reachBy) (As := [.int x2, .int 0]) (a := h) (st := []) (by decide +kernel) m9_reachBy ml9_353 k9_reachBy e9_reachBy ck9 ok.1 (⟨Nat.le_of_ble_eq_true rfl, Nat.le_of_ble_eq_true rfl⟩ : rOK B9_keys B9_reachBy) rfl (Nat.le_of_ble_eq_true rfl) (Nat.le_of_ble_eq_true rfl) ⟨Nat.le_of_ble_eq_true rfl, Nat.le_of_ble_eq_true rfl⟩ rfl (wp_mono (b9_reachBy (Q := (fun r I' L' => r = (v9_reachBy I3 h x2 0) ∧ I3 = I' ∧ L4 = L')) ok o7 ⟨rfl, rfl, rfl⟩) (fun v9 M9 hq9 => ?_))
    obtain ⟨_, _, _, rfl, rfl, rfl, rfl, rfl⟩ := hq9
    show wp X B9_keys 79 [(0, .ref h), (2, .int x2), (3, .int x3), (4, .int x4), (5, .int x5), (6, .int x6)] [.int (v9_reachBy I3 h x2 0)] (G, I3, L4) 0 0 _
    refine wp_iconst (z := -1) (v := (-1)) (by decide +kernel) (by decide) ?_
    refine wp_icmp_eq (off := 6) (tgt := 86) (by decide +kernel) (by decide) (fun c6 => ?_) (fun c6 => ?_)
    · rw [if_pos c6] at H
      refine wp_iinc (i := 4) (z := 1) (v := 1) (lv' := [(4, .int (x4 + 1)), (0, .ref h), (2, .int x2), (3, .int x3), (5, .int x5), (6, .int x6)]) 3 (by decide +kernel) rfl (by decide) (by decide) rfl ?_
      refine wp_iload (i := 6) (x := x6) 5 (by decide +kernel) rfl ?_
      refine wp_istore (i := 5) (lv' := [(5, .int x6), (4, .int (x4 + 1)), (0, .ref h), (2, .int x2), (3, .int x3), (6, .int x6)]) (by decide +kernel) (by decide) rfl ?_
      refine wp_iinc (i := 6) (z := -1) (v := (-1)) (lv' := [(6, .int (x6 + (-1))), (5, .int x6), (4, .int (x4 + 1)), (0, .ref h), (2, .int x2), (3, .int x3)]) 5 (by decide +kernel) rfl (by decide) (by decide) rfl ?_
      refine wp_goto (off := -40) (tgt := 56) (by decide +kernel) (by decide) ?_
      exact wp_sub [3, 4, 5, 2, 1, 0] rfl H
    · rw [if_neg c6] at H
      refine wp_goto (off := 10) (tgt := 93) (by decide +kernel) (by decide) ?_
      refine wp_iinc (i := 6) (z := -1) (v := (-1)) (lv' := [(6, .int (x6 + (-1))), (0, .ref h), (2, .int x2), (3, .int x3), (4, .int x4), (5, .int x5)]) 5 (by decide +kernel) rfl (by decide) (by decide) rfl ?_
      refine wp_goto (off := -40) (tgt := 56) (by decide +kernel) (by decide) ?_
      exact wp_sub [1, 2, 3, 4, 5, 0] rfl H
/-! DeafWallModel.dried(III)I -/
set_option maxRecDepth 20000 in
theorem b9_dried {X : XX} {G : GG} {I : Nat → Nat → Int32} {L : Nat → Nat → Int64} {h : Nat} {x1 : Int32} {x2 : Int32} {x3 : Int32} {Q : Int32 → (Nat → Nat → Int32) → (Nat → Nat → Int64) → Prop} (ok : OK9 G h) (H : wpI X B9_isWall 0 [(0, .ref h), (1, .int x1)] [] G I L (fun r3 I1 L2 => if r3 = (0 : Int32) then (Q (-1) I1 L2) else (if (v9_isFeeler I1 h x2) = (0 : Int32) then (Q (-1) I1 L2) else (if (v9_isIn x3 0 8) = (0 : Int32) then (Q (-1) I1 L2) else (wpV X B9_laysLost 0 [(0, .ref h), (1, .int (I1 h 14)), (2, .int (-1)), (3, .int 0)] [] G I1 L2 (fun I7 L8 => p9_reachBy I7 h x2 x3 ∧ (Q (v9_reachBy I7 h x2 x3) I7 L8))))))) : wpI X B9_dried 0 [(0, .ref h), (1, .int x1), (2, .int x2), (3, .int x3)] [] G I L Q := by
  refine wp_aload_n (z := 0) (i := 0) (r := (some h)) 0 (by decide +kernel) rfl rfl ?_
  refine wp_iload_n (z := 1) (i := 1) (x := x1) 1 (by decide +kernel) rfl rfl ?_
  refine wp_callV (idx := 196) (B2 := B9_isWall) (As := [.int x1]) (a := h) (st := []) (by decide +kernel) m9_isWall ml9_196 k9_isWall e9_isWall ck9 ok.1 (⟨Nat.le_of_ble_eq_true rfl, Nat.le_of_ble_eq_true rfl⟩ : rOK B9_dried B9_isWall) rfl (Nat.le_of_ble_eq_true rfl) (Nat.le_of_ble_eq_true rfl) ⟨Nat.le_of_ble_eq_true rfl, Nat.le_of_ble_eq_true rfl⟩ rfl (wp_mono H (fun v9 M9 hq9 => ?_))
  clear H
  obtain ⟨r3, I1, L2, rfl, rfl, H⟩ := hq9
  show wp X B9_dried 5 [(0, .ref h), (1, .int x1), (2, .int x2), (3, .int x3)] [.int r3] (G, I1, L2) 0 0 _
  refine wp_if_eq (off := 21) (tgt := 26) (by decide +kernel) (by decide) (fun c4 => ?_) (fun c4 => ?_)
  · rw [if_pos c4] at H
    refine wp_iconst (z := -1) (v := (-1)) (by decide +kernel) (by decide) ?_
    exact wp_iret (by decide +kernel) rfl (Nat.zero_le _) (Nat.zero_le _) ⟨_, _, _, rfl, rfl, H⟩
  · rw [if_neg c4] at H
    refine wp_aload_n (z := 0) (i := 0) (r := (some h)) 0 (by decide +kernel) rfl rfl ?_
    refine wp_iload_n (z := 2) (i := 2) (x := x2) 2 (by decide +kernel) rfl rfl ?_
    refine wp_callV (idx := 199) (B2 := B9_isFeeler) (As := [.int x2]) (a := h) (st := []) (by decide +kernel) m9_isFeeler ml9_199 k9_isFeeler e9_isFeeler ck9 ok.1 (⟨Nat.le_of_ble_eq_true rfl, Nat.le_of_ble_eq_true rfl⟩ : rOK B9_dried B9_isFeeler) rfl (Nat.le_of_ble_eq_true rfl) (Nat.le_of_ble_eq_true rfl) ⟨Nat.le_of_ble_eq_true rfl, Nat.le_of_ble_eq_true rfl⟩ rfl (wp_mono (b9_isFeeler (Q := (fun r I' L' => r = (v9_isFeeler I1 h x2) ∧ I1 = I' ∧ L2 = L')) ok ⟨rfl, rfl, rfl⟩) (fun v9 M9 hq9 => ?_))
    obtain ⟨_, _, _, rfl, rfl, rfl, rfl, rfl⟩ := hq9
    show wp X B9_dried 13 [(0, .ref h), (1, .int x1), (2, .int x2), (3, .int x3)] [.int (v9_isFeeler I1 h x2)] (G, I1, L2) 0 0 _
    refine wp_if_eq (off := 13) (tgt := 26) (by decide +kernel) (by decide) (fun c5 => ?_) (fun c5 => ?_)
    · rw [if_pos c5] at H
      refine wp_iconst (z := -1) (v := (-1)) (by decide +kernel) (by decide) ?_
      exact wp_iret (by decide +kernel) rfl (Nat.zero_le _) (Nat.zero_le _) ⟨_, _, _, rfl, rfl, H⟩
    · rw [if_neg c5] at H
      refine wp_iload_n (z := 3) (i := 3) (x := x3) 3 (by decide +kernel) rfl rfl ?_
      refine wp_iconst (z := 0) (v := 0) (by decide +kernel) (by decide) ?_
      refine wp_bipush (z := 8) (v := 8) (by decide +kernel) (by decide) ?_
      refine wp_callS (idx := 121) (B2 := B9_isIn) (As := [.int x3, .int 0, .int 8]) (st := []) (by decide +kernel) m9_isIn ml9_121 k9_isIn (⟨Nat.le_of_ble_eq_true rfl, Nat.le_of_ble_eq_true rfl⟩ : rOK B9_dried B9_isIn) rfl (Nat.le_of_ble_eq_true rfl) (Nat.le_of_ble_eq_true rfl) ⟨Nat.le_of_ble_eq_true rfl, Nat.le_of_ble_eq_true rfl⟩ rfl (wp_mono (b9_isIn (Q := (fun r I' L' => r = (v9_isIn x3 0 8) ∧ I1 = I' ∧ L2 = L'))  ⟨rfl, rfl, rfl⟩) (fun v9 M9 hq9 => ?_))
      obtain ⟨_, _, _, rfl, rfl, rfl, rfl, rfl⟩ := hq9
      show wp X B9_dried 23 [(0, .ref h), (1, .int x1), (2, .int x2), (3, .int x3)] [.int (v9_isIn x3 0 8)] (G, I1, L2) 0 0 _
      refine wp_if_ne (off := 5) (tgt := 28) (by decide +kernel) (by decide) (fun c6 => ?_) (fun c6 => ?_)
      · rw [if_neg c6] at H
        refine wp_aload_n (z := 0) (i := 0) (r := (some h)) 0 (by decide +kernel) rfl rfl ?_
        refine wp_aload_n (z := 0) (i := 0) (r := (some h)) 0 (by decide +kernel) rfl rfl ?_
        refine wp_getI (idx := 187) (by decide +kernel) fl9_187 rfl ok.1 ?_
        refine wp_iconst (z := -1) (v := (-1)) (by decide +kernel) (by decide) ?_
        refine wp_iconst (z := 0) (v := 0) (by decide +kernel) (by decide) ?_
        refine wp_callV (idx := 330) (B2 := B9_laysLost) (As := [.int (I1 h 14), .int (-1), .int 0]) (a := h) (st := []) (by decide +kernel) m9_laysLost ml9_330 k9_laysLost e9_laysLost ck9 ok.1 (⟨Nat.le_of_ble_eq_true rfl, Nat.le_of_ble_eq_true rfl⟩ : rOK B9_dried B9_laysLost) rfl (Nat.le_of_ble_eq_true rfl) (Nat.le_of_ble_eq_true rfl) ⟨Nat.le_of_ble_eq_true rfl, Nat.le_of_ble_eq_true rfl⟩ rfl (wp_mono H (fun v9 M9 hq9 => ?_))
        clear H
        obtain ⟨I7, L8, rfl, rfl, H⟩ := hq9
        show wp X B9_dried 38 [(0, .ref h), (1, .int x1), (2, .int x2), (3, .int x3)] [] (G, I7, L8) 0 0 _
        refine wp_aload_n (z := 0) (i := 0) (r := (some h)) 0 (by decide +kernel) rfl rfl ?_
        refine wp_iload_n (z := 2) (i := 2) (x := x2) 2 (by decide +kernel) rfl rfl ?_
        refine wp_iload_n (z := 3) (i := 3) (x := x3) 3 (by decide +kernel) rfl rfl ?_
        obtain ⟨o10, H⟩ := H
        refine wp_callV (idx := 353) (B2 := B9_reachBy) (As := [.int x2, .int x3]) (a := h) (st := []) (by decide +kernel) m9_reachBy ml9_353 k9_reachBy e9_reachBy ck9 ok.1 (⟨Nat.le_of_ble_eq_true rfl, Nat.le_of_ble_eq_true rfl⟩ : rOK B9_dried B9_reachBy) rfl (Nat.le_of_ble_eq_true rfl) (Nat.le_of_ble_eq_true rfl) ⟨Nat.le_of_ble_eq_true rfl, Nat.le_of_ble_eq_true rfl⟩ rfl (wp_mono (b9_reachBy (Q := (fun r I' L' => r = (v9_reachBy I7 h x2 x3) ∧ I7 = I' ∧ L8 = L')) ok o10 ⟨rfl, rfl, rfl⟩) (fun v9 M9 hq9 => ?_))
        obtain ⟨_, _, _, rfl, rfl, rfl, rfl, rfl⟩ := hq9
        show wp X B9_dried 44 [(0, .ref h), (1, .int x1), (2, .int x2), (3, .int x3)] [.int (v9_reachBy I7 h x2 x3)] (G, I7, L8) 0 0 _
        exact wp_iret (by decide +kernel) rfl (Nat.zero_le _) (Nat.zero_le _) ⟨_, _, _, rfl, rfl, H⟩
      · rw [if_pos c6] at H
        refine wp_iconst (z := -1) (v := (-1)) (by decide +kernel) (by decide) ?_
        exact wp_iret (by decide +kernel) rfl (Nat.zero_le _) (Nat.zero_le _) ⟨_, _, _, rfl, rfl, H⟩
/-! DeafWallModel.isDay(I)Z -/
set_option maxRecDepth 20000 in
theorem b9_isDay {X : XX} {G : GG} {I : Nat → Nat → Int32} {L : Nat → Nat → Int64} {h : Nat} {x1 : Int32} {Q : Int32 → (Nat → Nat → Int32) → (Nat → Nat → Int64) → Prop} (ok : OK9 G h) (H : p9_isOf I h 1 x1 ∧ (if (v9_isOf I h 1 x1) = (0 : Int32) then (Q 0 I L) else (∀ I2, I2 = up2 I h 36 (v9_placeOf 1 x1) → Q 1 I2 L))) : wpI X B9_isDay 0 [(0, .ref h), (1, .int x1)] [] G I L Q := by
  refine wp_aload_n (z := 0) (i := 0) (r := (some h)) 0 (by decide +kernel) rfl rfl ?_
  refine wp_iconst (z := 1) (v := 1) (by decide +kernel) (by decide) ?_
  refine wp_iload_n (z := 1) (i := 1) (x := x1) 1 (by decide +kernel) rfl rfl ?_
  obtain ⟨o4, H⟩ := H
  refine wp_callV (idx := 156) (B2 := B9_isOf) (As := [.int 1, .int x1]) (a := h) (st := []) (by decide +kernel) m9_isOf ml9_156 k9_isOf e9_isOf ck9 ok.1 (⟨Nat.le_of_ble_eq_true rfl, Nat.le_of_ble_eq_true rfl⟩ : rOK B9_isDay B9_isOf) rfl (Nat.le_of_ble_eq_true rfl) (Nat.le_of_ble_eq_true rfl) ⟨Nat.le_of_ble_eq_true rfl, Nat.le_of_ble_eq_true rfl⟩ rfl (wp_mono (b9_isOf (Q := (fun r I' L' => r = (v9_isOf I h 1 x1) ∧ I = I' ∧ L = L')) ok o4 ⟨rfl, rfl, rfl⟩) (fun v9 M9 hq9 => ?_))
  obtain ⟨_, _, _, rfl, rfl, rfl, rfl, rfl⟩ := hq9
  show wp X B9_isDay 6 [(0, .ref h), (1, .int x1)] [.int (v9_isOf I h 1 x1)] (G, I, L) 0 0 _
  refine wp_if_ne (off := 5) (tgt := 11) (by decide +kernel) (by decide) (fun c1 => ?_) (fun c1 => ?_)
  · rw [if_neg c1] at H
    refine wp_aload_n (z := 0) (i := 0) (r := (some h)) 0 (by decide +kernel) rfl rfl ?_
    refine wp_iconst (z := 1) (v := 1) (by decide +kernel) (by decide) ?_
    refine wp_iload_n (z := 1) (i := 1) (x := x1) 1 (by decide +kernel) rfl rfl ?_
    refine wp_callS (idx := 175) (B2 := B9_placeOf) (As := [.int 1, .int x1]) (st := [.ref h]) (by decide +kernel) m9_placeOf ml9_175 k9_placeOf (⟨Nat.le_of_ble_eq_true rfl, Nat.le_of_ble_eq_true rfl⟩ : rOK B9_isDay B9_placeOf) rfl (Nat.le_of_ble_eq_true rfl) (Nat.le_of_ble_eq_true rfl) ⟨Nat.le_of_ble_eq_true rfl, Nat.le_of_ble_eq_true rfl⟩ rfl (wp_mono (b9_placeOf (Q := (fun r I' L' => r = (v9_placeOf 1 x1) ∧ I = I' ∧ L = L'))  ⟨rfl, rfl, rfl⟩) (fun v9 M9 hq9 => ?_))
    obtain ⟨_, _, _, rfl, rfl, rfl, rfl, rfl⟩ := hq9
    show wp X B9_isDay 17 [(0, .ref h), (1, .int x1)] [.int (v9_placeOf 1 x1), .ref h] (G, I, L) 0 0 _
    refine wp_putI (idx := 356) (by decide +kernel) fl9_356 rfl ok.1 ?_
    refine wp_memI (fun I2 eI2 => ?_)
    replace H := H I2 eI2
    refine wp_iconst (z := 1) (v := 1) (by decide +kernel) (by decide) ?_
    exact wp_zret (by decide +kernel) rfl (by decide) (Nat.zero_le _) (Nat.zero_le _) ⟨_, _, _, rfl, rfl, H⟩
  · rw [if_pos c1] at H
    refine wp_iconst (z := 0) (v := 0) (by decide +kernel) (by decide) ?_
    exact wp_zret (by decide +kernel) rfl (by decide) (Nat.zero_le _) (Nat.zero_le _) ⟨_, _, _, rfl, rfl, H⟩
/-! DeafWallModel.deed(III)I -/
set_option maxRecDepth 20000 in
theorem b9_deed {X : XX} {G : GG} {I : Nat → Nat → Int32} {L : Nat → Nat → Int64} {h : Nat} {x1 : Int32} {x2 : Int32} {x3 : Int32} {Q : Int32 → (Nat → Nat → Int32) → (Nat → Nat → Int64) → Prop} (ok : OK9 G h) (H : wpI X B9_isDay 0 [(0, .ref h), (1, .int x1)] [] G I L (fun r3 I1 L2 => if r3 = (0 : Int32) then (Q (-2) I1 L2) else (if x2 = (-1) then (if x3 = (0 : Int32) then (vp_in (I1 h 36) 4096 ∧ (Q (I1 (h + 1) (cl (I1 h 36))) I1 L2)) else (Q (-2) I1 L2)) else (vp_in (I1 h 36) 4096 ∧ (if (v9_isIn x2 0 ((I1 (h + 1) (cl (I1 h 36))) - 1)) = (0 : Int32) then (Q (-2) I1 L2) else (if (v9_isIn x3 0 2) = (0 : Int32) then (Q (-2) I1 L2) else (vp_in ((((I1 h 36) + 1) + (3 * x2)) + x3) 4096 ∧ (Q (I1 (h + 1) (cl ((((I1 h 36) + 1) + (3 * x2)) + x3))) I1 L2)))))))) : wpI X B9_deed 0 [(0, .ref h), (1, .int x1), (2, .int x2), (3, .int x3)] [] G I L Q := by
  refine wp_aload_n (z := 0) (i := 0) (r := (some h)) 0 (by decide +kernel) rfl rfl ?_
  refine wp_iload_n (z := 1) (i := 1) (x := x1) 1 (by decide +kernel) rfl rfl ?_
  refine wp_callV (idx := 359) (B2 := B9_isDay) (As := [.int x1]) (a := h) (st := []) (by decide +kernel) m9_isDay ml9_359 k9_isDay e9_isDay ck9 ok.1 (⟨Nat.le_of_ble_eq_true rfl, Nat.le_of_ble_eq_true rfl⟩ : rOK B9_deed B9_isDay) rfl (Nat.le_of_ble_eq_true rfl) (Nat.le_of_ble_eq_true rfl) ⟨Nat.le_of_ble_eq_true rfl, Nat.le_of_ble_eq_true rfl⟩ rfl (wp_mono H (fun v9 M9 hq9 => ?_))
  clear H
  obtain ⟨r3, I1, L2, rfl, rfl, H⟩ := hq9
  show wp X B9_deed 5 [(0, .ref h), (1, .int x1), (2, .int x2), (3, .int x3)] [.int r3] (G, I1, L2) 0 0 _
  refine wp_if_ne (off := 6) (tgt := 11) (by decide +kernel) (by decide) (fun c4 => ?_) (fun c4 => ?_)
  · rw [if_neg c4] at H
    refine wp_iload_n (z := 2) (i := 2) (x := x2) 2 (by decide +kernel) rfl rfl ?_
    refine wp_iconst (z := -1) (v := (-1)) (by decide +kernel) (by decide) ?_
    refine wp_icmp_ne (off := 22) (tgt := 35) (by decide +kernel) (by decide) (fun c5 => ?_) (fun c5 => ?_)
    · rw [if_neg c5] at H
      refine wp_iload_n (z := 2) (i := 2) (x := x2) 2 (by decide +kernel) rfl rfl ?_
      refine wp_iconst (z := 0) (v := 0) (by decide +kernel) (by decide) ?_
      refine wp_aload_n (z := 0) (i := 0) (r := (some h)) 0 (by decide +kernel) rfl rfl ?_
      refine wp_getS (idx := 7) (q := (h + 1)) (by decide +kernel) fl9_7 rfl ok.1 (okr9_0 ok) ?_
      refine wp_aload_n (z := 0) (i := 0) (r := (some h)) 0 (by decide +kernel) rfl rfl ?_
      refine wp_getI (idx := 356) (by decide +kernel) fl9_356 rfl ok.1 ?_
      obtain ⟨o11, H⟩ := H
      refine wp_iald (j := (cl (I1 h 36))) (by decide +kernel) (oks9_0 ok) o11 rfl ?_
      refine wp_iconst (z := 1) (v := 1) (by decide +kernel) (by decide) ?_
      refine wp_isub (by decide +kernel) ?_
      refine wp_callS (idx := 121) (B2 := B9_isIn) (As := [.int x2, .int 0, .int ((I1 (h + 1) (cl (I1 h 36))) - 1)]) (st := []) (by decide +kernel) m9_isIn ml9_121 k9_isIn (⟨Nat.le_of_ble_eq_true rfl, Nat.le_of_ble_eq_true rfl⟩ : rOK B9_deed B9_isIn) rfl (Nat.le_of_ble_eq_true rfl) (Nat.le_of_ble_eq_true rfl) ⟨Nat.le_of_ble_eq_true rfl, Nat.le_of_ble_eq_true rfl⟩ rfl (wp_mono (b9_isIn (Q := (fun r I' L' => r = (v9_isIn x2 0 ((I1 (h + 1) (cl (I1 h 36))) - 1)) ∧ I1 = I' ∧ L2 = L'))  ⟨rfl, rfl, rfl⟩) (fun v9 M9 hq9 => ?_))
      obtain ⟨_, _, _, rfl, rfl, rfl, rfl, rfl⟩ := hq9
      show wp X B9_deed 51 [(0, .ref h), (1, .int x1), (2, .int x2), (3, .int x3)] [.int (v9_isIn x2 0 ((I1 (h + 1) (cl (I1 h 36))) - 1))] (G, I1, L2) 0 0 _
      refine wp_if_eq (off := 32) (tgt := 83) (by decide +kernel) (by decide) (fun c6 => ?_) (fun c6 => ?_)
      · rw [if_pos c6] at H
        refine wp_bipush (z := -2) (v := (-2)) (by decide +kernel) (by decide) ?_
        exact wp_iret (by decide +kernel) rfl (Nat.zero_le _) (Nat.zero_le _) ⟨_, _, _, rfl, rfl, H⟩
      · rw [if_neg c6] at H
        refine wp_iload_n (z := 3) (i := 3) (x := x3) 3 (by decide +kernel) rfl rfl ?_
        refine wp_iconst (z := 0) (v := 0) (by decide +kernel) (by decide) ?_
        refine wp_iconst (z := 2) (v := 2) (by decide +kernel) (by decide) ?_
        refine wp_callS (idx := 121) (B2 := B9_isIn) (As := [.int x3, .int 0, .int 2]) (st := []) (by decide +kernel) m9_isIn ml9_121 k9_isIn (⟨Nat.le_of_ble_eq_true rfl, Nat.le_of_ble_eq_true rfl⟩ : rOK B9_deed B9_isIn) rfl (Nat.le_of_ble_eq_true rfl) (Nat.le_of_ble_eq_true rfl) ⟨Nat.le_of_ble_eq_true rfl, Nat.le_of_ble_eq_true rfl⟩ rfl (wp_mono (b9_isIn (Q := (fun r I' L' => r = (v9_isIn x3 0 2) ∧ I1 = I' ∧ L2 = L'))  ⟨rfl, rfl, rfl⟩) (fun v9 M9 hq9 => ?_))
        obtain ⟨_, _, _, rfl, rfl, rfl, rfl, rfl⟩ := hq9
        show wp X B9_deed 60 [(0, .ref h), (1, .int x1), (2, .int x2), (3, .int x3)] [.int (v9_isIn x3 0 2)] (G, I1, L2) 0 0 _
        refine wp_if_eq (off := 23) (tgt := 83) (by decide +kernel) (by decide) (fun c7 => ?_) (fun c7 => ?_)
        · rw [if_pos c7] at H
          refine wp_bipush (z := -2) (v := (-2)) (by decide +kernel) (by decide) ?_
          exact wp_iret (by decide +kernel) rfl (Nat.zero_le _) (Nat.zero_le _) ⟨_, _, _, rfl, rfl, H⟩
        · rw [if_neg c7] at H
          refine wp_aload_n (z := 0) (i := 0) (r := (some h)) 0 (by decide +kernel) rfl rfl ?_
          refine wp_getS (idx := 7) (q := (h + 1)) (by decide +kernel) fl9_7 rfl ok.1 (okr9_0 ok) ?_
          refine wp_aload_n (z := 0) (i := 0) (r := (some h)) 0 (by decide +kernel) rfl rfl ?_
          refine wp_getI (idx := 356) (by decide +kernel) fl9_356 rfl ok.1 ?_
          refine wp_iconst (z := 1) (v := 1) (by decide +kernel) (by decide) ?_
          refine wp_iadd (by decide +kernel) ?_
          refine wp_iconst (z := 3) (v := 3) (by decide +kernel) (by decide) ?_
          refine wp_iload_n (z := 2) (i := 2) (x := x2) 2 (by decide +kernel) rfl rfl ?_
          refine wp_imul (by decide +kernel) ?_
          refine wp_iadd (by decide +kernel) ?_
          refine wp_iload_n (z := 3) (i := 3) (x := x3) 3 (by decide +kernel) rfl rfl ?_
          refine wp_iadd (by decide +kernel) ?_
          obtain ⟨o8, H⟩ := H
          refine wp_iald (j := (cl ((((I1 h 36) + 1) + (3 * x2)) + x3))) (by decide +kernel) (oks9_0 ok) o8 rfl ?_
          refine wp_goto (off := 5) (tgt := 85) (by decide +kernel) (by decide) ?_
          exact wp_iret (by decide +kernel) rfl (Nat.zero_le _) (Nat.zero_le _) ⟨_, _, _, rfl, rfl, H⟩
    · rw [if_pos c5] at H
      refine wp_iload_n (z := 3) (i := 3) (x := x3) 3 (by decide +kernel) rfl rfl ?_
      refine wp_if_ne (off := 15) (tgt := 32) (by decide +kernel) (by decide) (fun c12 => ?_) (fun c12 => ?_)
      · rw [if_neg c12] at H
        refine wp_bipush (z := -2) (v := (-2)) (by decide +kernel) (by decide) ?_
        exact wp_iret (by decide +kernel) rfl (Nat.zero_le _) (Nat.zero_le _) ⟨_, _, _, rfl, rfl, H⟩
      · rw [if_pos c12] at H
        refine wp_aload_n (z := 0) (i := 0) (r := (some h)) 0 (by decide +kernel) rfl rfl ?_
        refine wp_getS (idx := 7) (q := (h + 1)) (by decide +kernel) fl9_7 rfl ok.1 (okr9_0 ok) ?_
        refine wp_aload_n (z := 0) (i := 0) (r := (some h)) 0 (by decide +kernel) rfl rfl ?_
        refine wp_getI (idx := 356) (by decide +kernel) fl9_356 rfl ok.1 ?_
        obtain ⟨o13, H⟩ := H
        refine wp_iald (j := (cl (I1 h 36))) (by decide +kernel) (oks9_0 ok) o13 rfl ?_
        refine wp_goto (off := 5) (tgt := 34) (by decide +kernel) (by decide) ?_
        exact wp_iret (by decide +kernel) rfl (Nat.zero_le _) (Nat.zero_le _) ⟨_, _, _, rfl, rfl, H⟩
  · rw [if_pos c4] at H
    refine wp_bipush (z := -2) (v := (-2)) (by decide +kernel) (by decide) ?_
    exact wp_iret (by decide +kernel) rfl (Nat.zero_le _) (Nat.zero_le _) ⟨_, _, _, rfl, rfl, H⟩
/-! DeafWallModel.wets(II)Z -/
set_option maxRecDepth 20000 in
theorem b9_wets {X : XX} {G : GG} {I : Nat → Nat → Int32} {L : Nat → Nat → Int64} {h : Nat} {x1 : Int32} {x2 : Int32} {Q : Int32 → (Nat → Nat → Int32) → (Nat → Nat → Int64) → Prop} (ok : OK9 G h) (H : if (v9_isCell I h x1) = (0 : Int32) then (Q 0 I L) else (vp_in x1 32 ∧ (if (v9_isIn ((I (h + 4) (cl x1)) + x2) 1 9) = (0 : Int32) then (Q 0 I L) else (vp_in x1 32 ∧ (vp_in x1 32 ∧ (∀ I3, I3 = up2 I (h + 4) (cl x1) ((I (h + 4) (cl x1)) + x2) → Q 1 I3 L)))))) : wpI X B9_wets 0 [(0, .ref h), (1, .int x1), (2, .int x2)] [] G I L Q := by
  refine wp_aload_n (z := 0) (i := 0) (r := (some h)) 0 (by decide +kernel) rfl rfl ?_
  refine wp_iload_n (z := 1) (i := 1) (x := x1) 1 (by decide +kernel) rfl rfl ?_
  refine wp_callV (idx := 214) (B2 := B9_isCell) (As := [.int x1]) (a := h) (st := []) (by decide +kernel) m9_isCell ml9_214 k9_isCell e9_isCell ck9 ok.1 (⟨Nat.le_of_ble_eq_true rfl, Nat.le_of_ble_eq_true rfl⟩ : rOK B9_wets B9_isCell) rfl (Nat.le_of_ble_eq_true rfl) (Nat.le_of_ble_eq_true rfl) ⟨Nat.le_of_ble_eq_true rfl, Nat.le_of_ble_eq_true rfl⟩ rfl (wp_mono (b9_isCell (Q := (fun r I' L' => r = (v9_isCell I h x1) ∧ I = I' ∧ L = L')) ok ⟨rfl, rfl, rfl⟩) (fun v9 M9 hq9 => ?_))
  obtain ⟨_, _, _, rfl, rfl, rfl, rfl, rfl⟩ := hq9
  show wp X B9_wets 5 [(0, .ref h), (1, .int x1), (2, .int x2)] [.int (v9_isCell I h x1)] (G, I, L) 0 0 _
  refine wp_if_eq (off := 20) (tgt := 25) (by decide +kernel) (by decide) (fun c1 => ?_) (fun c1 => ?_)
  · rw [if_pos c1] at H
    refine wp_iconst (z := 0) (v := 0) (by decide +kernel) (by decide) ?_
    exact wp_zret (by decide +kernel) rfl (by decide) (Nat.zero_le _) (Nat.zero_le _) ⟨_, _, _, rfl, rfl, H⟩
  · rw [if_neg c1] at H
    refine wp_aload_n (z := 0) (i := 0) (r := (some h)) 0 (by decide +kernel) rfl rfl ?_
    refine wp_getS (idx := 20) (q := (h + 4)) (by decide +kernel) fl9_20 rfl ok.1 (okr9_23 ok) ?_
    refine wp_iload_n (z := 1) (i := 1) (x := x1) 1 (by decide +kernel) rfl rfl ?_
    obtain ⟨o7, H⟩ := H
    refine wp_iald (j := (cl x1)) (by decide +kernel) (oks9_23 ok) o7 rfl ?_
    refine wp_iload_n (z := 2) (i := 2) (x := x2) 2 (by decide +kernel) rfl rfl ?_
    refine wp_iadd (by decide +kernel) ?_
    refine wp_iconst (z := 1) (v := 1) (by decide +kernel) (by decide) ?_
    refine wp_bipush (z := 9) (v := 9) (by decide +kernel) (by decide) ?_
    refine wp_callS (idx := 121) (B2 := B9_isIn) (As := [.int ((I (h + 4) (cl x1)) + x2), .int 1, .int 9]) (st := []) (by decide +kernel) m9_isIn ml9_121 k9_isIn (⟨Nat.le_of_ble_eq_true rfl, Nat.le_of_ble_eq_true rfl⟩ : rOK B9_wets B9_isIn) rfl (Nat.le_of_ble_eq_true rfl) (Nat.le_of_ble_eq_true rfl) ⟨Nat.le_of_ble_eq_true rfl, Nat.le_of_ble_eq_true rfl⟩ rfl (wp_mono (b9_isIn (Q := (fun r I' L' => r = (v9_isIn ((I (h + 4) (cl x1)) + x2) 1 9) ∧ I = I' ∧ L = L'))  ⟨rfl, rfl, rfl⟩) (fun v9 M9 hq9 => ?_))
    obtain ⟨_, _, _, rfl, rfl, rfl, rfl, rfl⟩ := hq9
    show wp X B9_wets 22 [(0, .ref h), (1, .int x1), (2, .int x2)] [.int (v9_isIn ((I (h + 4) (cl x1)) + x2) 1 9)] (G, I, L) 0 0 _
    refine wp_if_ne (off := 5) (tgt := 27) (by decide +kernel) (by decide) (fun c2 => ?_) (fun c2 => ?_)
    · rw [if_neg c2] at H
      refine wp_aload_n (z := 0) (i := 0) (r := (some h)) 0 (by decide +kernel) rfl rfl ?_
      refine wp_getS (idx := 20) (q := (h + 4)) (by decide +kernel) fl9_20 rfl ok.1 (okr9_23 ok) ?_
      refine wp_iload_n (z := 1) (i := 1) (x := x1) 1 (by decide +kernel) rfl rfl ?_
      refine wp_dup2 (by decide +kernel) rfl rfl ?_
      obtain ⟨o5, H⟩ := H
      refine wp_iald (j := (cl x1)) (by decide +kernel) (oks9_23 ok) o5 rfl ?_
      refine wp_iload_n (z := 2) (i := 2) (x := x2) 2 (by decide +kernel) rfl rfl ?_
      refine wp_iadd (by decide +kernel) ?_
      obtain ⟨o4, H⟩ := H
      refine wp_iast (j := (cl x1)) (by decide +kernel) (oks9_23 ok) o4 rfl ?_
      refine wp_memI (fun I3 eI3 => ?_)
      replace H := H I3 eI3
      refine wp_iconst (z := 1) (v := 1) (by decide +kernel) (by decide) ?_
      exact wp_zret (by decide +kernel) rfl (by decide) (Nat.zero_le _) (Nat.zero_le _) ⟨_, _, _, rfl, rfl, H⟩
    · rw [if_pos c2] at H
      refine wp_iconst (z := 0) (v := 0) (by decide +kernel) (by decide) ?_
      exact wp_zret (by decide +kernel) rfl (by decide) (Nat.zero_le _) (Nat.zero_le _) ⟨_, _, _, rfl, rfl, H⟩
/-! DeafWallModel.moves(II)Z -/
set_option maxRecDepth 20000 in
theorem b9_moves {X : XX} {G : GG} {I : Nat → Nat → Int32} {L : Nat → Nat → Int64} {h : Nat} {x1 : Int32} {x2 : Int32} {Q : Int32 → (Nat → Nat → Int32) → (Nat → Nat → Int64) → Prop} (ok : OK9 G h) (H : if (v9_isFeeler I h x1) = (0 : Int32) then (Q 0 I L) else (if (v9_isCell I h x2) = (0 : Int32) then (Q 0 I L) else (vp_in x1 6 ∧ (if (I (h + 7) (cl x1)) = x2 then (∀ I7, I7 = up2 I h 20 ((I h 20) + 0) → vp_in x1 6 ∧ (∀ I8, I8 = up2 I7 (h + 7) (cl x1) x2 → Q 1 I8 L)) else (∀ I4, I4 = up2 I h 20 ((I h 20) + 1) → vp_in x1 6 ∧ (∀ I5, I5 = up2 I4 (h + 7) (cl x1) x2 → Q 1 I5 L)))))) : wpI X B9_moves 0 [(0, .ref h), (1, .int x1), (2, .int x2)] [] G I L Q := by
  refine wp_aload_n (z := 0) (i := 0) (r := (some h)) 0 (by decide +kernel) rfl rfl ?_
  refine wp_iload_n (z := 1) (i := 1) (x := x1) 1 (by decide +kernel) rfl rfl ?_
  refine wp_callV (idx := 199) (B2 := B9_isFeeler) (As := [.int x1]) (a := h) (st := []) (by decide +kernel) m9_isFeeler ml9_199 k9_isFeeler e9_isFeeler ck9 ok.1 (⟨Nat.le_of_ble_eq_true rfl, Nat.le_of_ble_eq_true rfl⟩ : rOK B9_moves B9_isFeeler) rfl (Nat.le_of_ble_eq_true rfl) (Nat.le_of_ble_eq_true rfl) ⟨Nat.le_of_ble_eq_true rfl, Nat.le_of_ble_eq_true rfl⟩ rfl (wp_mono (b9_isFeeler (Q := (fun r I' L' => r = (v9_isFeeler I h x1) ∧ I = I' ∧ L = L')) ok ⟨rfl, rfl, rfl⟩) (fun v9 M9 hq9 => ?_))
  obtain ⟨_, _, _, rfl, rfl, rfl, rfl, rfl⟩ := hq9
  show wp X B9_moves 5 [(0, .ref h), (1, .int x1), (2, .int x2)] [.int (v9_isFeeler I h x1)] (G, I, L) 0 0 _
  refine wp_if_eq (off := 11) (tgt := 16) (by decide +kernel) (by decide) (fun c1 => ?_) (fun c1 => ?_)
  · rw [if_pos c1] at H
    refine wp_iconst (z := 0) (v := 0) (by decide +kernel) (by decide) ?_
    exact wp_zret (by decide +kernel) rfl (by decide) (Nat.zero_le _) (Nat.zero_le _) ⟨_, _, _, rfl, rfl, H⟩
  · rw [if_neg c1] at H
    refine wp_aload_n (z := 0) (i := 0) (r := (some h)) 0 (by decide +kernel) rfl rfl ?_
    refine wp_iload_n (z := 2) (i := 2) (x := x2) 2 (by decide +kernel) rfl rfl ?_
    refine wp_callV (idx := 214) (B2 := B9_isCell) (As := [.int x2]) (a := h) (st := []) (by decide +kernel) m9_isCell ml9_214 k9_isCell e9_isCell ck9 ok.1 (⟨Nat.le_of_ble_eq_true rfl, Nat.le_of_ble_eq_true rfl⟩ : rOK B9_moves B9_isCell) rfl (Nat.le_of_ble_eq_true rfl) (Nat.le_of_ble_eq_true rfl) ⟨Nat.le_of_ble_eq_true rfl, Nat.le_of_ble_eq_true rfl⟩ rfl (wp_mono (b9_isCell (Q := (fun r I' L' => r = (v9_isCell I h x2) ∧ I = I' ∧ L = L')) ok ⟨rfl, rfl, rfl⟩) (fun v9 M9 hq9 => ?_))
    obtain ⟨_, _, _, rfl, rfl, rfl, rfl, rfl⟩ := hq9
    show wp X B9_moves 13 [(0, .ref h), (1, .int x1), (2, .int x2)] [.int (v9_isCell I h x2)] (G, I, L) 0 0 _
    refine wp_if_ne (off := 5) (tgt := 18) (by decide +kernel) (by decide) (fun c2 => ?_) (fun c2 => ?_)
    · rw [if_neg c2] at H
      refine wp_aload_n (z := 0) (i := 0) (r := (some h)) 0 (by decide +kernel) rfl rfl ?_
      refine wp_dup (by decide +kernel) rfl ?_
      refine wp_getI (idx := 229) (by decide +kernel) fl9_229 rfl ok.1 ?_
      refine wp_aload_n (z := 0) (i := 0) (r := (some h)) 0 (by decide +kernel) rfl rfl ?_
      refine wp_getS (idx := 29) (q := (h + 7)) (by decide +kernel) fl9_29 rfl ok.1 (okr9_26 ok) ?_
      refine wp_iload_n (z := 1) (i := 1) (x := x1) 1 (by decide +kernel) rfl rfl ?_
      obtain ⟨o10, H⟩ := H
      refine wp_iald (j := (cl x1)) (by decide +kernel) (oks9_26 ok) o10 rfl ?_
      refine wp_iload_n (z := 2) (i := 2) (x := x2) 2 (by decide +kernel) rfl rfl ?_
      refine wp_icmp_ne (off := 7) (tgt := 37) (by decide +kernel) (by decide) (fun c3 => ?_) (fun c3 => ?_)
      · rw [if_neg c3] at H
        refine wp_iconst (z := 1) (v := 1) (by decide +kernel) (by decide) ?_
        refine wp_iadd (by decide +kernel) ?_
        refine wp_putI (idx := 229) (by decide +kernel) fl9_229 rfl ok.1 ?_
        refine wp_memI (fun I4 eI4 => ?_)
        replace H := H I4 eI4
        refine wp_aload_n (z := 0) (i := 0) (r := (some h)) 0 (by decide +kernel) rfl rfl ?_
        refine wp_getS (idx := 29) (q := (h + 7)) (by decide +kernel) fl9_29 rfl ok.1 (okr9_26 ok) ?_
        refine wp_iload_n (z := 1) (i := 1) (x := x1) 1 (by decide +kernel) rfl rfl ?_
        refine wp_iload_n (z := 2) (i := 2) (x := x2) 2 (by decide +kernel) rfl rfl ?_
        obtain ⟨o6, H⟩ := H
        refine wp_iast (j := (cl x1)) (by decide +kernel) (oks9_26 ok) o6 rfl ?_
        refine wp_memI (fun I5 eI5 => ?_)
        replace H := H I5 eI5
        refine wp_iconst (z := 1) (v := 1) (by decide +kernel) (by decide) ?_
        exact wp_zret (by decide +kernel) rfl (by decide) (Nat.zero_le _) (Nat.zero_le _) ⟨_, _, _, rfl, rfl, H⟩
      · rw [if_pos c3] at H
        refine wp_iconst (z := 0) (v := 0) (by decide +kernel) (by decide) ?_
        refine wp_goto (off := 4) (tgt := 38) (by decide +kernel) (by decide) ?_
        refine wp_iadd (by decide +kernel) ?_
        refine wp_putI (idx := 229) (by decide +kernel) fl9_229 rfl ok.1 ?_
        refine wp_memI (fun I7 eI7 => ?_)
        replace H := H I7 eI7
        refine wp_aload_n (z := 0) (i := 0) (r := (some h)) 0 (by decide +kernel) rfl rfl ?_
        refine wp_getS (idx := 29) (q := (h + 7)) (by decide +kernel) fl9_29 rfl ok.1 (okr9_26 ok) ?_
        refine wp_iload_n (z := 1) (i := 1) (x := x1) 1 (by decide +kernel) rfl rfl ?_
        refine wp_iload_n (z := 2) (i := 2) (x := x2) 2 (by decide +kernel) rfl rfl ?_
        obtain ⟨o9, H⟩ := H
        refine wp_iast (j := (cl x1)) (by decide +kernel) (oks9_26 ok) o9 rfl ?_
        refine wp_memI (fun I8 eI8 => ?_)
        replace H := H I8 eI8
        refine wp_iconst (z := 1) (v := 1) (by decide +kernel) (by decide) ?_
        exact wp_zret (by decide +kernel) rfl (by decide) (Nat.zero_le _) (Nat.zero_le _) ⟨_, _, _, rfl, rfl, H⟩
    · rw [if_pos c2] at H
      refine wp_iconst (z := 0) (v := 0) (by decide +kernel) (by decide) ?_
      exact wp_zret (by decide +kernel) rfl (by decide) (Nat.zero_le _) (Nat.zero_le _) ⟨_, _, _, rfl, rfl, H⟩
