/-! DeafWallModel.fits(IIII)I -/
set_option maxRecDepth 20000 in
theorem b9_fits {X : XX} {G : GG} {I : Nat → Nat → Int32} {L : Nat → Nat → Int64} {h : Nat} {x1 : Int32} {x2 : Int32} {x3 : Int32} {x4 : Int32} {Q : Int32 → (Nat → Nat → Int32) → (Nat → Nat → Int64) → Prop} (ok : OK9 G h) (H : wpI X B9_isWall 0 [(0, .ref h), (1, .int x1)] [] G I L (fun r3 I1 L2 => if r3 = (0 : Int32) then (Q (-2) I1 L2) else (wpI X B9_isLog 0 [(0, .ref h), (1, .int x2)] [] G I1 L2 (fun r7 I5 L6 => if r7 = (0 : Int32) then (Q (-2) I5 L6) else (if (v9_isIn x3 1 8) = (0 : Int32) then (Q (-2) I5 L6) else (if x4 < (0 : Int32) then (Q (-2) I5 L6) else (if (v9_isIn x4 4 9) = (0 : Int32) then (if x4 < 10 then (wpV X B9_laysFits 0 [(0, .ref h), (1, .int x3)] [] G I5 L6 (fun I13 L14 => if x4 = 0 then (Q (I13 h 38) I13 L14) else (if x4 = 1 then (if (I13 h 38) = (0 : Int32) then (Q 0 I13 L14) else (Q (I13 h 39) I13 L14)) else (if x4 = 2 then (if (I13 h 38) = (0 : Int32) then (Q 0 I13 L14) else (Q ((((1 : Int32) <<< (x3 &&& 31)) - 1) &&& ((I13 h 40) ^^^ (-1))) I13 L14)) else (wpI X B9_askOf 0 [(0, .ref h)] [] G I13 L14 (fun r23 I21 L22 => Q r23 I21 L22)))))) else (wpI X B9_nextFit 0 [(0, .ref h), (1, .int x3), (2, .int (-1))] [] G I5 L6 (fun r26 I24 L25 => wpI X B9_fits 64 [(0, .ref h), (3, .int x3), (4, .int x4), (5, .int r26), (6, .int 10)] [] G I24 L25 Q))) else (Q (-2) I5 L6)))))))) : wpI X B9_fits 0 [(0, .ref h), (1, .int x1), (2, .int x2), (3, .int x3), (4, .int x4)] [] G I L Q := by
  refine wp_aload_n (z := 0) (i := 0) (r := (some h)) 0 (by decide +kernel) rfl rfl ?_
  refine wp_iload_n (z := 1) (i := 1) (x := x1) 1 (by decide +kernel) rfl rfl ?_
  refine wp_callV (idx := 196) (B2 := B9_isWall) (As := [.int x1]) (a := h) (st := []) (by decide +kernel) m9_isWall ml9_196 k9_isWall e9_isWall ck9 ok.1 (⟨Nat.le_of_ble_eq_true rfl, Nat.le_of_ble_eq_true rfl⟩ : rOK B9_fits B9_isWall) rfl (Nat.le_of_ble_eq_true rfl) (Nat.le_of_ble_eq_true rfl) ⟨Nat.le_of_ble_eq_true rfl, Nat.le_of_ble_eq_true rfl⟩ rfl (wp_mono H (fun v9 M9 hq9 => ?_))
  clear H
  obtain ⟨r3, I1, L2, rfl, rfl, H⟩ := hq9
  show wp X B9_fits 5 [(0, .ref h), (1, .int x1), (2, .int x2), (3, .int x3), (4, .int x4)] [.int r3] (G, I1, L2) 0 0 _
  refine wp_if_eq (off := 37) (tgt := 42) (by decide +kernel) (by decide) (fun c4 => ?_) (fun c4 => ?_)
  · rw [if_pos c4] at H
    refine wp_bipush (z := -2) (v := (-2)) (by decide +kernel) (by decide) ?_
    exact wp_iret (by decide +kernel) rfl (Nat.zero_le _) (Nat.zero_le _) ⟨_, _, _, rfl, rfl, H⟩
  · rw [if_neg c4] at H
    refine wp_aload_n (z := 0) (i := 0) (r := (some h)) 0 (by decide +kernel) rfl rfl ?_
    refine wp_iload_n (z := 2) (i := 2) (x := x2) 2 (by decide +kernel) rfl rfl ?_
    refine wp_callV (idx := 389) (B2 := B9_isLog) (As := [.int x2]) (a := h) (st := []) (by decide +kernel) m9_isLog ml9_389 k9_isLog e9_isLog ck9 ok.1 (⟨Nat.le_of_ble_eq_true rfl, Nat.le_of_ble_eq_true rfl⟩ : rOK B9_fits B9_isLog) rfl (Nat.le_of_ble_eq_true rfl) (Nat.le_of_ble_eq_true rfl) ⟨Nat.le_of_ble_eq_true rfl, Nat.le_of_ble_eq_true rfl⟩ rfl (wp_mono H (fun v9 M9 hq9 => ?_))
    clear H
    obtain ⟨r7, I5, L6, rfl, rfl, H⟩ := hq9
    show wp X B9_fits 13 [(0, .ref h), (1, .int x1), (2, .int x2), (3, .int x3), (4, .int x4)] [.int r7] (G, I5, L6) 0 0 _
    refine wp_if_eq (off := 29) (tgt := 42) (by decide +kernel) (by decide) (fun c8 => ?_) (fun c8 => ?_)
    · rw [if_pos c8] at H
      refine wp_bipush (z := -2) (v := (-2)) (by decide +kernel) (by decide) ?_
      exact wp_iret (by decide +kernel) rfl (Nat.zero_le _) (Nat.zero_le _) ⟨_, _, _, rfl, rfl, H⟩
    · rw [if_neg c8] at H
      refine wp_iload_n (z := 3) (i := 3) (x := x3) 3 (by decide +kernel) rfl rfl ?_
      refine wp_iconst (z := 1) (v := 1) (by decide +kernel) (by decide) ?_
      refine wp_bipush (z := 8) (v := 8) (by decide +kernel) (by decide) ?_
      refine wp_callS (idx := 121) (B2 := B9_isIn) (As := [.int x3, .int 1, .int 8]) (st := []) (by decide +kernel) m9_isIn ml9_121 k9_isIn (⟨Nat.le_of_ble_eq_true rfl, Nat.le_of_ble_eq_true rfl⟩ : rOK B9_fits B9_isIn) rfl (Nat.le_of_ble_eq_true rfl) (Nat.le_of_ble_eq_true rfl) ⟨Nat.le_of_ble_eq_true rfl, Nat.le_of_ble_eq_true rfl⟩ rfl (wp_mono (b9_isIn (Q := (fun r I' L' => r = (v9_isIn x3 1 8) ∧ I5 = I' ∧ L6 = L'))  ⟨rfl, rfl, rfl⟩) (fun v9 M9 hq9 => ?_))
      obtain ⟨_, _, _, rfl, rfl, rfl, rfl, rfl⟩ := hq9
      show wp X B9_fits 23 [(0, .ref h), (1, .int x1), (2, .int x2), (3, .int x3), (4, .int x4)] [.int (v9_isIn x3 1 8)] (G, I5, L6) 0 0 _
      refine wp_if_eq (off := 19) (tgt := 42) (by decide +kernel) (by decide) (fun c9 => ?_) (fun c9 => ?_)
      · rw [if_pos c9] at H
        refine wp_bipush (z := -2) (v := (-2)) (by decide +kernel) (by decide) ?_
        exact wp_iret (by decide +kernel) rfl (Nat.zero_le _) (Nat.zero_le _) ⟨_, _, _, rfl, rfl, H⟩
      · rw [if_neg c9] at H
        refine wp_iload (i := 4) (x := x4) 4 (by decide +kernel) rfl ?_
        refine wp_if_lt (off := 14) (tgt := 42) (by decide +kernel) (by decide) (fun c10 => ?_) (fun c10 => ?_)
        · rw [if_pos c10] at H
          refine wp_bipush (z := -2) (v := (-2)) (by decide +kernel) (by decide) ?_
          exact wp_iret (by decide +kernel) rfl (Nat.zero_le _) (Nat.zero_le _) ⟨_, _, _, rfl, rfl, H⟩
        · rw [if_neg c10] at H
          refine wp_iload (i := 4) (x := x4) 4 (by decide +kernel) rfl ?_
          refine wp_iconst (z := 4) (v := 4) (by decide +kernel) (by decide) ?_
          refine wp_bipush (z := 9) (v := 9) (by decide +kernel) (by decide) ?_
          refine wp_callS (idx := 121) (B2 := B9_isIn) (As := [.int x4, .int 4, .int 9]) (st := []) (by decide +kernel) m9_isIn ml9_121 k9_isIn (⟨Nat.le_of_ble_eq_true rfl, Nat.le_of_ble_eq_true rfl⟩ : rOK B9_fits B9_isIn) rfl (Nat.le_of_ble_eq_true rfl) (Nat.le_of_ble_eq_true rfl) ⟨Nat.le_of_ble_eq_true rfl, Nat.le_of_ble_eq_true rfl⟩ rfl (wp_mono (b9_isIn (Q := (fun r I' L' => r = (v9_isIn x4 4 9) ∧ I5 = I' ∧ L6 = L'))  ⟨rfl, rfl, rfl⟩) (fun v9 M9 hq9 => ?_))
          obtain ⟨_, _, _, rfl, rfl, rfl, rfl, rfl⟩ := hq9
          show wp X B9_fits 39 [(0, .ref h), (1, .int x1), (2, .int x2), (3, .int x3), (4, .int x4)] [.int (v9_isIn x4 4 9)] (G, I5, L6) 0 0 _
          refine wp_if_eq (off := 6) (tgt := 45) (by decide +kernel) (by decide) (fun c11 => ?_) (fun c11 => ?_)
          · rw [if_pos c11] at H
            refine wp_iload (i := 4) (x := x4) 4 (by decide +kernel) rfl ?_
            refine wp_bipush (z := 10) (v := 10) (by decide +kernel) (by decide) ?_
            refine wp_icmp_lt (off := 57) (tgt := 106) (by decide +kernel) (by decide) (fun c12 => ?_) (fun c12 => ?_)
            · rw [if_pos c12] at H
              refine wp_aload_n (z := 0) (i := 0) (r := (some h)) 0 (by decide +kernel) rfl rfl ?_
              refine wp_iload_n (z := 3) (i := 3) (x := x3) 3 (by decide +kernel) rfl rfl ?_
              refine wp_callV (idx := 414) (B2 := B9_laysFits) (As := [.int x3]) (a := h) (st := []) (by decide +kernel) m9_laysFits ml9_414 k9_laysFits e9_laysFits ck9 ok.1 (⟨Nat.le_of_ble_eq_true rfl, Nat.le_of_ble_eq_true rfl⟩ : rOK B9_fits B9_laysFits) rfl (Nat.le_of_ble_eq_true rfl) (Nat.le_of_ble_eq_true rfl) ⟨Nat.le_of_ble_eq_true rfl, Nat.le_of_ble_eq_true rfl⟩ rfl (wp_mono H (fun v9 M9 hq9 => ?_))
              clear H
              obtain ⟨I13, L14, rfl, rfl, H⟩ := hq9
              show wp X B9_fits 111 [(0, .ref h), (1, .int x1), (2, .int x2), (3, .int x3), (4, .int x4)] [] (G, I13, L14) 0 0 _
              refine wp_iload (i := 4) (x := x4) 4 (by decide +kernel) rfl ?_
              by_cases c16 : x4 = 0
              · rw [if_pos c16] at H
                refine wp_tableIn (dflt := 72) (lo := 0) (hi := 2) (offs := #[27, 32, 48]) (len := 27) (off := 27) (tgt := 140) (by decide +kernel) (by rw [c16]; decide) (by rw [c16]; decide) (by rw [c16]; rfl) (by decide) ?_
                refine wp_aload_n (z := 0) (i := 0) (r := (some h)) 0 (by decide +kernel) rfl rfl ?_
                refine wp_getI (idx := 396) (by decide +kernel) fl9_396 rfl ok.1 ?_
                exact wp_iret (by decide +kernel) rfl (Nat.zero_le _) (Nat.zero_le _) ⟨_, _, _, rfl, rfl, H⟩
              rw [if_neg c16] at H
              by_cases c17 : x4 = 1
              · rw [if_pos c17] at H
                refine wp_tableIn (dflt := 72) (lo := 0) (hi := 2) (offs := #[27, 32, 48]) (len := 27) (off := 32) (tgt := 145) (by decide +kernel) (by rw [c17]; decide) (by rw [c17]; decide) (by rw [c17]; rfl) (by decide) ?_
                refine wp_aload_n (z := 0) (i := 0) (r := (some h)) 0 (by decide +kernel) rfl rfl ?_
                refine wp_getI (idx := 396) (by decide +kernel) fl9_396 rfl ok.1 ?_
                refine wp_if_ne (off := 7) (tgt := 156) (by decide +kernel) (by decide) (fun c18 => ?_) (fun c18 => ?_)
                · rw [if_neg c18] at H
                  refine wp_aload_n (z := 0) (i := 0) (r := (some h)) 0 (by decide +kernel) rfl rfl ?_
                  refine wp_getI (idx := 399) (by decide +kernel) fl9_399 rfl ok.1 ?_
                  exact wp_iret (by decide +kernel) rfl (Nat.zero_le _) (Nat.zero_le _) ⟨_, _, _, rfl, rfl, H⟩
                · rw [if_pos c18] at H
                  refine wp_iconst (z := 0) (v := 0) (by decide +kernel) (by decide) ?_
                  refine wp_goto (off := 7) (tgt := 160) (by decide +kernel) (by decide) ?_
                  exact wp_iret (by decide +kernel) rfl (Nat.zero_le _) (Nat.zero_le _) ⟨_, _, _, rfl, rfl, H⟩
              rw [if_neg c17] at H
              by_cases c19 : x4 = 2
              · rw [if_pos c19] at H
                refine wp_tableIn (dflt := 72) (lo := 0) (hi := 2) (offs := #[27, 32, 48]) (len := 27) (off := 48) (tgt := 161) (by decide +kernel) (by rw [c19]; decide) (by rw [c19]; decide) (by rw [c19]; rfl) (by decide) ?_
                refine wp_aload_n (z := 0) (i := 0) (r := (some h)) 0 (by decide +kernel) rfl rfl ?_
                refine wp_getI (idx := 396) (by decide +kernel) fl9_396 rfl ok.1 ?_
                refine wp_if_ne (off := 7) (tgt := 172) (by decide +kernel) (by decide) (fun c20 => ?_) (fun c20 => ?_)
                · rw [if_neg c20] at H
                  refine wp_iconst (z := 1) (v := 1) (by decide +kernel) (by decide) ?_
                  refine wp_iload_n (z := 3) (i := 3) (x := x3) 3 (by decide +kernel) rfl rfl ?_
                  refine wp_ishl (by decide +kernel) ?_
                  refine wp_iconst (z := 1) (v := 1) (by decide +kernel) (by decide) ?_
                  refine wp_isub (by decide +kernel) ?_
                  refine wp_aload_n (z := 0) (i := 0) (r := (some h)) 0 (by decide +kernel) rfl rfl ?_
                  refine wp_getI (idx := 402) (by decide +kernel) fl9_402 rfl ok.1 ?_
                  refine wp_iconst (z := -1) (v := (-1)) (by decide +kernel) (by decide) ?_
                  refine wp_ixor (by decide +kernel) ?_
                  refine wp_iand (by decide +kernel) ?_
                  exact wp_iret (by decide +kernel) rfl (Nat.zero_le _) (Nat.zero_le _) ⟨_, _, _, rfl, rfl, H⟩
                · rw [if_pos c20] at H
                  refine wp_iconst (z := 0) (v := 0) (by decide +kernel) (by decide) ?_
                  refine wp_goto (off := 15) (tgt := 184) (by decide +kernel) (by decide) ?_
                  exact wp_iret (by decide +kernel) rfl (Nat.zero_le _) (Nat.zero_le _) ⟨_, _, _, rfl, rfl, H⟩
              rw [if_neg c19] at H
              have qc16 := sw_ne c16 (z := 0) (by decide)
              have qc17 := sw_ne c17 (z := 1) (by decide)
              have qc19 := sw_ne c19 (z := 2) (by decide)
              refine wp_tableOut (dflt := 72) (lo := 0) (hi := 2) (offs := #[27, 32, 48]) (len := 27) (tgt := 185) (by decide +kernel) (by omega) (by decide) ?_
              refine wp_aload_n (z := 0) (i := 0) (r := (some h)) 0 (by decide +kernel) rfl rfl ?_
              refine wp_callV (idx := 417) (B2 := B9_askOf) (As := []) (a := h) (st := []) (by decide +kernel) m9_askOf ml9_417 k9_askOf e9_askOf ck9 ok.1 (⟨Nat.le_of_ble_eq_true rfl, Nat.le_of_ble_eq_true rfl⟩ : rOK B9_fits B9_askOf) rfl (Nat.le_of_ble_eq_true rfl) (Nat.le_of_ble_eq_true rfl) ⟨Nat.le_of_ble_eq_true rfl, Nat.le_of_ble_eq_true rfl⟩ rfl (wp_mono H (fun v9 M9 hq9 => ?_))
              clear H
              obtain ⟨r23, I21, L22, rfl, rfl, H⟩ := hq9
              show wp X B9_fits 189 [(0, .ref h), (1, .int x1), (2, .int x2), (3, .int x3), (4, .int x4)] [.int r23] (G, I21, L22) 0 0 _
              exact wp_iret (by decide +kernel) rfl (Nat.zero_le _) (Nat.zero_le _) ⟨_, _, _, rfl, rfl, H⟩
            · rw [if_neg c12] at H
              refine wp_aload_n (z := 0) (i := 0) (r := (some h)) 0 (by decide +kernel) rfl rfl ?_
              refine wp_iload_n (z := 3) (i := 3) (x := x3) 3 (by decide +kernel) rfl rfl ?_
              refine wp_iconst (z := -1) (v := (-1)) (by decide +kernel) (by decide) ?_
              refine wp_callV (idx := 411) (B2 := B9_nextFit) (As := [.int x3, .int (-1)]) (a := h) (st := []) (by decide +kernel) m9_nextFit ml9_411 k9_nextFit e9_nextFit ck9 ok.1 (⟨Nat.le_of_ble_eq_true rfl, Nat.le_of_ble_eq_true rfl⟩ : rOK B9_fits B9_nextFit) rfl (Nat.le_of_ble_eq_true rfl) (Nat.le_of_ble_eq_true rfl) ⟨Nat.le_of_ble_eq_true rfl, Nat.le_of_ble_eq_true rfl⟩ rfl (wp_mono H (fun v9 M9 hq9 => ?_))
              clear H
              obtain ⟨r26, I24, L25, rfl, rfl, H⟩ := hq9
              show wp X B9_fits 58 [(0, .ref h), (1, .int x1), (2, .int x2), (3, .int x3), (4, .int x4)] [.int r26] (G, I24, L25) 0 0 _
              refine wp_istore (i := 5) (lv' := [(5, .int r26), (0, .ref h), (1, .int x1), (2, .int x2), (3, .int x3), (4, .int x4)]) (by decide +kernel) (by decide) rfl ?_
              refine wp_bipush (z := 10) (v := 10) (by decide +kernel) (by decide) ?_
              refine wp_istore (i := 6) (lv' := [(6, .int 10), (5, .int r26), (0, .ref h), (1, .int x1), (2, .int x2), (3, .int x3), (4, .int x4)]) (by decide +kernel) (by decide) rfl ?_
              exact wp_sub [2, 5, 6, 1, 0] rfl H
          · rw [if_neg c11] at H
            refine wp_bipush (z := -2) (v := (-2)) (by decide +kernel) (by decide) ?_
            exact wp_iret (by decide +kernel) rfl (Nat.zero_le _) (Nat.zero_le _) ⟨_, _, _, rfl, rfl, H⟩
set_option maxRecDepth 20000 in
theorem b9_fits_64 {X : XX} {G : GG} {I : Nat → Nat → Int32} {L : Nat → Nat → Int64} {h : Nat} {x3 : Int32} {x4 : Int32} {x5 : Int32} {x6 : Int32} {Q : Int32 → (Nat → Nat → Int32) → (Nat → Nat → Int64) → Prop} (ok : OK9 G h) (H : if x4 ≤ x6 then (if x5 = (-1) then (Q (-2) I L) else (Q x5 I L)) else (if x5 = (-1) then (if x5 = (-1) then (Q (-2) I L) else (Q x5 I L)) else (wpI X B9_nextFit 0 [(0, .ref h), (1, .int x3), (2, .int x5)] [] G I L (fun r7 I5 L6 => wpI X B9_fits 64 [(0, .ref h), (3, .int x3), (4, .int x4), (5, .int r7), (6, .int (x6 + 1))] [] G I5 L6 Q)))) : wpI X B9_fits 64 [(0, .ref h), (3, .int x3), (4, .int x4), (5, .int x5), (6, .int x6)] [] G I L Q := by
  refine wp_iload (i := 6) (x := x6) 4 (by decide +kernel) rfl ?_
  refine wp_iload (i := 4) (x := x4) 2 (by decide +kernel) rfl ?_
  refine wp_icmp_ge (off := 24) (tgt := 92) (by decide +kernel) (by decide) (fun c1 => ?_) (fun c1 => ?_)
  · rw [if_pos c1] at H
    refine wp_iload (i := 5) (x := x5) 3 (by decide +kernel) rfl ?_
    refine wp_iconst (z := -1) (v := (-1)) (by decide +kernel) (by decide) ?_
    refine wp_icmp_ne (off := 8) (tgt := 103) (by decide +kernel) (by decide) (fun c2 => ?_) (fun c2 => ?_)
    · rw [if_neg c2] at H
      refine wp_iload (i := 5) (x := x5) 3 (by decide +kernel) rfl ?_
      exact wp_iret (by decide +kernel) rfl (Nat.zero_le _) (Nat.zero_le _) ⟨_, _, _, rfl, rfl, H⟩
    · rw [if_pos c2] at H
      refine wp_bipush (z := -2) (v := (-2)) (by decide +kernel) (by decide) ?_
      refine wp_goto (off := 5) (tgt := 105) (by decide +kernel) (by decide) ?_
      exact wp_iret (by decide +kernel) rfl (Nat.zero_le _) (Nat.zero_le _) ⟨_, _, _, rfl, rfl, H⟩
  · rw [if_neg c1] at H
    refine wp_iload (i := 5) (x := x5) 3 (by decide +kernel) rfl ?_
    refine wp_iconst (z := -1) (v := (-1)) (by decide +kernel) (by decide) ?_
    refine wp_icmp_eq (off := 18) (tgt := 92) (by decide +kernel) (by decide) (fun c3 => ?_) (fun c3 => ?_)
    · rw [if_pos c3] at H
      refine wp_iload (i := 5) (x := x5) 3 (by decide +kernel) rfl ?_
      refine wp_iconst (z := -1) (v := (-1)) (by decide +kernel) (by decide) ?_
      refine wp_icmp_ne (off := 8) (tgt := 103) (by decide +kernel) (by decide) (fun c4 => ?_) (fun c4 => ?_)
      · rw [if_neg c4] at H
        refine wp_iload (i := 5) (x := x5) 3 (by decide +kernel) rfl ?_
        exact wp_iret (by decide +kernel) rfl (Nat.zero_le _) (Nat.zero_le _) ⟨_, _, _, rfl, rfl, H⟩
      · rw [if_pos c4] at H
        refine wp_bipush (z := -2) (v := (-2)) (by decide +kernel) (by decide) ?_
        refine wp_goto (off := 5) (tgt := 105) (by decide +kernel) (by decide) ?_
        exact wp_iret (by decide +kernel) rfl (Nat.zero_le _) (Nat.zero_le _) ⟨_, _, _, rfl, rfl, H⟩
    · rw [if_neg c3] at H
      refine wp_aload_n (z := 0) (i := 0) (r := (some h)) 0 (by decide +kernel) rfl rfl ?_
      refine wp_iload_n (z := 3) (i := 3) (x := x3) 1 (by decide +kernel) rfl rfl ?_
      refine wp_iload (i := 5) (x := x5) 3 (by decide +kernel) rfl ?_
      refine wp_callV (idx := 411) (B2 := B9_nextFit) (As := [.int x3, .int x5]) (a := h) (st := []) (by decide +kernel) m9_nextFit ml9_411 k9_nextFit e9_nextFit ck9 ok.1 (⟨Nat.le_of_ble_eq_true rfl, Nat.le_of_ble_eq_true rfl⟩ : rOK B9_fits B9_nextFit) rfl (Nat.le_of_ble_eq_true rfl) (Nat.le_of_ble_eq_true rfl) ⟨Nat.le_of_ble_eq_true rfl, Nat.le_of_ble_eq_true rfl⟩ rfl (wp_mono H (fun v9 M9 hq9 => ?_))
      clear H
      obtain ⟨r7, I5, L6, rfl, rfl, H⟩ := hq9
      show wp X B9_fits 84 [(0, .ref h), (3, .int x3), (4, .int x4), (5, .int x5), (6, .int x6)] [.int r7] (G, I5, L6) 0 0 _
      refine wp_istore (i := 5) (lv' := [(5, .int r7), (0, .ref h), (3, .int x3), (4, .int x4), (6, .int x6)]) (by decide +kernel) (by decide) rfl ?_
      refine wp_iinc (i := 6) (z := 1) (v := 1) (lv' := [(6, .int (x6 + 1)), (5, .int r7), (0, .ref h), (3, .int x3), (4, .int x4)]) 4 (by decide +kernel) rfl (by decide) (by decide) rfl ?_
      refine wp_goto (off := -25) (tgt := 64) (by decide +kernel) (by decide) ?_
      exact wp_sub [2, 3, 4, 1, 0] rfl H
/-! DeafWallModel.odds(IIIIZ)J -/
set_option maxRecDepth 20000 in
theorem b9_odds {X : XX} {G : GG} {I : Nat → Nat → Int32} {L : Nat → Nat → Int64} {h : Nat} {x1 : Int32} {x2 : Int32} {x3 : Int32} {x4 : Int32} {x5 : Int32} {Q : Int64 → (Nat → Nat → Int32) → (Nat → Nat → Int64) → Prop} (ok : OK9 G h) (H : wpI X B9_isWall 0 [(0, .ref h), (1, .int x1)] [] G I L (fun r3 I1 L2 => if r3 = (0 : Int32) then (Q (-1) I1 L2) else (wpI X B9_isLog 0 [(0, .ref h), (1, .int x2)] [] G I1 L2 (fun r7 I5 L6 => if r7 = (0 : Int32) then (Q (-1) I5 L6) else (if (v9_isIn x3 1 8) = (0 : Int32) then (Q (-1) I5 L6) else (if (v9_isIn x4 0 (x3 - 1)) = (0 : Int32) then (Q (-1) I5 L6) else (wpV X B9_laysFits 0 [(0, .ref h), (1, .int x3)] [] G I5 L6 (fun I11 L12 => if (I11 h 38) = (0 : Int32) then (Q (-1) I11 L12) else (vp_in x4 8 ∧ (wpJ X B9_parted 0 [(0, .long (Int32.toInt64 (I11 (h + 18) (cl x4)))), (2, .long (Int32.toInt64 (I11 h 38))), (4, .int x5)] [] G I11 L12 (fun r17 I15 L16 => Q r17 I15 L16))))))))))) : wpJ X B9_odds 0 [(0, .ref h), (1, .int x1), (2, .int x2), (3, .int x3), (4, .int x4), (5, .int x5)] [] G I L Q := by
  refine wp_aload_n (z := 0) (i := 0) (r := (some h)) 0 (by decide +kernel) rfl rfl ?_
  refine wp_iload_n (z := 1) (i := 1) (x := x1) 1 (by decide +kernel) rfl rfl ?_
  refine wp_callV (idx := 196) (B2 := B9_isWall) (As := [.int x1]) (a := h) (st := []) (by decide +kernel) m9_isWall ml9_196 k9_isWall e9_isWall ck9 ok.1 (⟨Nat.le_of_ble_eq_true rfl, Nat.le_of_ble_eq_true rfl⟩ : rOK B9_odds B9_isWall) rfl (Nat.le_of_ble_eq_true rfl) (Nat.le_of_ble_eq_true rfl) ⟨Nat.le_of_ble_eq_true rfl, Nat.le_of_ble_eq_true rfl⟩ rfl (wp_mono H (fun v9 M9 hq9 => ?_))
  clear H
  obtain ⟨r3, I1, L2, rfl, rfl, H⟩ := hq9
  show wp X B9_odds 5 [(0, .ref h), (1, .int x1), (2, .int x2), (3, .int x3), (4, .int x4), (5, .int x5)] [.int r3] (G, I1, L2) 0 0 _
  refine wp_if_eq (off := 33) (tgt := 38) (by decide +kernel) (by decide) (fun c4 => ?_) (fun c4 => ?_)
  · rw [if_pos c4] at H
    refine wp_ldc2 (idx := 288) (v := (-1)) (by decide +kernel) (in_g (List.mem_of_getElem? (i := 1508) (by decide +kernel)) rfl) ?_
    exact wp_lret (by decide +kernel) rfl (Nat.zero_le _) (Nat.zero_le _) ⟨_, _, _, rfl, rfl, H⟩
  · rw [if_neg c4] at H
    refine wp_aload_n (z := 0) (i := 0) (r := (some h)) 0 (by decide +kernel) rfl rfl ?_
    refine wp_iload_n (z := 2) (i := 2) (x := x2) 2 (by decide +kernel) rfl rfl ?_
    refine wp_callV (idx := 389) (B2 := B9_isLog) (As := [.int x2]) (a := h) (st := []) (by decide +kernel) m9_isLog ml9_389 k9_isLog e9_isLog ck9 ok.1 (⟨Nat.le_of_ble_eq_true rfl, Nat.le_of_ble_eq_true rfl⟩ : rOK B9_odds B9_isLog) rfl (Nat.le_of_ble_eq_true rfl) (Nat.le_of_ble_eq_true rfl) ⟨Nat.le_of_ble_eq_true rfl, Nat.le_of_ble_eq_true rfl⟩ rfl (wp_mono H (fun v9 M9 hq9 => ?_))
    clear H
    obtain ⟨r7, I5, L6, rfl, rfl, H⟩ := hq9
    show wp X B9_odds 13 [(0, .ref h), (1, .int x1), (2, .int x2), (3, .int x3), (4, .int x4), (5, .int x5)] [.int r7] (G, I5, L6) 0 0 _
    refine wp_if_eq (off := 25) (tgt := 38) (by decide +kernel) (by decide) (fun c8 => ?_) (fun c8 => ?_)
    · rw [if_pos c8] at H
      refine wp_ldc2 (idx := 288) (v := (-1)) (by decide +kernel) (in_g (List.mem_of_getElem? (i := 1508) (by decide +kernel)) rfl) ?_
      exact wp_lret (by decide +kernel) rfl (Nat.zero_le _) (Nat.zero_le _) ⟨_, _, _, rfl, rfl, H⟩
    · rw [if_neg c8] at H
      refine wp_iload_n (z := 3) (i := 3) (x := x3) 3 (by decide +kernel) rfl rfl ?_
      refine wp_iconst (z := 1) (v := 1) (by decide +kernel) (by decide) ?_
      refine wp_bipush (z := 8) (v := 8) (by decide +kernel) (by decide) ?_
      refine wp_callS (idx := 121) (B2 := B9_isIn) (As := [.int x3, .int 1, .int 8]) (st := []) (by decide +kernel) m9_isIn ml9_121 k9_isIn (⟨Nat.le_of_ble_eq_true rfl, Nat.le_of_ble_eq_true rfl⟩ : rOK B9_odds B9_isIn) rfl (Nat.le_of_ble_eq_true rfl) (Nat.le_of_ble_eq_true rfl) ⟨Nat.le_of_ble_eq_true rfl, Nat.le_of_ble_eq_true rfl⟩ rfl (wp_mono (b9_isIn (Q := (fun r I' L' => r = (v9_isIn x3 1 8) ∧ I5 = I' ∧ L6 = L'))  ⟨rfl, rfl, rfl⟩) (fun v9 M9 hq9 => ?_))
      obtain ⟨_, _, _, rfl, rfl, rfl, rfl, rfl⟩ := hq9
      show wp X B9_odds 23 [(0, .ref h), (1, .int x1), (2, .int x2), (3, .int x3), (4, .int x4), (5, .int x5)] [.int (v9_isIn x3 1 8)] (G, I5, L6) 0 0 _
      refine wp_if_eq (off := 15) (tgt := 38) (by decide +kernel) (by decide) (fun c9 => ?_) (fun c9 => ?_)
      · rw [if_pos c9] at H
        refine wp_ldc2 (idx := 288) (v := (-1)) (by decide +kernel) (in_g (List.mem_of_getElem? (i := 1508) (by decide +kernel)) rfl) ?_
        exact wp_lret (by decide +kernel) rfl (Nat.zero_le _) (Nat.zero_le _) ⟨_, _, _, rfl, rfl, H⟩
      · rw [if_neg c9] at H
        refine wp_iload (i := 4) (x := x4) 4 (by decide +kernel) rfl ?_
        refine wp_iconst (z := 0) (v := 0) (by decide +kernel) (by decide) ?_
        refine wp_iload_n (z := 3) (i := 3) (x := x3) 3 (by decide +kernel) rfl rfl ?_
        refine wp_iconst (z := 1) (v := 1) (by decide +kernel) (by decide) ?_
        refine wp_isub (by decide +kernel) ?_
        refine wp_callS (idx := 121) (B2 := B9_isIn) (As := [.int x4, .int 0, .int (x3 - 1)]) (st := []) (by decide +kernel) m9_isIn ml9_121 k9_isIn (⟨Nat.le_of_ble_eq_true rfl, Nat.le_of_ble_eq_true rfl⟩ : rOK B9_odds B9_isIn) rfl (Nat.le_of_ble_eq_true rfl) (Nat.le_of_ble_eq_true rfl) ⟨Nat.le_of_ble_eq_true rfl, Nat.le_of_ble_eq_true rfl⟩ rfl (wp_mono (b9_isIn (Q := (fun r I' L' => r = (v9_isIn x4 0 (x3 - 1)) ∧ I5 = I' ∧ L6 = L'))  ⟨rfl, rfl, rfl⟩) (fun v9 M9 hq9 => ?_))
        obtain ⟨_, _, _, rfl, rfl, rfl, rfl, rfl⟩ := hq9
        show wp X B9_odds 35 [(0, .ref h), (1, .int x1), (2, .int x2), (3, .int x3), (4, .int x4), (5, .int x5)] [.int (v9_isIn x4 0 (x3 - 1))] (G, I5, L6) 0 0 _
        refine wp_if_ne (off := 7) (tgt := 42) (by decide +kernel) (by decide) (fun c10 => ?_) (fun c10 => ?_)
        · rw [if_neg c10] at H
          refine wp_aload_n (z := 0) (i := 0) (r := (some h)) 0 (by decide +kernel) rfl rfl ?_
          refine wp_iload_n (z := 3) (i := 3) (x := x3) 3 (by decide +kernel) rfl rfl ?_
          refine wp_callV (idx := 414) (B2 := B9_laysFits) (As := [.int x3]) (a := h) (st := []) (by decide +kernel) m9_laysFits ml9_414 k9_laysFits e9_laysFits ck9 ok.1 (⟨Nat.le_of_ble_eq_true rfl, Nat.le_of_ble_eq_true rfl⟩ : rOK B9_odds B9_laysFits) rfl (Nat.le_of_ble_eq_true rfl) (Nat.le_of_ble_eq_true rfl) ⟨Nat.le_of_ble_eq_true rfl, Nat.le_of_ble_eq_true rfl⟩ rfl (wp_mono H (fun v9 M9 hq9 => ?_))
          clear H
          obtain ⟨I11, L12, rfl, rfl, H⟩ := hq9
          show wp X B9_odds 47 [(0, .ref h), (1, .int x1), (2, .int x2), (3, .int x3), (4, .int x4), (5, .int x5)] [] (G, I11, L12) 0 0 _
          refine wp_aload_n (z := 0) (i := 0) (r := (some h)) 0 (by decide +kernel) rfl rfl ?_
          refine wp_getI (idx := 396) (by decide +kernel) fl9_396 rfl ok.1 ?_
          refine wp_if_ne (off := 9) (tgt := 60) (by decide +kernel) (by decide) (fun c14 => ?_) (fun c14 => ?_)
          · rw [if_neg c14] at H
            refine wp_aload_n (z := 0) (i := 0) (r := (some h)) 0 (by decide +kernel) rfl rfl ?_
            refine wp_getS (idx := 63) (q := (h + 18)) (by decide +kernel) fl9_63 rfl ok.1 (okr9_44 ok) ?_
            refine wp_iload (i := 4) (x := x4) 4 (by decide +kernel) rfl ?_
            obtain ⟨o18, H⟩ := H
            refine wp_iald (j := (cl x4)) (by decide +kernel) (oks9_44 ok) o18 rfl ?_
            refine wp_i2l (by decide +kernel) ?_
            refine wp_aload_n (z := 0) (i := 0) (r := (some h)) 0 (by decide +kernel) rfl rfl ?_
            refine wp_getI (idx := 396) (by decide +kernel) fl9_396 rfl ok.1 ?_
            refine wp_i2l (by decide +kernel) ?_
            refine wp_iload (i := 5) (x := x5) 5 (by decide +kernel) rfl ?_
            refine wp_callS (idx := 292) (B2 := B9_parted) (As := [.long (Int32.toInt64 (I11 (h + 18) (cl x4))), .long (Int32.toInt64 (I11 h 38)), .int x5]) (st := []) (by decide +kernel) m9_parted ml9_292 k9_parted (⟨Nat.le_of_ble_eq_true rfl, Nat.le_of_ble_eq_true rfl⟩ : rOK B9_odds B9_parted) rfl (Nat.le_of_ble_eq_true rfl) (Nat.le_of_ble_eq_true rfl) ⟨Nat.le_of_ble_eq_true rfl, Nat.le_of_ble_eq_true rfl⟩ rfl (wp_mono H (fun v9 M9 hq9 => ?_))
            clear H
            obtain ⟨r17, I15, L16, rfl, rfl, H⟩ := hq9
            show wp X B9_odds 78 [(0, .ref h), (1, .int x1), (2, .int x2), (3, .int x3), (4, .int x4), (5, .int x5)] [.long r17] (G, I15, L16) 0 0 _
            exact wp_lret (by decide +kernel) rfl (Nat.zero_le _) (Nat.zero_le _) ⟨_, _, _, rfl, rfl, H⟩
          · rw [if_pos c14] at H
            refine wp_ldc2 (idx := 288) (v := (-1)) (by decide +kernel) (in_g (List.mem_of_getElem? (i := 1508) (by decide +kernel)) rfl) ?_
            refine wp_goto (off := 21) (tgt := 78) (by decide +kernel) (by decide) ?_
            exact wp_lret (by decide +kernel) rfl (Nat.zero_le _) (Nat.zero_le _) ⟨_, _, _, rfl, rfl, H⟩
        · rw [if_pos c10] at H
          refine wp_ldc2 (idx := 288) (v := (-1)) (by decide +kernel) (in_g (List.mem_of_getElem? (i := 1508) (by decide +kernel)) rfl) ?_
          exact wp_lret (by decide +kernel) rfl (Nat.zero_le _) (Nat.zero_le _) ⟨_, _, _, rfl, rfl, H⟩
/-! DeafWallModel.few(IIIZ)I -/
set_option maxRecDepth 20000 in
theorem b9_few {X : XX} {G : GG} {I : Nat → Nat → Int32} {L : Nat → Nat → Int64} {h : Nat} {x1 : Int32} {x2 : Int32} {x3 : Int32} {x4 : Int32} {Q : Int32 → (Nat → Nat → Int32) → (Nat → Nat → Int64) → Prop} (ok : OK9 G h) (H : wpI X B9_isWall 0 [(0, .ref h), (1, .int x1)] [] G I L (fun r3 I1 L2 => if r3 = (0 : Int32) then (Q (-1) I1 L2) else (wpI X B9_isLog 0 [(0, .ref h), (1, .int x2)] [] G I1 L2 (fun r7 I5 L6 => if r7 = (0 : Int32) then (Q (-1) I5 L6) else (if (v9_isIn x3 1 8) = (0 : Int32) then (Q (-1) I5 L6) else (wpV X B9_laysFits 0 [(0, .ref h), (1, .int x3)] [] G I5 L6 (fun I10 L11 => if x4 = (0 : Int32) then (Q (I10 h 41) I10 L11) else (Q (I10 h 42) I10 L11)))))))) : wpI X B9_few 0 [(0, .ref h), (1, .int x1), (2, .int x2), (3, .int x3), (4, .int x4)] [] G I L Q := by
  refine wp_aload_n (z := 0) (i := 0) (r := (some h)) 0 (by decide +kernel) rfl rfl ?_
  refine wp_iload_n (z := 1) (i := 1) (x := x1) 1 (by decide +kernel) rfl rfl ?_
  refine wp_callV (idx := 196) (B2 := B9_isWall) (As := [.int x1]) (a := h) (st := []) (by decide +kernel) m9_isWall ml9_196 k9_isWall e9_isWall ck9 ok.1 (⟨Nat.le_of_ble_eq_true rfl, Nat.le_of_ble_eq_true rfl⟩ : rOK B9_few B9_isWall) rfl (Nat.le_of_ble_eq_true rfl) (Nat.le_of_ble_eq_true rfl) ⟨Nat.le_of_ble_eq_true rfl, Nat.le_of_ble_eq_true rfl⟩ rfl (wp_mono H (fun v9 M9 hq9 => ?_))
  clear H
  obtain ⟨r3, I1, L2, rfl, rfl, H⟩ := hq9
  show wp X B9_few 5 [(0, .ref h), (1, .int x1), (2, .int x2), (3, .int x3), (4, .int x4)] [.int r3] (G, I1, L2) 0 0 _
  refine wp_if_eq (off := 21) (tgt := 26) (by decide +kernel) (by decide) (fun c4 => ?_) (fun c4 => ?_)
  · rw [if_pos c4] at H
    refine wp_iconst (z := -1) (v := (-1)) (by decide +kernel) (by decide) ?_
    exact wp_iret (by decide +kernel) rfl (Nat.zero_le _) (Nat.zero_le _) ⟨_, _, _, rfl, rfl, H⟩
  · rw [if_neg c4] at H
    refine wp_aload_n (z := 0) (i := 0) (r := (some h)) 0 (by decide +kernel) rfl rfl ?_
    refine wp_iload_n (z := 2) (i := 2) (x := x2) 2 (by decide +kernel) rfl rfl ?_
    refine wp_callV (idx := 389) (B2 := B9_isLog) (As := [.int x2]) (a := h) (st := []) (by decide +kernel) m9_isLog ml9_389 k9_isLog e9_isLog ck9 ok.1 (⟨Nat.le_of_ble_eq_true rfl, Nat.le_of_ble_eq_true rfl⟩ : rOK B9_few B9_isLog) rfl (Nat.le_of_ble_eq_true rfl) (Nat.le_of_ble_eq_true rfl) ⟨Nat.le_of_ble_eq_true rfl, Nat.le_of_ble_eq_true rfl⟩ rfl (wp_mono H (fun v9 M9 hq9 => ?_))
    clear H
    obtain ⟨r7, I5, L6, rfl, rfl, H⟩ := hq9
    show wp X B9_few 13 [(0, .ref h), (1, .int x1), (2, .int x2), (3, .int x3), (4, .int x4)] [.int r7] (G, I5, L6) 0 0 _
    refine wp_if_eq (off := 13) (tgt := 26) (by decide +kernel) (by decide) (fun c8 => ?_) (fun c8 => ?_)
    · rw [if_pos c8] at H
      refine wp_iconst (z := -1) (v := (-1)) (by decide +kernel) (by decide) ?_
      exact wp_iret (by decide +kernel) rfl (Nat.zero_le _) (Nat.zero_le _) ⟨_, _, _, rfl, rfl, H⟩
    · rw [if_neg c8] at H
      refine wp_iload_n (z := 3) (i := 3) (x := x3) 3 (by decide +kernel) rfl rfl ?_
      refine wp_iconst (z := 1) (v := 1) (by decide +kernel) (by decide) ?_
      refine wp_bipush (z := 8) (v := 8) (by decide +kernel) (by decide) ?_
      refine wp_callS (idx := 121) (B2 := B9_isIn) (As := [.int x3, .int 1, .int 8]) (st := []) (by decide +kernel) m9_isIn ml9_121 k9_isIn (⟨Nat.le_of_ble_eq_true rfl, Nat.le_of_ble_eq_true rfl⟩ : rOK B9_few B9_isIn) rfl (Nat.le_of_ble_eq_true rfl) (Nat.le_of_ble_eq_true rfl) ⟨Nat.le_of_ble_eq_true rfl, Nat.le_of_ble_eq_true rfl⟩ rfl (wp_mono (b9_isIn (Q := (fun r I' L' => r = (v9_isIn x3 1 8) ∧ I5 = I' ∧ L6 = L'))  ⟨rfl, rfl, rfl⟩) (fun v9 M9 hq9 => ?_))
      obtain ⟨_, _, _, rfl, rfl, rfl, rfl, rfl⟩ := hq9
      show wp X B9_few 23 [(0, .ref h), (1, .int x1), (2, .int x2), (3, .int x3), (4, .int x4)] [.int (v9_isIn x3 1 8)] (G, I5, L6) 0 0 _
      refine wp_if_ne (off := 5) (tgt := 28) (by decide +kernel) (by decide) (fun c9 => ?_) (fun c9 => ?_)
      · rw [if_neg c9] at H
        refine wp_aload_n (z := 0) (i := 0) (r := (some h)) 0 (by decide +kernel) rfl rfl ?_
        refine wp_iload_n (z := 3) (i := 3) (x := x3) 3 (by decide +kernel) rfl rfl ?_
        refine wp_callV (idx := 414) (B2 := B9_laysFits) (As := [.int x3]) (a := h) (st := []) (by decide +kernel) m9_laysFits ml9_414 k9_laysFits e9_laysFits ck9 ok.1 (⟨Nat.le_of_ble_eq_true rfl, Nat.le_of_ble_eq_true rfl⟩ : rOK B9_few B9_laysFits) rfl (Nat.le_of_ble_eq_true rfl) (Nat.le_of_ble_eq_true rfl) ⟨Nat.le_of_ble_eq_true rfl, Nat.le_of_ble_eq_true rfl⟩ rfl (wp_mono H (fun v9 M9 hq9 => ?_))
        clear H
        obtain ⟨I10, L11, rfl, rfl, H⟩ := hq9
        show wp X B9_few 33 [(0, .ref h), (1, .int x1), (2, .int x2), (3, .int x3), (4, .int x4)] [] (G, I10, L11) 0 0 _
        refine wp_iload (i := 4) (x := x4) 4 (by decide +kernel) rfl ?_
        refine wp_if_eq (off := 10) (tgt := 45) (by decide +kernel) (by decide) (fun c13 => ?_) (fun c13 => ?_)
        · rw [if_pos c13] at H
          refine wp_aload_n (z := 0) (i := 0) (r := (some h)) 0 (by decide +kernel) rfl rfl ?_
          refine wp_getI (idx := 405) (by decide +kernel) fl9_405 rfl ok.1 ?_
          exact wp_iret (by decide +kernel) rfl (Nat.zero_le _) (Nat.zero_le _) ⟨_, _, _, rfl, rfl, H⟩
        · rw [if_neg c13] at H
          refine wp_aload_n (z := 0) (i := 0) (r := (some h)) 0 (by decide +kernel) rfl rfl ?_
          refine wp_getI (idx := 408) (by decide +kernel) fl9_408 rfl ok.1 ?_
          refine wp_goto (off := 7) (tgt := 49) (by decide +kernel) (by decide) ?_
          exact wp_iret (by decide +kernel) rfl (Nat.zero_le _) (Nat.zero_le _) ⟨_, _, _, rfl, rfl, H⟩
      · rw [if_pos c9] at H
        refine wp_iconst (z := -1) (v := (-1)) (by decide +kernel) (by decide) ?_
        exact wp_iret (by decide +kernel) rfl (Nat.zero_le _) (Nat.zero_le _) ⟨_, _, _, rfl, rfl, H⟩
/-! DeafWallModel.brick(IIIII)I -/
set_option maxRecDepth 20000 in
theorem b9_brick {X : XX} {G : GG} {I : Nat → Nat → Int32} {L : Nat → Nat → Int64} {h : Nat} {x1 : Int32} {x2 : Int32} {x3 : Int32} {x4 : Int32} {x5 : Int32} {Q : Int32 → (Nat → Nat → Int32) → (Nat → Nat → Int64) → Prop} (ok : OK9 G h) (H : wpI X B9_isWall 0 [(0, .ref h), (1, .int x1)] [] G I L (fun r3 I1 L2 => if r3 = (0 : Int32) then (Q (-1) I1 L2) else (wpI X B9_isLog 0 [(0, .ref h), (1, .int x2)] [] G I1 L2 (fun r7 I5 L6 => if r7 = (0 : Int32) then (Q (-1) I5 L6) else (if (v9_isCell I5 h x3) = (0 : Int32) then (Q (-1) I5 L6) else (if (v9_isTune x4 x5) = (0 : Int32) then (Q (-1) I5 L6) else (wpI X B9_brick 42 [(0, .ref h), (3, .int x3), (4, .int x4), (5, .int x5), (6, .int 0), (7, .int 1)] [] G I5 L6 Q))))))) : wpI X B9_brick 0 [(0, .ref h), (1, .int x1), (2, .int x2), (3, .int x3), (4, .int x4), (5, .int x5)] [] G I L Q := by
  refine wp_aload_n (z := 0) (i := 0) (r := (some h)) 0 (by decide +kernel) rfl rfl ?_
  refine wp_iload_n (z := 1) (i := 1) (x := x1) 1 (by decide +kernel) rfl rfl ?_
  refine wp_callV (idx := 196) (B2 := B9_isWall) (As := [.int x1]) (a := h) (st := []) (by decide +kernel) m9_isWall ml9_196 k9_isWall e9_isWall ck9 ok.1 (⟨Nat.le_of_ble_eq_true rfl, Nat.le_of_ble_eq_true rfl⟩ : rOK B9_brick B9_isWall) rfl (Nat.le_of_ble_eq_true rfl) (Nat.le_of_ble_eq_true rfl) ⟨Nat.le_of_ble_eq_true rfl, Nat.le_of_ble_eq_true rfl⟩ rfl (wp_mono H (fun v9 M9 hq9 => ?_))
  clear H
  obtain ⟨r3, I1, L2, rfl, rfl, H⟩ := hq9
  show wp X B9_brick 5 [(0, .ref h), (1, .int x1), (2, .int x2), (3, .int x3), (4, .int x4), (5, .int x5)] [.int r3] (G, I1, L2) 0 0 _
  refine wp_if_eq (off := 29) (tgt := 34) (by decide +kernel) (by decide) (fun c4 => ?_) (fun c4 => ?_)
  · rw [if_pos c4] at H
    refine wp_iconst (z := -1) (v := (-1)) (by decide +kernel) (by decide) ?_
    exact wp_iret (by decide +kernel) rfl (Nat.zero_le _) (Nat.zero_le _) ⟨_, _, _, rfl, rfl, H⟩
  · rw [if_neg c4] at H
    refine wp_aload_n (z := 0) (i := 0) (r := (some h)) 0 (by decide +kernel) rfl rfl ?_
    refine wp_iload_n (z := 2) (i := 2) (x := x2) 2 (by decide +kernel) rfl rfl ?_
    refine wp_callV (idx := 389) (B2 := B9_isLog) (As := [.int x2]) (a := h) (st := []) (by decide +kernel) m9_isLog ml9_389 k9_isLog e9_isLog ck9 ok.1 (⟨Nat.le_of_ble_eq_true rfl, Nat.le_of_ble_eq_true rfl⟩ : rOK B9_brick B9_isLog) rfl (Nat.le_of_ble_eq_true rfl) (Nat.le_of_ble_eq_true rfl) ⟨Nat.le_of_ble_eq_true rfl, Nat.le_of_ble_eq_true rfl⟩ rfl (wp_mono H (fun v9 M9 hq9 => ?_))
    clear H
    obtain ⟨r7, I5, L6, rfl, rfl, H⟩ := hq9
    show wp X B9_brick 13 [(0, .ref h), (1, .int x1), (2, .int x2), (3, .int x3), (4, .int x4), (5, .int x5)] [.int r7] (G, I5, L6) 0 0 _
    refine wp_if_eq (off := 21) (tgt := 34) (by decide +kernel) (by decide) (fun c8 => ?_) (fun c8 => ?_)
    · rw [if_pos c8] at H
      refine wp_iconst (z := -1) (v := (-1)) (by decide +kernel) (by decide) ?_
      exact wp_iret (by decide +kernel) rfl (Nat.zero_le _) (Nat.zero_le _) ⟨_, _, _, rfl, rfl, H⟩
    · rw [if_neg c8] at H
      refine wp_aload_n (z := 0) (i := 0) (r := (some h)) 0 (by decide +kernel) rfl rfl ?_
      refine wp_iload_n (z := 3) (i := 3) (x := x3) 3 (by decide +kernel) rfl rfl ?_
      refine wp_callV (idx := 214) (B2 := B9_isCell) (As := [.int x3]) (a := h) (st := []) (by decide +kernel) m9_isCell ml9_214 k9_isCell e9_isCell ck9 ok.1 (⟨Nat.le_of_ble_eq_true rfl, Nat.le_of_ble_eq_true rfl⟩ : rOK B9_brick B9_isCell) rfl (Nat.le_of_ble_eq_true rfl) (Nat.le_of_ble_eq_true rfl) ⟨Nat.le_of_ble_eq_true rfl, Nat.le_of_ble_eq_true rfl⟩ rfl (wp_mono (b9_isCell (Q := (fun r I' L' => r = (v9_isCell I5 h x3) ∧ I5 = I' ∧ L6 = L')) ok ⟨rfl, rfl, rfl⟩) (fun v9 M9 hq9 => ?_))
      obtain ⟨_, _, _, rfl, rfl, rfl, rfl, rfl⟩ := hq9
      show wp X B9_brick 21 [(0, .ref h), (1, .int x1), (2, .int x2), (3, .int x3), (4, .int x4), (5, .int x5)] [.int (v9_isCell I5 h x3)] (G, I5, L6) 0 0 _
      refine wp_if_eq (off := 13) (tgt := 34) (by decide +kernel) (by decide) (fun c9 => ?_) (fun c9 => ?_)
      · rw [if_pos c9] at H
        refine wp_iconst (z := -1) (v := (-1)) (by decide +kernel) (by decide) ?_
        exact wp_iret (by decide +kernel) rfl (Nat.zero_le _) (Nat.zero_le _) ⟨_, _, _, rfl, rfl, H⟩
      · rw [if_neg c9] at H
        refine wp_iload (i := 4) (x := x4) 4 (by decide +kernel) rfl ?_
        refine wp_iload (i := 5) (x := x5) 5 (by decide +kernel) rfl ?_
        refine wp_callS (idx := 259) (B2 := B9_isTune) (As := [.int x4, .int x5]) (st := []) (by decide +kernel) m9_isTune ml9_259 k9_isTune (⟨Nat.le_of_ble_eq_true rfl, Nat.le_of_ble_eq_true rfl⟩ : rOK B9_brick B9_isTune) rfl (Nat.le_of_ble_eq_true rfl) (Nat.le_of_ble_eq_true rfl) ⟨Nat.le_of_ble_eq_true rfl, Nat.le_of_ble_eq_true rfl⟩ rfl (wp_mono (b9_isTune (Q := (fun r I' L' => r = (v9_isTune x4 x5) ∧ I5 = I' ∧ L6 = L'))  ⟨rfl, rfl, rfl⟩) (fun v9 M9 hq9 => ?_))
        obtain ⟨_, _, _, rfl, rfl, rfl, rfl, rfl⟩ := hq9
        show wp X B9_brick 31 [(0, .ref h), (1, .int x1), (2, .int x2), (3, .int x3), (4, .int x4), (5, .int x5)] [.int (v9_isTune x4 x5)] (G, I5, L6) 0 0 _
        refine wp_if_ne (off := 5) (tgt := 36) (by decide +kernel) (by decide) (fun c10 => ?_) (fun c10 => ?_)
        · rw [if_neg c10] at H
          refine wp_iconst (z := 0) (v := 0) (by decide +kernel) (by decide) ?_
          refine wp_istore (i := 6) (lv' := [(6, .int 0), (0, .ref h), (1, .int x1), (2, .int x2), (3, .int x3), (4, .int x4), (5, .int x5)]) (by decide +kernel) (by decide) rfl ?_
          refine wp_iconst (z := 1) (v := 1) (by decide +kernel) (by decide) ?_
          refine wp_istore (i := 7) (lv' := [(7, .int 1), (6, .int 0), (0, .ref h), (1, .int x1), (2, .int x2), (3, .int x3), (4, .int x4), (5, .int x5)]) (by decide +kernel) (by decide) rfl ?_
          exact wp_sub [2, 5, 6, 7, 1, 0] rfl H
        · rw [if_pos c10] at H
          refine wp_iconst (z := -1) (v := (-1)) (by decide +kernel) (by decide) ?_
          exact wp_iret (by decide +kernel) rfl (Nat.zero_le _) (Nat.zero_le _) ⟨_, _, _, rfl, rfl, H⟩
set_option maxRecDepth 20000 in
theorem b9_brick_42 {X : XX} {G : GG} {I : Nat → Nat → Int32} {L : Nat → Nat → Int64} {h : Nat} {x3 : Int32} {x4 : Int32} {x5 : Int32} {x6 : Int32} {x7 : Int32} {Q : Int32 → (Nat → Nat → Int32) → (Nat → Nat → Int64) → Prop} (ok : OK9 G h) (H : if 10 ≤ x7 then (Q x6 I L) else (wpV X B9_begins 0 [(0, .ref h)] [] G I L (fun I2 L3 => vp_in x3 32 ∧ (∀ I5, I5 = up2 I2 (h + 4) (cl x3) x7 → wpI X B9_brick 64 [(0, .ref h), (3, .int x3), (4, .int x4), (5, .int x5), (6, .int x6), (7, .int x7), (8, .int 0)] [] G I5 L3 Q)))) : wpI X B9_brick 42 [(0, .ref h), (3, .int x3), (4, .int x4), (5, .int x5), (6, .int x6), (7, .int x7)] [] G I L Q := by
  refine wp_iload (i := 7) (x := x7) 5 (by decide +kernel) rfl ?_
  refine wp_bipush (z := 10) (v := 10) (by decide +kernel) (by decide) ?_
  refine wp_icmp_ge (off := 85) (tgt := 131) (by decide +kernel) (by decide) (fun c1 => ?_) (fun c1 => ?_)
  · rw [if_pos c1] at H
    refine wp_iload (i := 6) (x := x6) 4 (by decide +kernel) rfl ?_
    exact wp_iret (by decide +kernel) rfl (Nat.zero_le _) (Nat.zero_le _) ⟨_, _, _, rfl, rfl, H⟩
  · rw [if_neg c1] at H
    refine wp_aload_n (z := 0) (i := 0) (r := (some h)) 0 (by decide +kernel) rfl rfl ?_
    refine wp_callV (idx := 253) (B2 := B9_begins) (As := []) (a := h) (st := []) (by decide +kernel) m9_begins ml9_253 k9_begins e9_begins ck9 ok.1 (⟨Nat.le_of_ble_eq_true rfl, Nat.le_of_ble_eq_true rfl⟩ : rOK B9_brick B9_begins) rfl (Nat.le_of_ble_eq_true rfl) (Nat.le_of_ble_eq_true rfl) ⟨Nat.le_of_ble_eq_true rfl, Nat.le_of_ble_eq_true rfl⟩ rfl (wp_mono H (fun v9 M9 hq9 => ?_))
    clear H
    obtain ⟨I2, L3, rfl, rfl, H⟩ := hq9
    show wp X B9_brick 53 [(0, .ref h), (3, .int x3), (4, .int x4), (5, .int x5), (6, .int x6), (7, .int x7)] [] (G, I2, L3) 0 0 _
    refine wp_aload_n (z := 0) (i := 0) (r := (some h)) 0 (by decide +kernel) rfl rfl ?_
    refine wp_getS (idx := 20) (q := (h + 4)) (by decide +kernel) fl9_20 rfl ok.1 (okr9_23 ok) ?_
    refine wp_iload_n (z := 3) (i := 3) (x := x3) 1 (by decide +kernel) rfl rfl ?_
    refine wp_iload (i := 7) (x := x7) 5 (by decide +kernel) rfl ?_
    obtain ⟨o6, H⟩ := H
    refine wp_iast (j := (cl x3)) (by decide +kernel) (oks9_23 ok) o6 rfl ?_
    refine wp_memI (fun I5 eI5 => ?_)
    replace H := H I5 eI5
    refine wp_iconst (z := 0) (v := 0) (by decide +kernel) (by decide) ?_
    refine wp_istore (i := 8) (lv' := [(8, .int 0), (0, .ref h), (3, .int x3), (4, .int x4), (5, .int x5), (6, .int x6), (7, .int x7)]) (by decide +kernel) (by decide) rfl ?_
    exact wp_sub [1, 2, 3, 4, 5, 6, 0] rfl H
set_option maxRecDepth 20000 in
theorem b9_brick_64 {X : XX} {G : GG} {I : Nat → Nat → Int32} {L : Nat → Nat → Int64} {h : Nat} {x3 : Int32} {x4 : Int32} {x5 : Int32} {x6 : Int32} {x7 : Int32} {x8 : Int32} {Q : Int32 → (Nat → Nat → Int32) → (Nat → Nat → Int64) → Prop} (ok : OK9 G h) (H : if 20 ≤ x8 then (wpI X B9_isSo 0 [(0, .ref h)] [] G I L (fun r4 I2 L3 => if r4 = (0 : Int32) then (wpI X B9_brick 42 [(0, .ref h), (3, .int x3), (4, .int x4), (5, .int x5), (6, .int (x6 ||| 0)), (7, .int (x7 + 1))] [] G I2 L3 Q) else (∀ u6, u6 = (x6 ||| ((1 : Int32) <<< (x7 &&& 31))) → wpI X B9_brick 42 [(0, .ref h), (3, .int x3), (4, .int x4), (5, .int x5), (6, .int u6), (7, .int (x7 + 1))] [] G I2 L3 Q))) else (if x4 ≤ x8 then (wpV X B9_beat 0 [(0, .ref h), (1, .int 0)] [] G I L (fun I8 L9 => wpI X B9_brick 64 [(0, .ref h), (3, .int x3), (4, .int x4), (5, .int x5), (6, .int x6), (7, .int x7), (8, .int (x8 + 1))] [] G I8 L9 Q)) else (if ((x5 >>> (x8 &&& 31)) &&& 1) = 1 then (wpV X B9_beat 0 [(0, .ref h), (1, .int 9)] [] G I L (fun I15 L16 => wpI X B9_brick 64 [(0, .ref h), (3, .int x3), (4, .int x4), (5, .int x5), (6, .int x6), (7, .int x7), (8, .int (x8 + 1))] [] G I15 L16 Q)) else (wpV X B9_beat 0 [(0, .ref h), (1, .int 0)] [] G I L (fun I12 L13 => wpI X B9_brick 64 [(0, .ref h), (3, .int x3), (4, .int x4), (5, .int x5), (6, .int x6), (7, .int x7), (8, .int (x8 + 1))] [] G I12 L13 Q))))) : wpI X B9_brick 64 [(0, .ref h), (3, .int x3), (4, .int x4), (5, .int x5), (6, .int x6), (7, .int x7), (8, .int x8)] [] G I L Q := by
  refine wp_iload (i := 8) (x := x8) 6 (by decide +kernel) rfl ?_
  refine wp_bipush (z := 20) (v := 20) (by decide +kernel) (by decide) ?_
  refine wp_icmp_ge (off := 37) (tgt := 105) (by decide +kernel) (by decide) (fun c1 => ?_) (fun c1 => ?_)
  · rw [if_pos c1] at H
    refine wp_iload (i := 6) (x := x6) 4 (by decide +kernel) rfl ?_
    refine wp_aload_n (z := 0) (i := 0) (r := (some h)) 0 (by decide +kernel) rfl rfl ?_
    refine wp_callV (idx := 392) (B2 := B9_isSo) (As := []) (a := h) (st := [.int x6]) (by decide +kernel) m9_isSo ml9_392 k9_isSo e9_isSo ck9 ok.1 (⟨Nat.le_of_ble_eq_true rfl, Nat.le_of_ble_eq_true rfl⟩ : rOK B9_brick B9_isSo) rfl (Nat.le_of_ble_eq_true rfl) (Nat.le_of_ble_eq_true rfl) ⟨Nat.le_of_ble_eq_true rfl, Nat.le_of_ble_eq_true rfl⟩ rfl (wp_mono H (fun v9 M9 hq9 => ?_))
    clear H
    obtain ⟨r4, I2, L3, rfl, rfl, H⟩ := hq9
    show wp X B9_brick 111 [(0, .ref h), (3, .int x3), (4, .int x4), (5, .int x5), (6, .int x6), (7, .int x7), (8, .int x8)] [.int r4, .int x6] (G, I2, L3) 0 0 _
    refine wp_if_eq (off := 10) (tgt := 121) (by decide +kernel) (by decide) (fun c5 => ?_) (fun c5 => ?_)
    · rw [if_pos c5] at H
      refine wp_iconst (z := 0) (v := 0) (by decide +kernel) (by decide) ?_
      refine wp_ior (by decide +kernel) ?_
      refine wp_istore (i := 6) (lv' := [(6, .int (x6 ||| 0)), (0, .ref h), (3, .int x3), (4, .int x4), (5, .int x5), (7, .int x7), (8, .int x8)]) (by decide +kernel) (by decide) rfl ?_
      refine wp_iinc (i := 7) (z := 1) (v := 1) (lv' := [(7, .int (x7 + 1)), (6, .int (x6 ||| 0)), (0, .ref h), (3, .int x3), (4, .int x4), (5, .int x5), (8, .int x8)]) 5 (by decide +kernel) rfl (by decide) (by decide) rfl ?_
      refine wp_goto (off := -86) (tgt := 42) (by decide +kernel) (by decide) ?_
      exact wp_sub [2, 3, 4, 5, 1, 0] rfl H
    · rw [if_neg c5] at H
      refine wp_iconst (z := 1) (v := 1) (by decide +kernel) (by decide) ?_
      refine wp_iload (i := 7) (x := x7) 5 (by decide +kernel) rfl ?_
      refine wp_ishl (by decide +kernel) ?_
      refine wp_goto (off := 4) (tgt := 122) (by decide +kernel) (by decide) ?_
      refine wp_ior (by decide +kernel) ?_
      refine wp_topi (fun u6 eu6 => ?_)
      replace H := H u6 eu6
      refine wp_istore (i := 6) (lv' := [(6, .int u6), (0, .ref h), (3, .int x3), (4, .int x4), (5, .int x5), (7, .int x7), (8, .int x8)]) (by decide +kernel) (by decide) rfl ?_
      refine wp_iinc (i := 7) (z := 1) (v := 1) (lv' := [(7, .int (x7 + 1)), (6, .int u6), (0, .ref h), (3, .int x3), (4, .int x4), (5, .int x5), (8, .int x8)]) 5 (by decide +kernel) rfl (by decide) (by decide) rfl ?_
      refine wp_goto (off := -86) (tgt := 42) (by decide +kernel) (by decide) ?_
      exact wp_sub [2, 3, 4, 5, 1, 0] rfl H
  · rw [if_neg c1] at H
    refine wp_aload_n (z := 0) (i := 0) (r := (some h)) 0 (by decide +kernel) rfl rfl ?_
    refine wp_iload (i := 8) (x := x8) 6 (by decide +kernel) rfl ?_
    refine wp_iload (i := 4) (x := x4) 2 (by decide +kernel) rfl ?_
    refine wp_icmp_ge (off := 19) (tgt := 95) (by decide +kernel) (by decide) (fun c7 => ?_) (fun c7 => ?_)
    · rw [if_pos c7] at H
      refine wp_iconst (z := 0) (v := 0) (by decide +kernel) (by decide) ?_
      refine wp_callV (idx := 256) (B2 := B9_beat) (As := [.int 0]) (a := h) (st := []) (by decide +kernel) m9_beat ml9_256 k9_beat e9_beat ck9 ok.1 (⟨Nat.le_of_ble_eq_true rfl, Nat.le_of_ble_eq_true rfl⟩ : rOK B9_brick B9_beat) rfl (Nat.le_of_ble_eq_true rfl) (Nat.le_of_ble_eq_true rfl) ⟨Nat.le_of_ble_eq_true rfl, Nat.le_of_ble_eq_true rfl⟩ rfl (wp_mono H (fun v9 M9 hq9 => ?_))
      clear H
      obtain ⟨I8, L9, rfl, rfl, H⟩ := hq9
      show wp X B9_brick 99 [(0, .ref h), (3, .int x3), (4, .int x4), (5, .int x5), (6, .int x6), (7, .int x7), (8, .int x8)] [] (G, I8, L9) 0 0 _
      refine wp_iinc (i := 8) (z := 1) (v := 1) (lv' := [(8, .int (x8 + 1)), (0, .ref h), (3, .int x3), (4, .int x4), (5, .int x5), (6, .int x6), (7, .int x7)]) 6 (by decide +kernel) rfl (by decide) (by decide) rfl ?_
      refine wp_goto (off := -38) (tgt := 64) (by decide +kernel) (by decide) ?_
      exact wp_sub [1, 2, 3, 4, 5, 6, 0] rfl H
    · rw [if_neg c7] at H
      refine wp_iload (i := 5) (x := x5) 3 (by decide +kernel) rfl ?_
      refine wp_iload (i := 8) (x := x8) 6 (by decide +kernel) rfl ?_
      refine wp_ishr (by decide +kernel) ?_
      refine wp_iconst (z := 1) (v := 1) (by decide +kernel) (by decide) ?_
      refine wp_iand (by decide +kernel) ?_
      refine wp_iconst (z := 1) (v := 1) (by decide +kernel) (by decide) ?_
      refine wp_icmp_ne (off := 8) (tgt := 95) (by decide +kernel) (by decide) (fun c11 => ?_) (fun c11 => ?_)
      · rw [if_neg c11] at H
        refine wp_iconst (z := 0) (v := 0) (by decide +kernel) (by decide) ?_
        refine wp_callV (idx := 256) (B2 := B9_beat) (As := [.int 0]) (a := h) (st := []) (by decide +kernel) m9_beat ml9_256 k9_beat e9_beat ck9 ok.1 (⟨Nat.le_of_ble_eq_true rfl, Nat.le_of_ble_eq_true rfl⟩ : rOK B9_brick B9_beat) rfl (Nat.le_of_ble_eq_true rfl) (Nat.le_of_ble_eq_true rfl) ⟨Nat.le_of_ble_eq_true rfl, Nat.le_of_ble_eq_true rfl⟩ rfl (wp_mono H (fun v9 M9 hq9 => ?_))
        clear H
        obtain ⟨I12, L13, rfl, rfl, H⟩ := hq9
        show wp X B9_brick 99 [(0, .ref h), (3, .int x3), (4, .int x4), (5, .int x5), (6, .int x6), (7, .int x7), (8, .int x8)] [] (G, I12, L13) 0 0 _
        refine wp_iinc (i := 8) (z := 1) (v := 1) (lv' := [(8, .int (x8 + 1)), (0, .ref h), (3, .int x3), (4, .int x4), (5, .int x5), (6, .int x6), (7, .int x7)]) 6 (by decide +kernel) rfl (by decide) (by decide) rfl ?_
        refine wp_goto (off := -38) (tgt := 64) (by decide +kernel) (by decide) ?_
        exact wp_sub [1, 2, 3, 4, 5, 6, 0] rfl H
      · rw [if_pos c11] at H
        refine wp_bipush (z := 9) (v := 9) (by decide +kernel) (by decide) ?_
        refine wp_goto (off := 4) (tgt := 96) (by decide +kernel) (by decide) ?_
        refine wp_callV (idx := 256) (B2 := B9_beat) (As := [.int 9]) (a := h) (st := []) (by decide +kernel) m9_beat ml9_256 k9_beat e9_beat ck9 ok.1 (⟨Nat.le_of_ble_eq_true rfl, Nat.le_of_ble_eq_true rfl⟩ : rOK B9_brick B9_beat) rfl (Nat.le_of_ble_eq_true rfl) (Nat.le_of_ble_eq_true rfl) ⟨Nat.le_of_ble_eq_true rfl, Nat.le_of_ble_eq_true rfl⟩ rfl (wp_mono H (fun v9 M9 hq9 => ?_))
        clear H
        obtain ⟨I15, L16, rfl, rfl, H⟩ := hq9
        show wp X B9_brick 99 [(0, .ref h), (3, .int x3), (4, .int x4), (5, .int x5), (6, .int x6), (7, .int x7), (8, .int x8)] [] (G, I15, L16) 0 0 _
        refine wp_iinc (i := 8) (z := 1) (v := 1) (lv' := [(8, .int (x8 + 1)), (0, .ref h), (3, .int x3), (4, .int x4), (5, .int x5), (6, .int x6), (7, .int x7)]) 6 (by decide +kernel) rfl (by decide) (by decide) rfl ?_
        refine wp_goto (off := -38) (tgt := 64) (by decide +kernel) (by decide) ?_
        exact wp_sub [1, 2, 3, 4, 5, 6, 0] rfl H
/-! DeafWallModel.below(I)I -/
set_option maxRecDepth 20000 in
theorem b9_below {X : XX} {G : GG} {I : Nat → Nat → Int32} {L : Nat → Nat → Int64} {h : Nat} {x1 : Int32} {Q : Int32 → (Nat → Nat → Int32) → (Nat → Nat → Int64) → Prop} (ok : OK9 G h) (H : ∀ I1, I1 = up2 I h 45 (((I h 45) * 1103515245) + 12345) → ¬ x1 = 0 ∧ (Q (((Int32.toUInt32 (I1 h 45) >>> (Int32.toUInt32 16 &&& Int32.toUInt32 31)).toInt32) - ((Int32.toUInt32 (I1 h 45) >>> (Int32.toUInt32 16 &&& Int32.toUInt32 31)).toInt32) / x1 * x1) I1 L)) : wpI X B9_below 0 [(0, .ref h), (1, .int x1)] [] G I L Q := by
  refine wp_aload_n (z := 0) (i := 0) (r := (some h)) 0 (by decide +kernel) rfl rfl ?_
  refine wp_aload_n (z := 0) (i := 0) (r := (some h)) 0 (by decide +kernel) rfl rfl ?_
  refine wp_getI (idx := 420) (by decide +kernel) fl9_420 rfl ok.1 ?_
  refine wp_ldcw (idx := 423) (v := 1103515245) (by decide +kernel) (in_g (List.mem_of_getElem? (i := 1725) (by decide +kernel)) rfl) ?_
  refine wp_imul (by decide +kernel) ?_
  refine wp_sipush (z := 12345) (v := 12345) (by decide +kernel) (by decide) ?_
  refine wp_iadd (by decide +kernel) ?_
  refine wp_putI (idx := 420) (by decide +kernel) fl9_420 rfl ok.1 ?_
  refine wp_memI (fun I1 eI1 => ?_)
  replace H := H I1 eI1
  refine wp_aload_n (z := 0) (i := 0) (r := (some h)) 0 (by decide +kernel) rfl rfl ?_
  refine wp_getI (idx := 420) (by decide +kernel) fl9_420 rfl ok.1 ?_
  refine wp_bipush (z := 16) (v := 16) (by decide +kernel) (by decide) ?_
  refine wp_iushr (by decide +kernel) ?_
  refine wp_iload_n (z := 1) (i := 1) (x := x1) 1 (by decide +kernel) rfl rfl ?_
  obtain ⟨o2, H⟩ := H
  refine wp_irem (by decide +kernel) o2 ?_
  exact wp_iret (by decide +kernel) rfl (Nat.zero_le _) (Nat.zero_le _) ⟨_, _, _, rfl, rfl, H⟩
/-! DeafWallModel.draws()V -/
set_option maxRecDepth 20000 in
theorem b9_draws {X : XX} {G : GG} {I : Nat → Nat → Int32} {L : Nat → Nat → Int64} {h : Nat} {Q : (Nat → Nat → Int32) → (Nat → Nat → Int64) → Prop} (ok : OK9 G h) (H : wpI X B9_below 0 [(0, .ref h), (1, .int 10)] [] G I L (fun r3 I1 L2 => if 5 ≤ r3 then (if 7 ≤ r3 then (if (I1 h 15) = (0 : Int32) then (Q I1 L2) else (wpI X B9_below 0 [(0, .ref h), (1, .int (I1 h 15))] [] G I1 L2 (fun r9 I7 L8 => if r3 = 9 then (wpI X B9_below 0 [(0, .ref h), (1, .int (I7 h 13))] [] G I7 L8 (fun r16 I14 L15 => wpI X B9_moves 0 [(0, .ref h), (1, .int r9), (2, .int r16)] [] G I14 L15 (fun r19 I17 L18 => Q I17 L18))) else (wpI X B9_does 0 [(0, .ref h), (1, .int (r3 - 4)), (2, .int r9), (3, .int (-1))] [] G I7 L8 (fun r13 I11 L12 => Q I11 L12))))) else (wpI X B9_below 0 [(0, .ref h), (1, .int (I1 h 13))] [] G I1 L2 (fun r22 I20 L21 => if r3 = 5 then (wpI X B9_wets 0 [(0, .ref h), (1, .int r22), (2, .int 1)] [] G I20 L21 (fun r29 I27 L28 => Q I27 L28)) else (wpI X B9_wets 0 [(0, .ref h), (1, .int r22), (2, .int (-1))] [] G I20 L21 (fun r26 I24 L25 => Q I24 L25))))) else (wpI X B9_below 0 [(0, .ref h), (1, .int 10)] [] G I1 L2 (fun r32 I30 L31 => wpV X B9_beat 0 [(0, .ref h), (1, .int r32)] [] G I30 L31 (fun I33 L34 => Q I33 L34))))) : wpV X B9_draws 0 [(0, .ref h)] [] G I L Q := by
  refine wp_aload_n (z := 0) (i := 0) (r := (some h)) 0 (by decide +kernel) rfl rfl ?_
  refine wp_bipush (z := 10) (v := 10) (by decide +kernel) (by decide) ?_
  refine wp_callV (idx := 424) (B2 := B9_below) (As := [.int 10]) (a := h) (st := []) (by decide +kernel) m9_below ml9_424 k9_below e9_below ck9 ok.1 (⟨Nat.le_of_ble_eq_true rfl, Nat.le_of_ble_eq_true rfl⟩ : rOK B9_draws B9_below) rfl (Nat.le_of_ble_eq_true rfl) (Nat.le_of_ble_eq_true rfl) ⟨Nat.le_of_ble_eq_true rfl, Nat.le_of_ble_eq_true rfl⟩ rfl (wp_mono H (fun v9 M9 hq9 => ?_))
  clear H
  obtain ⟨r3, I1, L2, rfl, rfl, H⟩ := hq9
  show wp X B9_draws 6 [(0, .ref h)] [.int r3] (G, I1, L2) 0 0 _
  refine wp_istore_n (z := 1) (i := 1) (lv' := [(1, .int r3), (0, .ref h)]) (by decide +kernel) rfl (by decide) rfl ?_
  refine wp_iload_n (z := 1) (i := 1) (x := r3) 0 (by decide +kernel) rfl rfl ?_
  refine wp_iconst (z := 5) (v := 5) (by decide +kernel) (by decide) ?_
  refine wp_icmp_ge (off := 14) (tgt := 23) (by decide +kernel) (by decide) (fun c4 => ?_) (fun c4 => ?_)
  · rw [if_pos c4] at H
    refine wp_iload_n (z := 1) (i := 1) (x := r3) 0 (by decide +kernel) rfl rfl ?_
    refine wp_bipush (z := 7) (v := 7) (by decide +kernel) (by decide) ?_
    refine wp_icmp_ge (off := 27) (tgt := 53) (by decide +kernel) (by decide) (fun c5 => ?_) (fun c5 => ?_)
    · rw [if_pos c5] at H
      refine wp_aload_n (z := 0) (i := 0) (r := (some h)) 1 (by decide +kernel) rfl rfl ?_
      refine wp_getI (idx := 190) (by decide +kernel) fl9_190 rfl ok.1 ?_
      refine wp_if_ne (off := 4) (tgt := 61) (by decide +kernel) (by decide) (fun c6 => ?_) (fun c6 => ?_)
      · rw [if_neg c6] at H
        refine wp_aload_n (z := 0) (i := 0) (r := (some h)) 1 (by decide +kernel) rfl rfl ?_
        refine wp_aload_n (z := 0) (i := 0) (r := (some h)) 1 (by decide +kernel) rfl rfl ?_
        refine wp_getI (idx := 190) (by decide +kernel) fl9_190 rfl ok.1 ?_
        refine wp_callV (idx := 424) (B2 := B9_below) (As := [.int (I1 h 15)]) (a := h) (st := []) (by decide +kernel) m9_below ml9_424 k9_below e9_below ck9 ok.1 (⟨Nat.le_of_ble_eq_true rfl, Nat.le_of_ble_eq_true rfl⟩ : rOK B9_draws B9_below) rfl (Nat.le_of_ble_eq_true rfl) (Nat.le_of_ble_eq_true rfl) ⟨Nat.le_of_ble_eq_true rfl, Nat.le_of_ble_eq_true rfl⟩ rfl (wp_mono H (fun v9 M9 hq9 => ?_))
        clear H
        obtain ⟨r9, I7, L8, rfl, rfl, H⟩ := hq9
        show wp X B9_draws 69 [(1, .int r3), (0, .ref h)] [.int r9] (G, I7, L8) 0 0 _
        refine wp_istore_n (z := 2) (i := 2) (lv' := [(2, .int r9), (1, .int r3), (0, .ref h)]) (by decide +kernel) rfl (by decide) rfl ?_
        refine wp_iload_n (z := 1) (i := 1) (x := r3) 1 (by decide +kernel) rfl rfl ?_
        refine wp_bipush (z := 9) (v := 9) (by decide +kernel) (by decide) ?_
        refine wp_icmp_ne (off := 20) (tgt := 93) (by decide +kernel) (by decide) (fun c10 => ?_) (fun c10 => ?_)
        · rw [if_neg c10] at H
          refine wp_aload_n (z := 0) (i := 0) (r := (some h)) 2 (by decide +kernel) rfl rfl ?_
          refine wp_iload_n (z := 1) (i := 1) (x := r3) 1 (by decide +kernel) rfl rfl ?_
          refine wp_iconst (z := 4) (v := 4) (by decide +kernel) (by decide) ?_
          refine wp_isub (by decide +kernel) ?_
          refine wp_iload_n (z := 2) (i := 2) (x := r9) 0 (by decide +kernel) rfl rfl ?_
          refine wp_iconst (z := -1) (v := (-1)) (by decide +kernel) (by decide) ?_
          refine wp_callV (idx := 368) (B2 := B9_does) (As := [.int (r3 - 4), .int r9, .int (-1)]) (a := h) (st := []) (by decide +kernel) m9_does ml9_368 k9_does e9_does ck9 ok.1 (⟨Nat.le_of_ble_eq_true rfl, Nat.le_of_ble_eq_true rfl⟩ : rOK B9_draws B9_does) rfl (Nat.le_of_ble_eq_true rfl) (Nat.le_of_ble_eq_true rfl) ⟨Nat.le_of_ble_eq_true rfl, Nat.le_of_ble_eq_true rfl⟩ rfl (wp_mono H (fun v9 M9 hq9 => ?_))
          clear H
          obtain ⟨r13, I11, L12, rfl, rfl, H⟩ := hq9
          show wp X B9_draws 102 [(2, .int r9), (1, .int r3), (0, .ref h)] [.int r13] (G, I11, L12) 0 0 _
          refine wp_pop (by decide +kernel) rfl ?_
          exact wp_vret (by decide +kernel) rfl (Nat.zero_le _) (Nat.zero_le _) ⟨_, _, rfl, rfl, H⟩
        · rw [if_pos c10] at H
          refine wp_aload_n (z := 0) (i := 0) (r := (some h)) 2 (by decide +kernel) rfl rfl ?_
          refine wp_iload_n (z := 2) (i := 2) (x := r9) 0 (by decide +kernel) rfl rfl ?_
          refine wp_aload_n (z := 0) (i := 0) (r := (some h)) 2 (by decide +kernel) rfl rfl ?_
          refine wp_aload_n (z := 0) (i := 0) (r := (some h)) 2 (by decide +kernel) rfl rfl ?_
          refine wp_getI (idx := 184) (by decide +kernel) fl9_184 rfl ok.1 ?_
          refine wp_callV (idx := 424) (B2 := B9_below) (As := [.int (I7 h 13)]) (a := h) (st := [.int r9, .ref h]) (by decide +kernel) m9_below ml9_424 k9_below e9_below ck9 ok.1 (⟨Nat.le_of_ble_eq_true rfl, Nat.le_of_ble_eq_true rfl⟩ : rOK B9_draws B9_below) rfl (Nat.le_of_ble_eq_true rfl) (Nat.le_of_ble_eq_true rfl) ⟨Nat.le_of_ble_eq_true rfl, Nat.le_of_ble_eq_true rfl⟩ rfl (wp_mono H (fun v9 M9 hq9 => ?_))
          clear H
          obtain ⟨r16, I14, L15, rfl, rfl, H⟩ := hq9
          show wp X B9_draws 86 [(2, .int r9), (1, .int r3), (0, .ref h)] [.int r16, .int r9, .ref h] (G, I14, L15) 0 0 _
          refine wp_callV (idx := 365) (B2 := B9_moves) (As := [.int r9, .int r16]) (a := h) (st := []) (by decide +kernel) m9_moves ml9_365 k9_moves e9_moves ck9 ok.1 (⟨Nat.le_of_ble_eq_true rfl, Nat.le_of_ble_eq_true rfl⟩ : rOK B9_draws B9_moves) rfl (Nat.le_of_ble_eq_true rfl) (Nat.le_of_ble_eq_true rfl) ⟨Nat.le_of_ble_eq_true rfl, Nat.le_of_ble_eq_true rfl⟩ rfl (wp_mono H (fun v9 M9 hq9 => ?_))
          clear H
          obtain ⟨r19, I17, L18, rfl, rfl, H⟩ := hq9
          show wp X B9_draws 89 [(2, .int r9), (1, .int r3), (0, .ref h)] [.int r19] (G, I17, L18) 0 0 _
          refine wp_pop (by decide +kernel) rfl ?_
          refine wp_goto (off := 13) (tgt := 103) (by decide +kernel) (by decide) ?_
          exact wp_vret (by decide +kernel) rfl (Nat.zero_le _) (Nat.zero_le _) ⟨_, _, rfl, rfl, H⟩
      · rw [if_pos c6] at H
        exact wp_vret (by decide +kernel) rfl (Nat.zero_le _) (Nat.zero_le _) ⟨_, _, rfl, rfl, H⟩
    · rw [if_neg c5] at H
      refine wp_aload_n (z := 0) (i := 0) (r := (some h)) 1 (by decide +kernel) rfl rfl ?_
      refine wp_aload_n (z := 0) (i := 0) (r := (some h)) 1 (by decide +kernel) rfl rfl ?_
      refine wp_aload_n (z := 0) (i := 0) (r := (some h)) 1 (by decide +kernel) rfl rfl ?_
      refine wp_getI (idx := 184) (by decide +kernel) fl9_184 rfl ok.1 ?_
      refine wp_callV (idx := 424) (B2 := B9_below) (As := [.int (I1 h 13)]) (a := h) (st := [.ref h]) (by decide +kernel) m9_below ml9_424 k9_below e9_below ck9 ok.1 (⟨Nat.le_of_ble_eq_true rfl, Nat.le_of_ble_eq_true rfl⟩ : rOK B9_draws B9_below) rfl (Nat.le_of_ble_eq_true rfl) (Nat.le_of_ble_eq_true rfl) ⟨Nat.le_of_ble_eq_true rfl, Nat.le_of_ble_eq_true rfl⟩ rfl (wp_mono H (fun v9 M9 hq9 => ?_))
      clear H
      obtain ⟨r22, I20, L21, rfl, rfl, H⟩ := hq9
      show wp X B9_draws 38 [(1, .int r3), (0, .ref h)] [.int r22, .ref h] (G, I20, L21) 0 0 _
      refine wp_iload_n (z := 1) (i := 1) (x := r3) 0 (by decide +kernel) rfl rfl ?_
      refine wp_iconst (z := 5) (v := 5) (by decide +kernel) (by decide) ?_
      refine wp_icmp_ne (off := 7) (tgt := 47) (by decide +kernel) (by decide) (fun c23 => ?_) (fun c23 => ?_)
      · rw [if_neg c23] at H
        refine wp_iconst (z := -1) (v := (-1)) (by decide +kernel) (by decide) ?_
        refine wp_callV (idx := 362) (B2 := B9_wets) (As := [.int r22, .int (-1)]) (a := h) (st := []) (by decide +kernel) m9_wets ml9_362 k9_wets e9_wets ck9 ok.1 (⟨Nat.le_of_ble_eq_true rfl, Nat.le_of_ble_eq_true rfl⟩ : rOK B9_draws B9_wets) rfl (Nat.le_of_ble_eq_true rfl) (Nat.le_of_ble_eq_true rfl) ⟨Nat.le_of_ble_eq_true rfl, Nat.le_of_ble_eq_true rfl⟩ rfl (wp_mono H (fun v9 M9 hq9 => ?_))
        clear H
        obtain ⟨r26, I24, L25, rfl, rfl, H⟩ := hq9
        show wp X B9_draws 51 [(1, .int r3), (0, .ref h)] [.int r26] (G, I24, L25) 0 0 _
        refine wp_pop (by decide +kernel) rfl ?_
        exact wp_vret (by decide +kernel) rfl (Nat.zero_le _) (Nat.zero_le _) ⟨_, _, rfl, rfl, H⟩
      · rw [if_pos c23] at H
        refine wp_iconst (z := 1) (v := 1) (by decide +kernel) (by decide) ?_
        refine wp_goto (off := 4) (tgt := 48) (by decide +kernel) (by decide) ?_
        refine wp_callV (idx := 362) (B2 := B9_wets) (As := [.int r22, .int 1]) (a := h) (st := []) (by decide +kernel) m9_wets ml9_362 k9_wets e9_wets ck9 ok.1 (⟨Nat.le_of_ble_eq_true rfl, Nat.le_of_ble_eq_true rfl⟩ : rOK B9_draws B9_wets) rfl (Nat.le_of_ble_eq_true rfl) (Nat.le_of_ble_eq_true rfl) ⟨Nat.le_of_ble_eq_true rfl, Nat.le_of_ble_eq_true rfl⟩ rfl (wp_mono H (fun v9 M9 hq9 => ?_))
        clear H
        obtain ⟨r29, I27, L28, rfl, rfl, H⟩ := hq9
        show wp X B9_draws 51 [(1, .int r3), (0, .ref h)] [.int r29] (G, I27, L28) 0 0 _
        refine wp_pop (by decide +kernel) rfl ?_
        exact wp_vret (by decide +kernel) rfl (Nat.zero_le _) (Nat.zero_le _) ⟨_, _, rfl, rfl, H⟩
  · rw [if_neg c4] at H
    refine wp_aload_n (z := 0) (i := 0) (r := (some h)) 1 (by decide +kernel) rfl rfl ?_
    refine wp_aload_n (z := 0) (i := 0) (r := (some h)) 1 (by decide +kernel) rfl rfl ?_
    refine wp_bipush (z := 10) (v := 10) (by decide +kernel) (by decide) ?_
    refine wp_callV (idx := 424) (B2 := B9_below) (As := [.int 10]) (a := h) (st := [.ref h]) (by decide +kernel) m9_below ml9_424 k9_below e9_below ck9 ok.1 (⟨Nat.le_of_ble_eq_true rfl, Nat.le_of_ble_eq_true rfl⟩ : rOK B9_draws B9_below) rfl (Nat.le_of_ble_eq_true rfl) (Nat.le_of_ble_eq_true rfl) ⟨Nat.le_of_ble_eq_true rfl, Nat.le_of_ble_eq_true rfl⟩ rfl (wp_mono H (fun v9 M9 hq9 => ?_))
    clear H
    obtain ⟨r32, I30, L31, rfl, rfl, H⟩ := hq9
    show wp X B9_draws 19 [(1, .int r3), (0, .ref h)] [.int r32, .ref h] (G, I30, L31) 0 0 _
    refine wp_callV (idx := 256) (B2 := B9_beat) (As := [.int r32]) (a := h) (st := []) (by decide +kernel) m9_beat ml9_256 k9_beat e9_beat ck9 ok.1 (⟨Nat.le_of_ble_eq_true rfl, Nat.le_of_ble_eq_true rfl⟩ : rOK B9_draws B9_beat) rfl (Nat.le_of_ble_eq_true rfl) (Nat.le_of_ble_eq_true rfl) ⟨Nat.le_of_ble_eq_true rfl, Nat.le_of_ble_eq_true rfl⟩ rfl (wp_mono H (fun v9 M9 hq9 => ?_))
    clear H
    obtain ⟨I33, L34, rfl, rfl, H⟩ := hq9
    show wp X B9_draws 22 [(1, .int r3), (0, .ref h)] [] (G, I33, L34) 0 0 _
    exact wp_vret (by decide +kernel) rfl (Nat.zero_le _) (Nat.zero_le _) ⟨_, _, rfl, rfl, H⟩
/-! DeafWallModel.drawn(IIII)I -/
set_option maxRecDepth 20000 in
theorem b9_drawn {X : XX} {G : GG} {I : Nat → Nat → Int32} {L : Nat → Nat → Int64} {h : Nat} {x1 : Int32} {x2 : Int32} {x3 : Int32} {x4 : Int32} {Q : Int32 → (Nat → Nat → Int32) → (Nat → Nat → Int64) → Prop} (ok : OK9 G h) (H : wpI X B9_isWall 0 [(0, .ref h), (1, .int x1)] [] G I L (fun r3 I1 L2 => if r3 = (0 : Int32) then (Q (-2) I1 L2) else (if (v9_isIn x3 0 60) = (0 : Int32) then (Q (-2) I1 L2) else (∀ I6, I6 = up2 I1 h 45 x2 → wpV X B9_begins 0 [(0, .ref h)] [] G I6 L2 (fun I7 L8 => wpI X B9_drawn 33 [(0, .ref h), (3, .int x3), (4, .int x4), (5, .int 0)] [] G I7 L8 Q))))) : wpI X B9_drawn 0 [(0, .ref h), (1, .int x1), (2, .int x2), (3, .int x3), (4, .int x4)] [] G I L Q := by
  refine wp_aload_n (z := 0) (i := 0) (r := (some h)) 0 (by decide +kernel) rfl rfl ?_
  refine wp_iload_n (z := 1) (i := 1) (x := x1) 1 (by decide +kernel) rfl rfl ?_
  refine wp_callV (idx := 196) (B2 := B9_isWall) (As := [.int x1]) (a := h) (st := []) (by decide +kernel) m9_isWall ml9_196 k9_isWall e9_isWall ck9 ok.1 (⟨Nat.le_of_ble_eq_true rfl, Nat.le_of_ble_eq_true rfl⟩ : rOK B9_drawn B9_isWall) rfl (Nat.le_of_ble_eq_true rfl) (Nat.le_of_ble_eq_true rfl) ⟨Nat.le_of_ble_eq_true rfl, Nat.le_of_ble_eq_true rfl⟩ rfl (wp_mono H (fun v9 M9 hq9 => ?_))
  clear H
  obtain ⟨r3, I1, L2, rfl, rfl, H⟩ := hq9
  show wp X B9_drawn 5 [(0, .ref h), (1, .int x1), (2, .int x2), (3, .int x3), (4, .int x4)] [.int r3] (G, I1, L2) 0 0 _
  refine wp_if_eq (off := 13) (tgt := 18) (by decide +kernel) (by decide) (fun c4 => ?_) (fun c4 => ?_)
  · rw [if_pos c4] at H
    refine wp_bipush (z := -2) (v := (-2)) (by decide +kernel) (by decide) ?_
    exact wp_iret (by decide +kernel) rfl (Nat.zero_le _) (Nat.zero_le _) ⟨_, _, _, rfl, rfl, H⟩
  · rw [if_neg c4] at H
    refine wp_iload_n (z := 3) (i := 3) (x := x3) 3 (by decide +kernel) rfl rfl ?_
    refine wp_iconst (z := 0) (v := 0) (by decide +kernel) (by decide) ?_
    refine wp_bipush (z := 60) (v := 60) (by decide +kernel) (by decide) ?_
    refine wp_callS (idx := 121) (B2 := B9_isIn) (As := [.int x3, .int 0, .int 60]) (st := []) (by decide +kernel) m9_isIn ml9_121 k9_isIn (⟨Nat.le_of_ble_eq_true rfl, Nat.le_of_ble_eq_true rfl⟩ : rOK B9_drawn B9_isIn) rfl (Nat.le_of_ble_eq_true rfl) (Nat.le_of_ble_eq_true rfl) ⟨Nat.le_of_ble_eq_true rfl, Nat.le_of_ble_eq_true rfl⟩ rfl (wp_mono (b9_isIn (Q := (fun r I' L' => r = (v9_isIn x3 0 60) ∧ I1 = I' ∧ L2 = L'))  ⟨rfl, rfl, rfl⟩) (fun v9 M9 hq9 => ?_))
    obtain ⟨_, _, _, rfl, rfl, rfl, rfl, rfl⟩ := hq9
    show wp X B9_drawn 15 [(0, .ref h), (1, .int x1), (2, .int x2), (3, .int x3), (4, .int x4)] [.int (v9_isIn x3 0 60)] (G, I1, L2) 0 0 _
    refine wp_if_ne (off := 6) (tgt := 21) (by decide +kernel) (by decide) (fun c5 => ?_) (fun c5 => ?_)
    · rw [if_neg c5] at H
      refine wp_aload_n (z := 0) (i := 0) (r := (some h)) 0 (by decide +kernel) rfl rfl ?_
      refine wp_iload_n (z := 2) (i := 2) (x := x2) 2 (by decide +kernel) rfl rfl ?_
      refine wp_putI (idx := 420) (by decide +kernel) fl9_420 rfl ok.1 ?_
      refine wp_memI (fun I6 eI6 => ?_)
      replace H := H I6 eI6
      refine wp_aload_n (z := 0) (i := 0) (r := (some h)) 0 (by decide +kernel) rfl rfl ?_
      refine wp_callV (idx := 253) (B2 := B9_begins) (As := []) (a := h) (st := []) (by decide +kernel) m9_begins ml9_253 k9_begins e9_begins ck9 ok.1 (⟨Nat.le_of_ble_eq_true rfl, Nat.le_of_ble_eq_true rfl⟩ : rOK B9_drawn B9_begins) rfl (Nat.le_of_ble_eq_true rfl) (Nat.le_of_ble_eq_true rfl) ⟨Nat.le_of_ble_eq_true rfl, Nat.le_of_ble_eq_true rfl⟩ rfl (wp_mono H (fun v9 M9 hq9 => ?_))
      clear H
      obtain ⟨I7, L8, rfl, rfl, H⟩ := hq9
      show wp X B9_drawn 30 [(0, .ref h), (1, .int x1), (2, .int x2), (3, .int x3), (4, .int x4)] [] (G, I7, L8) 0 0 _
      refine wp_iconst (z := 0) (v := 0) (by decide +kernel) (by decide) ?_
      refine wp_istore (i := 5) (lv' := [(5, .int 0), (0, .ref h), (1, .int x1), (2, .int x2), (3, .int x3), (4, .int x4)]) (by decide +kernel) (by decide) rfl ?_
      exact wp_sub [1, 4, 5, 0] rfl H
    · rw [if_pos c5] at H
      refine wp_bipush (z := -2) (v := (-2)) (by decide +kernel) (by decide) ?_
      exact wp_iret (by decide +kernel) rfl (Nat.zero_le _) (Nat.zero_le _) ⟨_, _, _, rfl, rfl, H⟩
set_option maxRecDepth 20000 in
theorem b9_drawn_33 {X : XX} {G : GG} {I : Nat → Nat → Int32} {L : Nat → Nat → Int64} {h : Nat} {x3 : Int32} {x4 : Int32} {x5 : Int32} {Q : Int32 → (Nat → Nat → Int32) → (Nat → Nat → Int64) → Prop} (ok : OK9 G h) (H : if x3 ≤ x5 then (wpI X B9_nowOf 0 [(0, .ref h), (1, .int x4)] [] G I L (fun r4 I2 L3 => Q r4 I2 L3)) else (wpV X B9_draws 0 [(0, .ref h)] [] G I L (fun I5 L6 => wpI X B9_drawn 33 [(0, .ref h), (3, .int x3), (4, .int x4), (5, .int (x5 + 1))] [] G I5 L6 Q))) : wpI X B9_drawn 33 [(0, .ref h), (3, .int x3), (4, .int x4), (5, .int x5)] [] G I L Q := by
  refine wp_iload (i := 5) (x := x5) 3 (by decide +kernel) rfl ?_
  refine wp_iload_n (z := 3) (i := 3) (x := x3) 1 (by decide +kernel) rfl rfl ?_
  refine wp_icmp_ge (off := 13) (tgt := 49) (by decide +kernel) (by decide) (fun c1 => ?_) (fun c1 => ?_)
  · rw [if_pos c1] at H
    refine wp_aload_n (z := 0) (i := 0) (r := (some h)) 0 (by decide +kernel) rfl rfl ?_
    refine wp_iload (i := 4) (x := x4) 2 (by decide +kernel) rfl ?_
    refine wp_callV (idx := 377) (B2 := B9_nowOf) (As := [.int x4]) (a := h) (st := []) (by decide +kernel) m9_nowOf ml9_377 k9_nowOf e9_nowOf ck9 ok.1 (⟨Nat.le_of_ble_eq_true rfl, Nat.le_of_ble_eq_true rfl⟩ : rOK B9_drawn B9_nowOf) rfl (Nat.le_of_ble_eq_true rfl) (Nat.le_of_ble_eq_true rfl) ⟨Nat.le_of_ble_eq_true rfl, Nat.le_of_ble_eq_true rfl⟩ rfl (wp_mono H (fun v9 M9 hq9 => ?_))
    clear H
    obtain ⟨r4, I2, L3, rfl, rfl, H⟩ := hq9
    show wp X B9_drawn 55 [(0, .ref h), (3, .int x3), (4, .int x4), (5, .int x5)] [.int r4] (G, I2, L3) 0 0 _
    exact wp_iret (by decide +kernel) rfl (Nat.zero_le _) (Nat.zero_le _) ⟨_, _, _, rfl, rfl, H⟩
  · rw [if_neg c1] at H
    refine wp_aload_n (z := 0) (i := 0) (r := (some h)) 0 (by decide +kernel) rfl rfl ?_
    refine wp_callV (idx := 427) (B2 := B9_draws) (As := []) (a := h) (st := []) (by decide +kernel) m9_draws ml9_427 k9_draws e9_draws ck9 ok.1 (⟨Nat.le_of_ble_eq_true rfl, Nat.le_of_ble_eq_true rfl⟩ : rOK B9_drawn B9_draws) rfl (Nat.le_of_ble_eq_true rfl) (Nat.le_of_ble_eq_true rfl) ⟨Nat.le_of_ble_eq_true rfl, Nat.le_of_ble_eq_true rfl⟩ rfl (wp_mono H (fun v9 M9 hq9 => ?_))
    clear H
    obtain ⟨I5, L6, rfl, rfl, H⟩ := hq9
    show wp X B9_drawn 43 [(0, .ref h), (3, .int x3), (4, .int x4), (5, .int x5)] [] (G, I5, L6) 0 0 _
    refine wp_iinc (i := 5) (z := 1) (v := 1) (lv' := [(5, .int (x5 + 1)), (0, .ref h), (3, .int x3), (4, .int x4)]) 3 (by decide +kernel) rfl (by decide) (by decide) rfl ?_
    refine wp_goto (off := -13) (tgt := 33) (by decide +kernel) (by decide) ?_
    exact wp_sub [1, 2, 3, 0] rfl H
/-! DeafWallModel.image(I)Z -/
set_option maxRecDepth 20000 in
theorem b9_image {X : XX} {G : GG} {I : Nat → Nat → Int32} {L : Nat → Nat → Int64} {h : Nat} {x1 : Int32} {Q : Int32 → (Nat → Nat → Int32) → (Nat → Nat → Int64) → Prop} (ok : OK9 G h) (H : if (v9_isIn x1 0 2) = (0 : Int32) then (Q 0 I L) else (vp_in x1 3 ∧ (∀ I2, I2 = up2 I (h + 2) (cl x1) 1 → wpI X B9_image 20 [(0, .ref h), (1, .int x1), (2, .int 0)] [] G I2 L Q))) : wpI X B9_image 0 [(0, .ref h), (1, .int x1)] [] G I L Q := by
  refine wp_iload_n (z := 1) (i := 1) (x := x1) 1 (by decide +kernel) rfl rfl ?_
  refine wp_iconst (z := 0) (v := 0) (by decide +kernel) (by decide) ?_
  refine wp_iconst (z := 2) (v := 2) (by decide +kernel) (by decide) ?_
  refine wp_callS (idx := 121) (B2 := B9_isIn) (As := [.int x1, .int 0, .int 2]) (st := []) (by decide +kernel) m9_isIn ml9_121 k9_isIn (⟨Nat.le_of_ble_eq_true rfl, Nat.le_of_ble_eq_true rfl⟩ : rOK B9_image B9_isIn) rfl (Nat.le_of_ble_eq_true rfl) (Nat.le_of_ble_eq_true rfl) ⟨Nat.le_of_ble_eq_true rfl, Nat.le_of_ble_eq_true rfl⟩ rfl (wp_mono (b9_isIn (Q := (fun r I' L' => r = (v9_isIn x1 0 2) ∧ I = I' ∧ L = L'))  ⟨rfl, rfl, rfl⟩) (fun v9 M9 hq9 => ?_))
  obtain ⟨_, _, _, rfl, rfl, rfl, rfl, rfl⟩ := hq9
  show wp X B9_image 6 [(0, .ref h), (1, .int x1)] [.int (v9_isIn x1 0 2)] (G, I, L) 0 0 _
  refine wp_if_ne (off := 5) (tgt := 11) (by decide +kernel) (by decide) (fun c1 => ?_) (fun c1 => ?_)
  · rw [if_neg c1] at H
    refine wp_aload_n (z := 0) (i := 0) (r := (some h)) 0 (by decide +kernel) rfl rfl ?_
    refine wp_getS (idx := 13) (q := (h + 2)) (by decide +kernel) fl9_13 rfl ok.1 (okr9_1 ok) ?_
    refine wp_iload_n (z := 1) (i := 1) (x := x1) 1 (by decide +kernel) rfl rfl ?_
    refine wp_iconst (z := 1) (v := 1) (by decide +kernel) (by decide) ?_
    obtain ⟨o3, H⟩ := H
    refine wp_zast (j := (cl x1)) (by decide +kernel) (oks9_1 ok) o3 rfl (by decide) ?_
    refine wp_memI (fun I2 eI2 => ?_)
    replace H := H I2 eI2
    refine wp_iconst (z := 0) (v := 0) (by decide +kernel) (by decide) ?_
    refine wp_istore_n (z := 2) (i := 2) (lv' := [(2, .int 0), (0, .ref h), (1, .int x1)]) (by decide +kernel) rfl (by decide) rfl ?_
    exact wp_sub [1, 2, 0] rfl H
  · rw [if_pos c1] at H
    refine wp_iconst (z := 0) (v := 0) (by decide +kernel) (by decide) ?_
    exact wp_zret (by decide +kernel) rfl (by decide) (Nat.zero_le _) (Nat.zero_le _) ⟨_, _, _, rfl, rfl, H⟩
set_option maxRecDepth 20000 in
theorem b9_image_20 {X : XX} {G : GG} {I : Nat → Nat → Int32} {L : Nat → Nat → Int64} {h : Nat} {x1 : Int32} {x2 : Int32} {Q : Int32 → (Nat → Nat → Int32) → (Nat → Nat → Int64) → Prop} (ok : OK9 G h) (H : if 1024 ≤ x2 then (Q 1 I L) else (vp_in x2 4096 ∧ (vp_in ((1024 * (x1 + 1)) + x2) 4096 ∧ (∀ I2, I2 = up2 I (h + 1) (cl ((1024 * (x1 + 1)) + x2)) (I (h + 1) (cl x2)) → wpI X B9_image 20 [(0, .ref h), (1, .int x1), (2, .int (x2 + 1))] [] G I2 L Q)))) : wpI X B9_image 20 [(0, .ref h), (1, .int x1), (2, .int x2)] [] G I L Q := by
  refine wp_iload_n (z := 2) (i := 2) (x := x2) 2 (by decide +kernel) rfl rfl ?_
  refine wp_sipush (z := 1024) (v := 1024) (by decide +kernel) (by decide) ?_
  refine wp_icmp_ge (off := 29) (tgt := 53) (by decide +kernel) (by decide) (fun c1 => ?_) (fun c1 => ?_)
  · rw [if_pos c1] at H
    refine wp_iconst (z := 1) (v := 1) (by decide +kernel) (by decide) ?_
    exact wp_zret (by decide +kernel) rfl (by decide) (Nat.zero_le _) (Nat.zero_le _) ⟨_, _, _, rfl, rfl, H⟩
  · rw [if_neg c1] at H
    refine wp_aload_n (z := 0) (i := 0) (r := (some h)) 0 (by decide +kernel) rfl rfl ?_
    refine wp_getS (idx := 7) (q := (h + 1)) (by decide +kernel) fl9_7 rfl ok.1 (okr9_0 ok) ?_
    refine wp_sipush (z := 1024) (v := 1024) (by decide +kernel) (by decide) ?_
    refine wp_iload_n (z := 1) (i := 1) (x := x1) 1 (by decide +kernel) rfl rfl ?_
    refine wp_iconst (z := 1) (v := 1) (by decide +kernel) (by decide) ?_
    refine wp_iadd (by decide +kernel) ?_
    refine wp_imul (by decide +kernel) ?_
    refine wp_iload_n (z := 2) (i := 2) (x := x2) 2 (by decide +kernel) rfl rfl ?_
    refine wp_iadd (by decide +kernel) ?_
    refine wp_aload_n (z := 0) (i := 0) (r := (some h)) 0 (by decide +kernel) rfl rfl ?_
    refine wp_getS (idx := 7) (q := (h + 1)) (by decide +kernel) fl9_7 rfl ok.1 (okr9_0 ok) ?_
    refine wp_iload_n (z := 2) (i := 2) (x := x2) 2 (by decide +kernel) rfl rfl ?_
    obtain ⟨o4, H⟩ := H
    refine wp_iald (j := (cl x2)) (by decide +kernel) (oks9_0 ok) o4 rfl ?_
    obtain ⟨o3, H⟩ := H
    refine wp_iast (j := (cl ((1024 * (x1 + 1)) + x2))) (by decide +kernel) (oks9_0 ok) o3 rfl ?_
    refine wp_memI (fun I2 eI2 => ?_)
    replace H := H I2 eI2
    refine wp_iinc (i := 2) (z := 1) (v := 1) (lv' := [(2, .int (x2 + 1)), (0, .ref h), (1, .int x1)]) 2 (by decide +kernel) rfl (by decide) (by decide) rfl ?_
    refine wp_goto (off := -30) (tgt := 20) (by decide +kernel) (by decide) ?_
    exact wp_sub [1, 2, 0] rfl H
/-! DeafWallModel.again(I)Z -/
set_option maxRecDepth 20000 in
theorem b9_again {X : XX} {G : GG} {I : Nat → Nat → Int32} {L : Nat → Nat → Int64} {h : Nat} {x1 : Int32} {Q : Int32 → (Nat → Nat → Int32) → (Nat → Nat → Int64) → Prop} (ok : OK9 G h) (H : if (v9_isIn x1 0 2) = (0 : Int32) then (Q 0 I L) else (vp_in x1 3 ∧ (if (I (h + 2) (cl x1)) = (0 : Int32) then (Q 0 I L) else (wpI X B9_again 22 [(0, .ref h), (1, .int x1), (2, .int 0)] [] G I L Q)))) : wpI X B9_again 0 [(0, .ref h), (1, .int x1)] [] G I L Q := by
  refine wp_iload_n (z := 1) (i := 1) (x := x1) 1 (by decide +kernel) rfl rfl ?_
  refine wp_iconst (z := 0) (v := 0) (by decide +kernel) (by decide) ?_
  refine wp_iconst (z := 2) (v := 2) (by decide +kernel) (by decide) ?_
  refine wp_callS (idx := 121) (B2 := B9_isIn) (As := [.int x1, .int 0, .int 2]) (st := []) (by decide +kernel) m9_isIn ml9_121 k9_isIn (⟨Nat.le_of_ble_eq_true rfl, Nat.le_of_ble_eq_true rfl⟩ : rOK B9_again B9_isIn) rfl (Nat.le_of_ble_eq_true rfl) (Nat.le_of_ble_eq_true rfl) ⟨Nat.le_of_ble_eq_true rfl, Nat.le_of_ble_eq_true rfl⟩ rfl (wp_mono (b9_isIn (Q := (fun r I' L' => r = (v9_isIn x1 0 2) ∧ I = I' ∧ L = L'))  ⟨rfl, rfl, rfl⟩) (fun v9 M9 hq9 => ?_))
  obtain ⟨_, _, _, rfl, rfl, rfl, rfl, rfl⟩ := hq9
  show wp X B9_again 6 [(0, .ref h), (1, .int x1)] [.int (v9_isIn x1 0 2)] (G, I, L) 0 0 _
  refine wp_if_eq (off := 12) (tgt := 18) (by decide +kernel) (by decide) (fun c1 => ?_) (fun c1 => ?_)
  · rw [if_pos c1] at H
    refine wp_iconst (z := 0) (v := 0) (by decide +kernel) (by decide) ?_
    exact wp_zret (by decide +kernel) rfl (by decide) (Nat.zero_le _) (Nat.zero_le _) ⟨_, _, _, rfl, rfl, H⟩
  · rw [if_neg c1] at H
    refine wp_aload_n (z := 0) (i := 0) (r := (some h)) 0 (by decide +kernel) rfl rfl ?_
    refine wp_getS (idx := 13) (q := (h + 2)) (by decide +kernel) fl9_13 rfl ok.1 (okr9_1 ok) ?_
    refine wp_iload_n (z := 1) (i := 1) (x := x1) 1 (by decide +kernel) rfl rfl ?_
    obtain ⟨o3, H⟩ := H
    refine wp_zald (j := (cl x1)) (by decide +kernel) (oks9_1 ok) o3 rfl ?_
    refine wp_if_ne (off := 5) (tgt := 20) (by decide +kernel) (by decide) (fun c2 => ?_) (fun c2 => ?_)
    · rw [if_neg c2] at H
      refine wp_iconst (z := 0) (v := 0) (by decide +kernel) (by decide) ?_
      refine wp_istore_n (z := 2) (i := 2) (lv' := [(2, .int 0), (0, .ref h), (1, .int x1)]) (by decide +kernel) rfl (by decide) rfl ?_
      exact wp_sub [1, 2, 0] rfl H
    · rw [if_pos c2] at H
      refine wp_iconst (z := 0) (v := 0) (by decide +kernel) (by decide) ?_
      exact wp_zret (by decide +kernel) rfl (by decide) (Nat.zero_le _) (Nat.zero_le _) ⟨_, _, _, rfl, rfl, H⟩
set_option maxRecDepth 20000 in
theorem b9_again_22 {X : XX} {G : GG} {I : Nat → Nat → Int32} {L : Nat → Nat → Int64} {h : Nat} {x1 : Int32} {x2 : Int32} {Q : Int32 → (Nat → Nat → Int32) → (Nat → Nat → Int64) → Prop} (ok : OK9 G h) (H : if 1024 ≤ x2 then (Q 1 I L) else (vp_in ((1024 * (x1 + 1)) + x2) 4096 ∧ (vp_in x2 4096 ∧ (∀ I2, I2 = up2 I (h + 1) (cl x2) (I (h + 1) (cl ((1024 * (x1 + 1)) + x2))) → wpI X B9_again 22 [(0, .ref h), (1, .int x1), (2, .int (x2 + 1))] [] G I2 L Q)))) : wpI X B9_again 22 [(0, .ref h), (1, .int x1), (2, .int x2)] [] G I L Q := by
  refine wp_iload_n (z := 2) (i := 2) (x := x2) 2 (by decide +kernel) rfl rfl ?_
  refine wp_sipush (z := 1024) (v := 1024) (by decide +kernel) (by decide) ?_
  refine wp_icmp_ge (off := 29) (tgt := 55) (by decide +kernel) (by decide) (fun c1 => ?_) (fun c1 => ?_)
  · rw [if_pos c1] at H
    refine wp_iconst (z := 1) (v := 1) (by decide +kernel) (by decide) ?_
    exact wp_zret (by decide +kernel) rfl (by decide) (Nat.zero_le _) (Nat.zero_le _) ⟨_, _, _, rfl, rfl, H⟩
  · rw [if_neg c1] at H
    refine wp_aload_n (z := 0) (i := 0) (r := (some h)) 0 (by decide +kernel) rfl rfl ?_
    refine wp_getS (idx := 7) (q := (h + 1)) (by decide +kernel) fl9_7 rfl ok.1 (okr9_0 ok) ?_
    refine wp_iload_n (z := 2) (i := 2) (x := x2) 2 (by decide +kernel) rfl rfl ?_
    refine wp_aload_n (z := 0) (i := 0) (r := (some h)) 0 (by decide +kernel) rfl rfl ?_
    refine wp_getS (idx := 7) (q := (h + 1)) (by decide +kernel) fl9_7 rfl ok.1 (okr9_0 ok) ?_
    refine wp_sipush (z := 1024) (v := 1024) (by decide +kernel) (by decide) ?_
    refine wp_iload_n (z := 1) (i := 1) (x := x1) 1 (by decide +kernel) rfl rfl ?_
    refine wp_iconst (z := 1) (v := 1) (by decide +kernel) (by decide) ?_
    refine wp_iadd (by decide +kernel) ?_
    refine wp_imul (by decide +kernel) ?_
    refine wp_iload_n (z := 2) (i := 2) (x := x2) 2 (by decide +kernel) rfl rfl ?_
    refine wp_iadd (by decide +kernel) ?_
    obtain ⟨o4, H⟩ := H
    refine wp_iald (j := (cl ((1024 * (x1 + 1)) + x2))) (by decide +kernel) (oks9_0 ok) o4 rfl ?_
    obtain ⟨o3, H⟩ := H
    refine wp_iast (j := (cl x2)) (by decide +kernel) (oks9_0 ok) o3 rfl ?_
    refine wp_memI (fun I2 eI2 => ?_)
    replace H := H I2 eI2
    refine wp_iinc (i := 2) (z := 1) (v := 1) (lv' := [(2, .int (x2 + 1)), (0, .ref h), (1, .int x1)]) 2 (by decide +kernel) rfl (by decide) (by decide) rfl ?_
    refine wp_goto (off := -30) (tgt := 22) (by decide +kernel) (by decide) ?_
    exact wp_sub [1, 2, 0] rfl H
