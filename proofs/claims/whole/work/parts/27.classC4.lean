/-! DeafWall$Stand.answer(I)I -/
set_option maxRecDepth 20000 in
theorem b5_answer {X : XX} {G : GG} {I : Nat → Nat → Int32} {L : Nat → Nat → Int64} {h : Nat} {x1 : Int32} {Q : Int32 → (Nat → Nat → Int32) → (Nat → Nat → Int64) → Prop} (ok : OK5 G h) (H : if x1 < 200 then (if x1 < 100 then (if x1 < 40 then (if x1 < 30 then (if x1 < 20 then (if x1 < 10 then (if x1 = 0 then (Q (I h 1) I L) else (if x1 = 1 then (Q (I h 2) I L) else (if x1 = 2 then (wpI X B5_couples 0 [(0, .ref h)] [] G I L (fun r12 I10 L11 => Q r12 I10 L11)) else (Q (-2) I L)))) else (∀ r13, r13 = G.2.1 h 0 → ∃ q14, r13 = some q14 ∧ (OK7 G q14 ∧ (if (v7_hasFeeler I q14 (x1 - 10)) = (0 : Int32) then (Q (-2) I L) else (vp_in (x1 - 10) 6 ∧ (Q (I (h + 10) (cl (x1 - 10))) I L)))))) else (∀ r20, r20 = G.2.1 h 0 → ∃ q21, r20 = some q21 ∧ (OK7 G q21 ∧ (if (v7_hasFeeler I q21 (x1 - 20)) = (0 : Int32) then (Q (-2) I L) else (vp_in (x1 - 20) 6 ∧ (Q (I (h + 11) (cl (x1 - 20))) I L)))))) else (∀ r27, r27 = G.2.1 h 0 → ∃ q28, r27 = some q28 ∧ (OK7 G q28 ∧ (if (v7_hasFeeler I q28 (x1 - 30)) = (0 : Int32) then (Q (-2) I L) else (vp_in (x1 - 30) 6 ∧ (Q (I (h + 12) (cl (x1 - 30))) I L)))))) else (∀ r34, r34 = G.2.1 h 0 → ∃ q35, r34 = some q35 ∧ (OK7 G q35 ∧ (if (v7_hasFeeler I q35 (x1 - 40)) = (0 : Int32) then (Q (-2) I L) else (vp_in (x1 - 40) 6 ∧ (Q (I (h + 13) (cl (x1 - 40))) I L)))))) else (∀ r41, r41 = G.2.1 h 0 → ∃ q42, r41 = some q42 ∧ (OK7 G q42 ∧ (if (v7_hasCell I q42 (x1 - 100)) = (0 : Int32) then (Q (-2) I L) else (∀ r46, r46 = G.2.1 h 3 → ∃ q47, r46 = some q47 ∧ (∃ n50, G.1 q47 = some (11, n50) ∧ (vp_in (x1 - 100) n50 ∧ (Q (I q47 (cl (x1 - 100))) I L)))))))) else (∀ r53, r53 = G.2.1 h 0 → ∃ q54, r53 = some q54 ∧ (OK7 G q54 ∧ (if (v7_hasCell I q54 (x1 - 200)) = (0 : Int32) then (Q (-2) I L) else (vp_in (x1 - 200) 32 ∧ (Q (I (h + 9) (cl (x1 - 200))) I L)))))) : wpI X B5_answer 0 [(0, .ref h), (1, .int x1)] [] G I L Q := by
  refine wp_iload_n (z := 1) (i := 1) (x := x1) 1 (by decide +kernel) rfl rfl ?_
  refine wp_sipush (z := 200) (v := 200) (by decide +kernel) (by decide) ?_
  refine wp_icmp_lt (off := 34) (tgt := 38) (by decide +kernel) (by decide) (fun c1 => ?_) (fun c1 => ?_)
  · rw [if_pos c1] at H
    refine wp_iload_n (z := 1) (i := 1) (x := x1) 1 (by decide +kernel) rfl rfl ?_
    refine wp_bipush (z := 100) (v := 100) (by decide +kernel) (by decide) ?_
    refine wp_icmp_lt (off := 32) (tgt := 73) (by decide +kernel) (by decide) (fun c2 => ?_) (fun c2 => ?_)
    · rw [if_pos c2] at H
      refine wp_iload_n (z := 1) (i := 1) (x := x1) 1 (by decide +kernel) rfl rfl ?_
      refine wp_bipush (z := 40) (v := 40) (by decide +kernel) (by decide) ?_
      refine wp_icmp_lt (off := 32) (tgt := 108) (by decide +kernel) (by decide) (fun c3 => ?_) (fun c3 => ?_)
      · rw [if_pos c3] at H
        refine wp_iload_n (z := 1) (i := 1) (x := x1) 1 (by decide +kernel) rfl rfl ?_
        refine wp_bipush (z := 30) (v := 30) (by decide +kernel) (by decide) ?_
        refine wp_icmp_lt (off := 32) (tgt := 143) (by decide +kernel) (by decide) (fun c4 => ?_) (fun c4 => ?_)
        · rw [if_pos c4] at H
          refine wp_iload_n (z := 1) (i := 1) (x := x1) 1 (by decide +kernel) rfl rfl ?_
          refine wp_bipush (z := 20) (v := 20) (by decide +kernel) (by decide) ?_
          refine wp_icmp_lt (off := 32) (tgt := 178) (by decide +kernel) (by decide) (fun c5 => ?_) (fun c5 => ?_)
          · rw [if_pos c5] at H
            refine wp_iload_n (z := 1) (i := 1) (x := x1) 1 (by decide +kernel) rfl rfl ?_
            refine wp_bipush (z := 10) (v := 10) (by decide +kernel) (by decide) ?_
            refine wp_icmp_lt (off := 32) (tgt := 213) (by decide +kernel) (by decide) (fun c6 => ?_) (fun c6 => ?_)
            · rw [if_pos c6] at H
              refine wp_iload_n (z := 1) (i := 1) (x := x1) 1 (by decide +kernel) rfl rfl ?_
              by_cases c7 : x1 = 0
              · rw [if_pos c7] at H
                refine wp_tableIn (dflt := 41) (lo := 0) (hi := 2) (offs := #[26, 31, 36]) (len := 26) (off := 26) (tgt := 240) (by decide +kernel) (by rw [c7]; decide) (by rw [c7]; decide) (by rw [c7]; rfl) (by decide) ?_
                refine wp_aload_n (z := 0) (i := 0) (r := (some h)) 0 (by decide +kernel) rfl rfl ?_
                refine wp_getI (idx := 40) (by decide +kernel) fl5_40 rfl ok.1 ?_
                exact wp_iret (by decide +kernel) rfl (Nat.zero_le _) (Nat.zero_le _) ⟨_, _, _, rfl, rfl, H⟩
              rw [if_neg c7] at H
              by_cases c8 : x1 = 1
              · rw [if_pos c8] at H
                refine wp_tableIn (dflt := 41) (lo := 0) (hi := 2) (offs := #[26, 31, 36]) (len := 26) (off := 31) (tgt := 245) (by decide +kernel) (by rw [c8]; decide) (by rw [c8]; decide) (by rw [c8]; rfl) (by decide) ?_
                refine wp_aload_n (z := 0) (i := 0) (r := (some h)) 0 (by decide +kernel) rfl rfl ?_
                refine wp_getI (idx := 44) (by decide +kernel) fl5_44 rfl ok.1 ?_
                exact wp_iret (by decide +kernel) rfl (Nat.zero_le _) (Nat.zero_le _) ⟨_, _, _, rfl, rfl, H⟩
              rw [if_neg c8] at H
              by_cases c9 : x1 = 2
              · rw [if_pos c9] at H
                refine wp_tableIn (dflt := 41) (lo := 0) (hi := 2) (offs := #[26, 31, 36]) (len := 26) (off := 36) (tgt := 250) (by decide +kernel) (by rw [c9]; decide) (by rw [c9]; decide) (by rw [c9]; rfl) (by decide) ?_
                refine wp_aload_n (z := 0) (i := 0) (r := (some h)) 0 (by decide +kernel) rfl rfl ?_
                refine wp_callV (idx := 161) (B2 := B5_couples) (As := []) (a := h) (st := []) (by decide +kernel) m5_couples ml5_161 k5_couples e5_couples ck5 ok.1 (⟨Nat.le_of_ble_eq_true rfl, Nat.le_of_ble_eq_true rfl⟩ : rOK B5_answer B5_couples) rfl (Nat.le_of_ble_eq_true rfl) (Nat.le_of_ble_eq_true rfl) ⟨Nat.le_of_ble_eq_true rfl, Nat.le_of_ble_eq_true rfl⟩ rfl (wp_mono H (fun v9 M9 hq9 => ?_))
                clear H
                obtain ⟨r12, I10, L11, rfl, rfl, H⟩ := hq9
                show wp X B5_answer 254 [(0, .ref h), (1, .int x1)] [.int r12] (G, I10, L11) 0 0 _
                exact wp_iret (by decide +kernel) rfl (Nat.zero_le _) (Nat.zero_le _) ⟨_, _, _, rfl, rfl, H⟩
              rw [if_neg c9] at H
              have qc7 := sw_ne c7 (z := 0) (by decide)
              have qc8 := sw_ne c8 (z := 1) (by decide)
              have qc9 := sw_ne c9 (z := 2) (by decide)
              refine wp_tableOut (dflt := 41) (lo := 0) (hi := 2) (offs := #[26, 31, 36]) (len := 26) (tgt := 255) (by decide +kernel) (by omega) (by decide) ?_
              refine wp_bipush (z := -2) (v := (-2)) (by decide +kernel) (by decide) ?_
              exact wp_iret (by decide +kernel) rfl (Nat.zero_le _) (Nat.zero_le _) ⟨_, _, _, rfl, rfl, H⟩
            · rw [if_neg c6] at H
              refine wp_aload_n (z := 0) (i := 0) (r := (some h)) 0 (by decide +kernel) rfl rfl ?_
              refine wp_getR (idx := 12) (by decide +kernel) fl5_12 rfl ok.1 ?_
              refine wp_topr (fun r13 er13 => ?_)
              replace H := H r13 er13
              refine wp_iload_n (z := 1) (i := 1) (x := x1) 1 (by decide +kernel) rfl rfl ?_
              refine wp_bipush (z := 10) (v := 10) (by decide +kernel) (by decide) ?_
              refine wp_isub (by decide +kernel) ?_
              obtain ⟨q14, e15, H⟩ := H
              subst e15
              show wp X B5_answer 192 [(0, .ref h), (1, .int x1)] [.int (x1 - 10), .ref q14] (G, I, L) 0 0 _
              obtain ⟨f16, H⟩ := H
              refine wp_callV (idx := 122) (B2 := B7_hasFeeler) (As := [.int (x1 - 10)]) (a := q14) (st := []) (by decide +kernel) m7_hasFeeler ml5_122 k7_hasFeeler e7_hasFeeler ck7 f16.1 (⟨Nat.le_of_ble_eq_true rfl, Nat.le_of_ble_eq_true rfl⟩ : rOK B5_answer B7_hasFeeler) rfl (Nat.le_of_ble_eq_true rfl) (Nat.le_of_ble_eq_true rfl) ⟨Nat.le_of_ble_eq_true rfl, Nat.le_of_ble_eq_true rfl⟩ rfl (wp_mono (b7_hasFeeler (Q := (fun r I' L' => r = (v7_hasFeeler I q14 (x1 - 10)) ∧ I = I' ∧ L = L')) f16 ⟨rfl, rfl, rfl⟩) (fun v9 M9 hq9 => ?_))
              obtain ⟨_, _, _, rfl, rfl, rfl, rfl, rfl⟩ := hq9
              show wp X B5_answer 195 [(0, .ref h), (1, .int x1)] [.int (v7_hasFeeler I q14 (x1 - 10))] (G, I, L) 0 0 _
              refine wp_if_eq (off := 15) (tgt := 210) (by decide +kernel) (by decide) (fun c17 => ?_) (fun c17 => ?_)
              · rw [if_pos c17] at H
                refine wp_bipush (z := -2) (v := (-2)) (by decide +kernel) (by decide) ?_
                exact wp_iret (by decide +kernel) rfl (Nat.zero_le _) (Nat.zero_le _) ⟨_, _, _, rfl, rfl, H⟩
              · rw [if_neg c17] at H
                refine wp_aload_n (z := 0) (i := 0) (r := (some h)) 0 (by decide +kernel) rfl rfl ?_
                refine wp_getS (idx := 28) (q := (h + 10)) (by decide +kernel) fl5_28 rfl ok.1 (okr5_6 ok) ?_
                refine wp_iload_n (z := 1) (i := 1) (x := x1) 1 (by decide +kernel) rfl rfl ?_
                refine wp_bipush (z := 10) (v := 10) (by decide +kernel) (by decide) ?_
                refine wp_isub (by decide +kernel) ?_
                obtain ⟨o18, H⟩ := H
                refine wp_iald (j := (cl (x1 - 10))) (by decide +kernel) (oks5_6 ok) o18 rfl ?_
                refine wp_goto (off := 5) (tgt := 212) (by decide +kernel) (by decide) ?_
                exact wp_iret (by decide +kernel) rfl (Nat.zero_le _) (Nat.zero_le _) ⟨_, _, _, rfl, rfl, H⟩
          · rw [if_neg c5] at H
            refine wp_aload_n (z := 0) (i := 0) (r := (some h)) 0 (by decide +kernel) rfl rfl ?_
            refine wp_getR (idx := 12) (by decide +kernel) fl5_12 rfl ok.1 ?_
            refine wp_topr (fun r20 er20 => ?_)
            replace H := H r20 er20
            refine wp_iload_n (z := 1) (i := 1) (x := x1) 1 (by decide +kernel) rfl rfl ?_
            refine wp_bipush (z := 20) (v := 20) (by decide +kernel) (by decide) ?_
            refine wp_isub (by decide +kernel) ?_
            obtain ⟨q21, e22, H⟩ := H
            subst e22
            show wp X B5_answer 157 [(0, .ref h), (1, .int x1)] [.int (x1 - 20), .ref q21] (G, I, L) 0 0 _
            obtain ⟨f23, H⟩ := H
            refine wp_callV (idx := 122) (B2 := B7_hasFeeler) (As := [.int (x1 - 20)]) (a := q21) (st := []) (by decide +kernel) m7_hasFeeler ml5_122 k7_hasFeeler e7_hasFeeler ck7 f23.1 (⟨Nat.le_of_ble_eq_true rfl, Nat.le_of_ble_eq_true rfl⟩ : rOK B5_answer B7_hasFeeler) rfl (Nat.le_of_ble_eq_true rfl) (Nat.le_of_ble_eq_true rfl) ⟨Nat.le_of_ble_eq_true rfl, Nat.le_of_ble_eq_true rfl⟩ rfl (wp_mono (b7_hasFeeler (Q := (fun r I' L' => r = (v7_hasFeeler I q21 (x1 - 20)) ∧ I = I' ∧ L = L')) f23 ⟨rfl, rfl, rfl⟩) (fun v9 M9 hq9 => ?_))
            obtain ⟨_, _, _, rfl, rfl, rfl, rfl, rfl⟩ := hq9
            show wp X B5_answer 160 [(0, .ref h), (1, .int x1)] [.int (v7_hasFeeler I q21 (x1 - 20))] (G, I, L) 0 0 _
            refine wp_if_eq (off := 15) (tgt := 175) (by decide +kernel) (by decide) (fun c24 => ?_) (fun c24 => ?_)
            · rw [if_pos c24] at H
              refine wp_bipush (z := -2) (v := (-2)) (by decide +kernel) (by decide) ?_
              exact wp_iret (by decide +kernel) rfl (Nat.zero_le _) (Nat.zero_le _) ⟨_, _, _, rfl, rfl, H⟩
            · rw [if_neg c24] at H
              refine wp_aload_n (z := 0) (i := 0) (r := (some h)) 0 (by decide +kernel) rfl rfl ?_
              refine wp_getS (idx := 31) (q := (h + 11)) (by decide +kernel) fl5_31 rfl ok.1 (okr5_7 ok) ?_
              refine wp_iload_n (z := 1) (i := 1) (x := x1) 1 (by decide +kernel) rfl rfl ?_
              refine wp_bipush (z := 20) (v := 20) (by decide +kernel) (by decide) ?_
              refine wp_isub (by decide +kernel) ?_
              obtain ⟨o25, H⟩ := H
              refine wp_iald (j := (cl (x1 - 20))) (by decide +kernel) (oks5_7 ok) o25 rfl ?_
              refine wp_goto (off := 5) (tgt := 177) (by decide +kernel) (by decide) ?_
              exact wp_iret (by decide +kernel) rfl (Nat.zero_le _) (Nat.zero_le _) ⟨_, _, _, rfl, rfl, H⟩
        · rw [if_neg c4] at H
          refine wp_aload_n (z := 0) (i := 0) (r := (some h)) 0 (by decide +kernel) rfl rfl ?_
          refine wp_getR (idx := 12) (by decide +kernel) fl5_12 rfl ok.1 ?_
          refine wp_topr (fun r27 er27 => ?_)
          replace H := H r27 er27
          refine wp_iload_n (z := 1) (i := 1) (x := x1) 1 (by decide +kernel) rfl rfl ?_
          refine wp_bipush (z := 30) (v := 30) (by decide +kernel) (by decide) ?_
          refine wp_isub (by decide +kernel) ?_
          obtain ⟨q28, e29, H⟩ := H
          subst e29
          show wp X B5_answer 122 [(0, .ref h), (1, .int x1)] [.int (x1 - 30), .ref q28] (G, I, L) 0 0 _
          obtain ⟨f30, H⟩ := H
          refine wp_callV (idx := 122) (B2 := B7_hasFeeler) (As := [.int (x1 - 30)]) (a := q28) (st := []) (by decide +kernel) m7_hasFeeler ml5_122 k7_hasFeeler e7_hasFeeler ck7 f30.1 (⟨Nat.le_of_ble_eq_true rfl, Nat.le_of_ble_eq_true rfl⟩ : rOK B5_answer B7_hasFeeler) rfl (Nat.le_of_ble_eq_true rfl) (Nat.le_of_ble_eq_true rfl) ⟨Nat.le_of_ble_eq_true rfl, Nat.le_of_ble_eq_true rfl⟩ rfl (wp_mono (b7_hasFeeler (Q := (fun r I' L' => r = (v7_hasFeeler I q28 (x1 - 30)) ∧ I = I' ∧ L = L')) f30 ⟨rfl, rfl, rfl⟩) (fun v9 M9 hq9 => ?_))
          obtain ⟨_, _, _, rfl, rfl, rfl, rfl, rfl⟩ := hq9
          show wp X B5_answer 125 [(0, .ref h), (1, .int x1)] [.int (v7_hasFeeler I q28 (x1 - 30))] (G, I, L) 0 0 _
          refine wp_if_eq (off := 15) (tgt := 140) (by decide +kernel) (by decide) (fun c31 => ?_) (fun c31 => ?_)
          · rw [if_pos c31] at H
            refine wp_bipush (z := -2) (v := (-2)) (by decide +kernel) (by decide) ?_
            exact wp_iret (by decide +kernel) rfl (Nat.zero_le _) (Nat.zero_le _) ⟨_, _, _, rfl, rfl, H⟩
          · rw [if_neg c31] at H
            refine wp_aload_n (z := 0) (i := 0) (r := (some h)) 0 (by decide +kernel) rfl rfl ?_
            refine wp_getS (idx := 34) (q := (h + 12)) (by decide +kernel) fl5_34 rfl ok.1 (okr5_8 ok) ?_
            refine wp_iload_n (z := 1) (i := 1) (x := x1) 1 (by decide +kernel) rfl rfl ?_
            refine wp_bipush (z := 30) (v := 30) (by decide +kernel) (by decide) ?_
            refine wp_isub (by decide +kernel) ?_
            obtain ⟨o32, H⟩ := H
            refine wp_iald (j := (cl (x1 - 30))) (by decide +kernel) (oks5_8 ok) o32 rfl ?_
            refine wp_goto (off := 5) (tgt := 142) (by decide +kernel) (by decide) ?_
            exact wp_iret (by decide +kernel) rfl (Nat.zero_le _) (Nat.zero_le _) ⟨_, _, _, rfl, rfl, H⟩
      · rw [if_neg c3] at H
        refine wp_aload_n (z := 0) (i := 0) (r := (some h)) 0 (by decide +kernel) rfl rfl ?_
        refine wp_getR (idx := 12) (by decide +kernel) fl5_12 rfl ok.1 ?_
        refine wp_topr (fun r34 er34 => ?_)
        replace H := H r34 er34
        refine wp_iload_n (z := 1) (i := 1) (x := x1) 1 (by decide +kernel) rfl rfl ?_
        refine wp_bipush (z := 40) (v := 40) (by decide +kernel) (by decide) ?_
        refine wp_isub (by decide +kernel) ?_
        obtain ⟨q35, e36, H⟩ := H
        subst e36
        show wp X B5_answer 87 [(0, .ref h), (1, .int x1)] [.int (x1 - 40), .ref q35] (G, I, L) 0 0 _
        obtain ⟨f37, H⟩ := H
        refine wp_callV (idx := 122) (B2 := B7_hasFeeler) (As := [.int (x1 - 40)]) (a := q35) (st := []) (by decide +kernel) m7_hasFeeler ml5_122 k7_hasFeeler e7_hasFeeler ck7 f37.1 (⟨Nat.le_of_ble_eq_true rfl, Nat.le_of_ble_eq_true rfl⟩ : rOK B5_answer B7_hasFeeler) rfl (Nat.le_of_ble_eq_true rfl) (Nat.le_of_ble_eq_true rfl) ⟨Nat.le_of_ble_eq_true rfl, Nat.le_of_ble_eq_true rfl⟩ rfl (wp_mono (b7_hasFeeler (Q := (fun r I' L' => r = (v7_hasFeeler I q35 (x1 - 40)) ∧ I = I' ∧ L = L')) f37 ⟨rfl, rfl, rfl⟩) (fun v9 M9 hq9 => ?_))
        obtain ⟨_, _, _, rfl, rfl, rfl, rfl, rfl⟩ := hq9
        show wp X B5_answer 90 [(0, .ref h), (1, .int x1)] [.int (v7_hasFeeler I q35 (x1 - 40))] (G, I, L) 0 0 _
        refine wp_if_eq (off := 15) (tgt := 105) (by decide +kernel) (by decide) (fun c38 => ?_) (fun c38 => ?_)
        · rw [if_pos c38] at H
          refine wp_bipush (z := -2) (v := (-2)) (by decide +kernel) (by decide) ?_
          exact wp_iret (by decide +kernel) rfl (Nat.zero_le _) (Nat.zero_le _) ⟨_, _, _, rfl, rfl, H⟩
        · rw [if_neg c38] at H
          refine wp_aload_n (z := 0) (i := 0) (r := (some h)) 0 (by decide +kernel) rfl rfl ?_
          refine wp_getS (idx := 37) (q := (h + 13)) (by decide +kernel) fl5_37 rfl ok.1 (okr5_9 ok) ?_
          refine wp_iload_n (z := 1) (i := 1) (x := x1) 1 (by decide +kernel) rfl rfl ?_
          refine wp_bipush (z := 40) (v := 40) (by decide +kernel) (by decide) ?_
          refine wp_isub (by decide +kernel) ?_
          obtain ⟨o39, H⟩ := H
          refine wp_iald (j := (cl (x1 - 40))) (by decide +kernel) (oks5_9 ok) o39 rfl ?_
          refine wp_goto (off := 5) (tgt := 107) (by decide +kernel) (by decide) ?_
          exact wp_iret (by decide +kernel) rfl (Nat.zero_le _) (Nat.zero_le _) ⟨_, _, _, rfl, rfl, H⟩
    · rw [if_neg c2] at H
      refine wp_aload_n (z := 0) (i := 0) (r := (some h)) 0 (by decide +kernel) rfl rfl ?_
      refine wp_getR (idx := 12) (by decide +kernel) fl5_12 rfl ok.1 ?_
      refine wp_topr (fun r41 er41 => ?_)
      replace H := H r41 er41
      refine wp_iload_n (z := 1) (i := 1) (x := x1) 1 (by decide +kernel) rfl rfl ?_
      refine wp_bipush (z := 100) (v := 100) (by decide +kernel) (by decide) ?_
      refine wp_isub (by decide +kernel) ?_
      obtain ⟨q42, e43, H⟩ := H
      subst e43
      show wp X B5_answer 52 [(0, .ref h), (1, .int x1)] [.int (x1 - 100), .ref q42] (G, I, L) 0 0 _
      obtain ⟨f44, H⟩ := H
      refine wp_callV (idx := 118) (B2 := B7_hasCell) (As := [.int (x1 - 100)]) (a := q42) (st := []) (by decide +kernel) m7_hasCell ml5_118 k7_hasCell e7_hasCell ck7 f44.1 (⟨Nat.le_of_ble_eq_true rfl, Nat.le_of_ble_eq_true rfl⟩ : rOK B5_answer B7_hasCell) rfl (Nat.le_of_ble_eq_true rfl) (Nat.le_of_ble_eq_true rfl) ⟨Nat.le_of_ble_eq_true rfl, Nat.le_of_ble_eq_true rfl⟩ rfl (wp_mono (b7_hasCell (Q := (fun r I' L' => r = (v7_hasCell I q42 (x1 - 100)) ∧ I = I' ∧ L = L')) f44 ⟨rfl, rfl, rfl⟩) (fun v9 M9 hq9 => ?_))
      obtain ⟨_, _, _, rfl, rfl, rfl, rfl, rfl⟩ := hq9
      show wp X B5_answer 55 [(0, .ref h), (1, .int x1)] [.int (v7_hasCell I q42 (x1 - 100))] (G, I, L) 0 0 _
      refine wp_if_eq (off := 15) (tgt := 70) (by decide +kernel) (by decide) (fun c45 => ?_) (fun c45 => ?_)
      · rw [if_pos c45] at H
        refine wp_bipush (z := -2) (v := (-2)) (by decide +kernel) (by decide) ?_
        exact wp_iret (by decide +kernel) rfl (Nat.zero_le _) (Nat.zero_le _) ⟨_, _, _, rfl, rfl, H⟩
      · rw [if_neg c45] at H
        refine wp_aload_n (z := 0) (i := 0) (r := (some h)) 0 (by decide +kernel) rfl rfl ?_
        refine wp_getR (idx := 18) (by decide +kernel) fl5_18 rfl ok.1 ?_
        refine wp_topr (fun r46 er46 => ?_)
        replace H := H r46 er46
        refine wp_iload_n (z := 1) (i := 1) (x := x1) 1 (by decide +kernel) rfl rfl ?_
        refine wp_bipush (z := 100) (v := 100) (by decide +kernel) (by decide) ?_
        refine wp_isub (by decide +kernel) ?_
        obtain ⟨q47, e48, H⟩ := H
        subst e48
        show wp X B5_answer 66 [(0, .ref h), (1, .int x1)] [.int (x1 - 100), .ref q47] (G, I, L) 0 0 _
        obtain ⟨n50, f49, H⟩ := H
        obtain ⟨o51, H⟩ := H
        refine wp_iald (j := (cl (x1 - 100))) (by decide +kernel) f49 o51 rfl ?_
        refine wp_goto (off := 5) (tgt := 72) (by decide +kernel) (by decide) ?_
        exact wp_iret (by decide +kernel) rfl (Nat.zero_le _) (Nat.zero_le _) ⟨_, _, _, rfl, rfl, H⟩
  · rw [if_neg c1] at H
    refine wp_aload_n (z := 0) (i := 0) (r := (some h)) 0 (by decide +kernel) rfl rfl ?_
    refine wp_getR (idx := 12) (by decide +kernel) fl5_12 rfl ok.1 ?_
    refine wp_topr (fun r53 er53 => ?_)
    replace H := H r53 er53
    refine wp_iload_n (z := 1) (i := 1) (x := x1) 1 (by decide +kernel) rfl rfl ?_
    refine wp_sipush (z := 200) (v := 200) (by decide +kernel) (by decide) ?_
    refine wp_isub (by decide +kernel) ?_
    obtain ⟨q54, e55, H⟩ := H
    subst e55
    show wp X B5_answer 16 [(0, .ref h), (1, .int x1)] [.int (x1 - 200), .ref q54] (G, I, L) 0 0 _
    obtain ⟨f56, H⟩ := H
    refine wp_callV (idx := 118) (B2 := B7_hasCell) (As := [.int (x1 - 200)]) (a := q54) (st := []) (by decide +kernel) m7_hasCell ml5_118 k7_hasCell e7_hasCell ck7 f56.1 (⟨Nat.le_of_ble_eq_true rfl, Nat.le_of_ble_eq_true rfl⟩ : rOK B5_answer B7_hasCell) rfl (Nat.le_of_ble_eq_true rfl) (Nat.le_of_ble_eq_true rfl) ⟨Nat.le_of_ble_eq_true rfl, Nat.le_of_ble_eq_true rfl⟩ rfl (wp_mono (b7_hasCell (Q := (fun r I' L' => r = (v7_hasCell I q54 (x1 - 200)) ∧ I = I' ∧ L = L')) f56 ⟨rfl, rfl, rfl⟩) (fun v9 M9 hq9 => ?_))
    obtain ⟨_, _, _, rfl, rfl, rfl, rfl, rfl⟩ := hq9
    show wp X B5_answer 19 [(0, .ref h), (1, .int x1)] [.int (v7_hasCell I q54 (x1 - 200))] (G, I, L) 0 0 _
    refine wp_if_eq (off := 16) (tgt := 35) (by decide +kernel) (by decide) (fun c57 => ?_) (fun c57 => ?_)
    · rw [if_pos c57] at H
      refine wp_bipush (z := -2) (v := (-2)) (by decide +kernel) (by decide) ?_
      exact wp_iret (by decide +kernel) rfl (Nat.zero_le _) (Nat.zero_le _) ⟨_, _, _, rfl, rfl, H⟩
    · rw [if_neg c57] at H
      refine wp_aload_n (z := 0) (i := 0) (r := (some h)) 0 (by decide +kernel) rfl rfl ?_
      refine wp_getS (idx := 25) (q := (h + 9)) (by decide +kernel) fl5_25 rfl ok.1 (okr5_5 ok) ?_
      refine wp_iload_n (z := 1) (i := 1) (x := x1) 1 (by decide +kernel) rfl rfl ?_
      refine wp_sipush (z := 200) (v := 200) (by decide +kernel) (by decide) ?_
      refine wp_isub (by decide +kernel) ?_
      obtain ⟨o58, H⟩ := H
      refine wp_iald (j := (cl (x1 - 200))) (by decide +kernel) (oks5_5 ok) o58 rfl ?_
      refine wp_goto (off := 5) (tgt := 37) (by decide +kernel) (by decide) ?_
      exact wp_iret (by decide +kernel) rfl (Nat.zero_le _) (Nat.zero_le _) ⟨_, _, _, rfl, rfl, H⟩
/-! DeafWall.state(IIII)I -/
set_option maxRecDepth 20000 in
theorem b8_state {X : XX} {G : GG} {I : Nat → Nat → Int32} {L : Nat → Nat → Int64} {h : Nat} {x1 : Int32} {x2 : Int32} {x3 : Int32} {x4 : Int32} {Q : Int32 → GG → (Nat → Nat → Int32) → (Nat → Nat → Int64) → Prop} (ok : OK8 G h) (H : wpR X B8_wallAt 0 [(0, .ref h), (1, .int x1)] [] G I L (fun r3 I1 L2 => wpR X B8_linesAt 0 [(0, .ref h), (1, .int 1), (2, .int x2)] [] G I1 L2 (fun r6 I4 L5 => (r3 = none → Q (-2) G I4 L5) ∧ (∀ q8, r3 = some q8 → (r6 = none → Q (-2) G I4 L5) ∧ (∀ q10, r6 = some q10 → if x3 < (0 : Int32) then (Q (-2) G I4 L5) else (∃ n13, OK2 G q10 n13 ∧ (if x3 ≤ (I4 q10 0) then (wgI X B5_live 0 [(0, .ref (h + 10)), (1, .ref q8), (2, .ref q10), (3, .int x3)] [] G I4 L5 0 0 (fun r17 G18 I15 L16 => if r17 = x3 then (OK8 G18 h ∧ (wpI X B5_answer 0 [(0, .ref (h + 10)), (1, .int x4)] [] G18 I15 L16 (fun r23 I21 L22 => Q r23 G18 I21 L22))) else (Q (-2) G18 I15 L16))) else (Q (-2) G I4 L5)))))))) : wgI X B8_state 0 [(0, .ref h), (1, .int x1), (2, .int x2), (3, .int x3), (4, .int x4)] [] G I L 0 0 Q := by
  refine wp_aload_n (z := 0) (i := 0) (r := (some h)) 0 (by decide +kernel) rfl rfl ?_
  refine wp_iload_n (z := 1) (i := 1) (x := x1) 1 (by decide +kernel) rfl rfl ?_
  refine wp_callV (idx := 129) (B2 := B8_wallAt) (As := [.int x1]) (a := h) (st := []) (by decide +kernel) m8_wallAt ml8_129 k8_wallAt e8_wallAt ck8 ok.1 (⟨Nat.le_of_ble_eq_true rfl, Nat.le_of_ble_eq_true rfl⟩ : rOK B8_state B8_wallAt) rfl (Nat.le_of_ble_eq_true rfl) (Nat.le_of_ble_eq_true rfl) ⟨Nat.le_of_ble_eq_true rfl, Nat.le_of_ble_eq_true rfl⟩ rfl (wp_mono H (fun v9 M9 hq9 => ?_))
  clear H
  obtain ⟨r3, I1, L2, rfl, rfl, H⟩ := hq9
  show wp X B8_state 5 [(0, .ref h), (1, .int x1), (2, .int x2), (3, .int x3), (4, .int x4)] [va_rf r3] (G, I1, L2) 0 0 _
  refine wp_astore (i := 5) (lv' := [(5, va_rf r3), (0, .ref h), (1, .int x1), (2, .int x2), (3, .int x3), (4, .int x4)]) (r := r3) (by decide +kernel) (by decide) (by cases r3 <;> rfl) ?_
  refine wp_aload_n (z := 0) (i := 0) (r := (some h)) 1 (by decide +kernel) rfl rfl ?_
  refine wp_iconst (z := 1) (v := 1) (by decide +kernel) (by decide) ?_
  refine wp_iload_n (z := 2) (i := 2) (x := x2) 3 (by decide +kernel) rfl rfl ?_
  refine wp_callV (idx := 175) (B2 := B8_linesAt) (As := [.int 1, .int x2]) (a := h) (st := []) (by decide +kernel) m8_linesAt ml8_175 k8_linesAt e8_linesAt ck8 ok.1 (⟨Nat.le_of_ble_eq_true rfl, Nat.le_of_ble_eq_true rfl⟩ : rOK B8_state B8_linesAt) rfl (Nat.le_of_ble_eq_true rfl) (Nat.le_of_ble_eq_true rfl) ⟨Nat.le_of_ble_eq_true rfl, Nat.le_of_ble_eq_true rfl⟩ rfl (wp_mono H (fun v9 M9 hq9 => ?_))
  clear H
  obtain ⟨r6, I4, L5, rfl, rfl, H⟩ := hq9
  show wp X B8_state 13 [(5, va_rf r3), (0, .ref h), (1, .int x1), (2, .int x2), (3, .int x3), (4, .int x4)] [va_rf r6] (G, I4, L5) 0 0 _
  refine wp_astore (i := 6) (lv' := [(6, va_rf r6), (5, va_rf r3), (0, .ref h), (1, .int x1), (2, .int x2), (3, .int x3), (4, .int x4)]) (r := r6) (by decide +kernel) (by decide) (by cases r6 <;> cases r3 <;> rfl) ?_
  refine wp_aload (i := 5) (r := r3) 1 (by decide +kernel) rfl ?_
  refine wp_ifnull (off := 21) (tgt := 38) (r := r3) (by decide +kernel) (by decide) (fun c7 => ?_) (fun q8 c7 => ?_)
  · replace H := H.1 c7
    subst c7
    show wp X B8_state 38 [(6, va_rf r6), (5, .null), (0, .ref h), (1, .int x1), (2, .int x2), (3, .int x3), (4, .int x4)] [] (G, I4, L5) 0 0 _
    refine wp_bipush (z := -2) (v := (-2)) (by decide +kernel) (by decide) ?_
    exact wp_iret (by decide +kernel) rfl (Nat.le_of_ble_eq_true rfl) (Nat.le_of_ble_eq_true rfl) ⟨_, rfl, H⟩
  · replace H := H.2 q8 c7
    subst c7
    show wp X B8_state 20 [(6, va_rf r6), (5, .ref q8), (0, .ref h), (1, .int x1), (2, .int x2), (3, .int x3), (4, .int x4)] [] (G, I4, L5) 0 0 _
    refine wp_aload (i := 6) (r := r6) 0 (by decide +kernel) rfl ?_
    refine wp_ifnull (off := 16) (tgt := 38) (r := r6) (by decide +kernel) (by decide) (fun c9 => ?_) (fun q10 c9 => ?_)
    · replace H := H.1 c9
      subst c9
      show wp X B8_state 38 [(6, .null), (5, .ref q8), (0, .ref h), (1, .int x1), (2, .int x2), (3, .int x3), (4, .int x4)] [] (G, I4, L5) 0 0 _
      refine wp_bipush (z := -2) (v := (-2)) (by decide +kernel) (by decide) ?_
      exact wp_iret (by decide +kernel) rfl (Nat.le_of_ble_eq_true rfl) (Nat.le_of_ble_eq_true rfl) ⟨_, rfl, H⟩
    · replace H := H.2 q10 c9
      subst c9
      show wp X B8_state 25 [(6, .ref q10), (5, .ref q8), (0, .ref h), (1, .int x1), (2, .int x2), (3, .int x3), (4, .int x4)] [] (G, I4, L5) 0 0 _
      refine wp_iload_n (z := 3) (i := 3) (x := x3) 5 (by decide +kernel) rfl rfl ?_
      refine wp_if_lt (off := 12) (tgt := 38) (by decide +kernel) (by decide) (fun c11 => ?_) (fun c11 => ?_)
      · rw [if_pos c11] at H
        refine wp_bipush (z := -2) (v := (-2)) (by decide +kernel) (by decide) ?_
        exact wp_iret (by decide +kernel) rfl (Nat.le_of_ble_eq_true rfl) (Nat.le_of_ble_eq_true rfl) ⟨_, rfl, H⟩
      · rw [if_neg c11] at H
        refine wp_iload_n (z := 3) (i := 3) (x := x3) 5 (by decide +kernel) rfl rfl ?_
        refine wp_aload (i := 6) (r := (some q10)) 0 (by decide +kernel) rfl ?_
        obtain ⟨n13, f12, H⟩ := H
        refine wp_getI (idx := 183) (by decide +kernel) fl8_183 rfl f12.1 ?_
        refine wp_icmp_le (off := 6) (tgt := 41) (by decide +kernel) (by decide) (fun c14 => ?_) (fun c14 => ?_)
        · rw [if_pos c14] at H
          refine wp_aload_n (z := 0) (i := 0) (r := (some h)) 2 (by decide +kernel) rfl rfl ?_
          refine wp_getS (idx := 30) (q := (h + 10)) (by decide +kernel) fl8_30 rfl ok.1 (okr8_3 ok) ?_
          refine wp_aload (i := 5) (r := (some q8)) 1 (by decide +kernel) rfl ?_
          refine wp_aload (i := 6) (r := (some q10)) 0 (by decide +kernel) rfl ?_
          refine wp_iload_n (z := 3) (i := 3) (x := x3) 5 (by decide +kernel) rfl rfl ?_
          refine wp_callV (idx := 208) (B2 := B5_live) (As := [.ref q8, .ref q10, .int x3]) (a := (h + 10)) (st := []) (by decide +kernel) m5_live ml8_208 k5_live e5_live ck5 (oko8_3 ok).1 (⟨Nat.le_of_ble_eq_true rfl, Nat.le_of_ble_eq_true rfl⟩ : rOK B8_state B5_live) rfl (Nat.le_of_ble_eq_true rfl) (Nat.le_of_ble_eq_true rfl) ⟨Nat.le_of_ble_eq_true rfl, Nat.le_of_ble_eq_true rfl⟩ rfl (wp_mono H (fun v9 M9 hq9 => ?_))
          clear H
          obtain ⟨G18, I15, L16⟩ := M9
          obtain ⟨r17, rfl, H⟩ := hq9
          try dsimp only at H
          show wp X B8_state 53 [(6, .ref q10), (5, .ref q8), (0, .ref h), (1, .int x1), (2, .int x2), (3, .int x3), (4, .int x4)] [.int r17] (G18, I15, L16) 0 0 _
          refine wp_iload_n (z := 3) (i := 3) (x := x3) 5 (by decide +kernel) rfl rfl ?_
          refine wp_icmp_ne (off := 15) (tgt := 69) (by decide +kernel) (by decide) (fun c19 => ?_) (fun c19 => ?_)
          · rw [if_neg c19] at H
            refine wp_bipush (z := -2) (v := (-2)) (by decide +kernel) (by decide) ?_
            exact wp_iret (by decide +kernel) rfl (Nat.le_of_ble_eq_true rfl) (Nat.le_of_ble_eq_true rfl) ⟨_, rfl, H⟩
          · rw [if_pos c19] at H
            refine wp_aload_n (z := 0) (i := 0) (r := (some h)) 2 (by decide +kernel) rfl rfl ?_
            obtain ⟨f20, H⟩ := H
            refine wp_getS (idx := 30) (q := (h + 10)) (by decide +kernel) fl8_30 rfl f20.1 (okr8_3 f20) ?_
            refine wp_iload (i := 4) (x := x4) 6 (by decide +kernel) rfl ?_
            refine wp_callV (idx := 212) (B2 := B5_answer) (As := [.int x4]) (a := (h + 10)) (st := []) (by decide +kernel) m5_answer ml8_212 k5_answer e5_answer ck5 (oko8_3 f20).1 (⟨Nat.le_of_ble_eq_true rfl, Nat.le_of_ble_eq_true rfl⟩ : rOK B8_state B5_answer) rfl (Nat.le_of_ble_eq_true rfl) (Nat.le_of_ble_eq_true rfl) ⟨Nat.le_of_ble_eq_true rfl, Nat.le_of_ble_eq_true rfl⟩ rfl (wp_mono H (fun v9 M9 hq9 => ?_))
            clear H
            obtain ⟨r23, I21, L22, rfl, rfl, H⟩ := hq9
            show wp X B8_state 66 [(6, .ref q10), (5, .ref q8), (0, .ref h), (1, .int x1), (2, .int x2), (3, .int x3), (4, .int x4)] [.int r23] (G18, I21, L22) 0 0 _
            refine wp_goto (off := 5) (tgt := 71) (by decide +kernel) (by decide) ?_
            exact wp_iret (by decide +kernel) rfl (Nat.le_of_ble_eq_true rfl) (Nat.le_of_ble_eq_true rfl) ⟨_, rfl, H⟩
        · rw [if_neg c14] at H
          refine wp_bipush (z := -2) (v := (-2)) (by decide +kernel) (by decide) ?_
          exact wp_iret (by decide +kernel) rfl (Nat.le_of_ble_eq_true rfl) (Nat.le_of_ble_eq_true rfl) ⟨_, rfl, H⟩
/-! DeafWall$Stand.keenest()I -/
set_option maxRecDepth 20000 in
theorem b5_keenest {X : XX} {G : GG} {I : Nat → Nat → Int32} {L : Nat → Nat → Int64} {h : Nat} {Q : Int32 → (Nat → Nat → Int32) → (Nat → Nat → Int64) → Prop} (ok : OK5 G h) (H : wpI X B5_keenest 4 [(0, .ref h), (1, .int (-1)), (2, .int 0)] [] G I L Q) : wpI X B5_keenest 0 [(0, .ref h)] [] G I L Q := by
  refine wp_iconst (z := -1) (v := (-1)) (by decide +kernel) (by decide) ?_
  refine wp_istore_n (z := 1) (i := 1) (lv' := [(1, .int (-1)), (0, .ref h)]) (by decide +kernel) rfl (by decide) rfl ?_
  refine wp_iconst (z := 0) (v := 0) (by decide +kernel) (by decide) ?_
  refine wp_istore_n (z := 2) (i := 2) (lv' := [(2, .int 0), (1, .int (-1)), (0, .ref h)]) (by decide +kernel) rfl (by decide) rfl ?_
  exact wp_sub [2, 1, 0] rfl H
set_option maxRecDepth 20000 in
theorem b5_keenest_4 {X : XX} {G : GG} {I : Nat → Nat → Int32} {L : Nat → Nat → Int64} {h : Nat} {x1 : Int32} {x2 : Int32} {Q : Int32 → (Nat → Nat → Int32) → (Nat → Nat → Int64) → Prop} (ok : OK5 G h) (H : ∀ r1, r1 = G.2.1 h 0 → ∃ q2, r1 = some q2 ∧ (OK7 G q2 ∧ (if (I q2 4) ≤ x2 then (Q x1 I L) else (vp_in x2 6 ∧ (if x1 = (-1) then (if (I (h + 11) (cl x2)) ≤ 0 then (wpI X B5_keenest 4 [(0, .ref h), (1, .int x1), (2, .int (x2 + 1))] [] G I L Q) else (wpI X B5_keenest 4 [(0, .ref h), (1, .int x2), (2, .int (x2 + 1))] [] G I L Q)) else (vp_in x1 6 ∧ (if (I (h + 11) (cl x2)) ≤ (I (h + 11) (cl x1)) then (wpI X B5_keenest 4 [(0, .ref h), (1, .int x1), (2, .int (x2 + 1))] [] G I L Q) else (wpI X B5_keenest 4 [(0, .ref h), (1, .int x2), (2, .int (x2 + 1))] [] G I L Q)))))))) : wpI X B5_keenest 4 [(0, .ref h), (1, .int x1), (2, .int x2)] [] G I L Q := by
  refine wp_iload_n (z := 2) (i := 2) (x := x2) 2 (by decide +kernel) rfl rfl ?_
  refine wp_aload_n (z := 0) (i := 0) (r := (some h)) 0 (by decide +kernel) rfl rfl ?_
  refine wp_getR (idx := 12) (by decide +kernel) fl5_12 rfl ok.1 ?_
  refine wp_topr (fun r1 er1 => ?_)
  replace H := H r1 er1
  obtain ⟨q2, e3, H⟩ := H
  subst e3
  show wp X B5_keenest 9 [(0, .ref h), (1, .int x1), (2, .int x2)] [.ref q2, .int x2] (G, I, L) 0 0 _
  obtain ⟨f4, H⟩ := H
  refine wp_getI (idx := 138) (by decide +kernel) fl5_138 rfl f4.1 ?_
  refine wp_icmp_ge (off := 35) (tgt := 47) (by decide +kernel) (by decide) (fun c5 => ?_) (fun c5 => ?_)
  · rw [if_pos c5] at H
    refine wp_iload_n (z := 1) (i := 1) (x := x1) 1 (by decide +kernel) rfl rfl ?_
    exact wp_iret (by decide +kernel) rfl (Nat.zero_le _) (Nat.zero_le _) ⟨_, _, _, rfl, rfl, H⟩
  · rw [if_neg c5] at H
    refine wp_aload_n (z := 0) (i := 0) (r := (some h)) 0 (by decide +kernel) rfl rfl ?_
    refine wp_getS (idx := 31) (q := (h + 11)) (by decide +kernel) fl5_31 rfl ok.1 (okr5_7 ok) ?_
    refine wp_iload_n (z := 2) (i := 2) (x := x2) 2 (by decide +kernel) rfl rfl ?_
    obtain ⟨o10, H⟩ := H
    refine wp_iald (j := (cl x2)) (by decide +kernel) (oks5_7 ok) o10 rfl ?_
    refine wp_iload_n (z := 1) (i := 1) (x := x1) 1 (by decide +kernel) rfl rfl ?_
    refine wp_iconst (z := -1) (v := (-1)) (by decide +kernel) (by decide) ?_
    refine wp_icmp_ne (off := 7) (tgt := 30) (by decide +kernel) (by decide) (fun c6 => ?_) (fun c6 => ?_)
    · rw [if_neg c6] at H
      refine wp_aload_n (z := 0) (i := 0) (r := (some h)) 0 (by decide +kernel) rfl rfl ?_
      refine wp_getS (idx := 31) (q := (h + 11)) (by decide +kernel) fl5_31 rfl ok.1 (okr5_7 ok) ?_
      refine wp_iload_n (z := 1) (i := 1) (x := x1) 1 (by decide +kernel) rfl rfl ?_
      obtain ⟨o8, H⟩ := H
      refine wp_iald (j := (cl x1)) (by decide +kernel) (oks5_7 ok) o8 rfl ?_
      refine wp_icmp_le (off := 5) (tgt := 41) (by decide +kernel) (by decide) (fun c7 => ?_) (fun c7 => ?_)
      · rw [if_pos c7] at H
        refine wp_iinc (i := 2) (z := 1) (v := 1) (lv' := [(2, .int (x2 + 1)), (0, .ref h), (1, .int x1)]) 2 (by decide +kernel) rfl (by decide) (by decide) rfl ?_
        refine wp_goto (off := -40) (tgt := 4) (by decide +kernel) (by decide) ?_
        exact wp_sub [1, 2, 0] rfl H
      · rw [if_neg c7] at H
        refine wp_iload_n (z := 2) (i := 2) (x := x2) 2 (by decide +kernel) rfl rfl ?_
        refine wp_istore_n (z := 1) (i := 1) (lv' := [(1, .int x2), (0, .ref h), (2, .int x2)]) (by decide +kernel) rfl (by decide) rfl ?_
        refine wp_iinc (i := 2) (z := 1) (v := 1) (lv' := [(2, .int (x2 + 1)), (1, .int x2), (0, .ref h)]) 2 (by decide +kernel) rfl (by decide) (by decide) rfl ?_
        refine wp_goto (off := -40) (tgt := 4) (by decide +kernel) (by decide) ?_
        exact wp_sub [2, 1, 0] rfl H
    · rw [if_pos c6] at H
      refine wp_iconst (z := 0) (v := 0) (by decide +kernel) (by decide) ?_
      refine wp_goto (off := 9) (tgt := 36) (by decide +kernel) (by decide) ?_
      refine wp_icmp_le (off := 5) (tgt := 41) (by decide +kernel) (by decide) (fun c9 => ?_) (fun c9 => ?_)
      · rw [if_pos c9] at H
        refine wp_iinc (i := 2) (z := 1) (v := 1) (lv' := [(2, .int (x2 + 1)), (0, .ref h), (1, .int x1)]) 2 (by decide +kernel) rfl (by decide) (by decide) rfl ?_
        refine wp_goto (off := -40) (tgt := 4) (by decide +kernel) (by decide) ?_
        exact wp_sub [1, 2, 0] rfl H
      · rw [if_neg c9] at H
        refine wp_iload_n (z := 2) (i := 2) (x := x2) 2 (by decide +kernel) rfl rfl ?_
        refine wp_istore_n (z := 1) (i := 1) (lv' := [(1, .int x2), (0, .ref h), (2, .int x2)]) (by decide +kernel) rfl (by decide) rfl ?_
        refine wp_iinc (i := 2) (z := 1) (v := 1) (lv' := [(2, .int (x2 + 1)), (1, .int x2), (0, .ref h)]) 2 (by decide +kernel) rfl (by decide) (by decide) rfl ?_
        refine wp_goto (off := -40) (tgt := 4) (by decide +kernel) (by decide) ?_
        exact wp_sub [2, 1, 0] rfl H
/-! DeafWall.after(III)I -/
set_option maxRecDepth 20000 in
theorem b8_after {X : XX} {G : GG} {I : Nat → Nat → Int32} {L : Nat → Nat → Int64} {h : Nat} {x1 : Int32} {x2 : Int32} {x3 : Int32} {Q : Int32 → GG → (Nat → Nat → Int32) → (Nat → Nat → Int64) → Prop} (ok : OK8 G h) (H : wpR X B8_wallAt 0 [(0, .ref h), (1, .int x1)] [] G I L (fun r3 I1 L2 => wpR X B8_linesAt 0 [(0, .ref h), (1, .int 1), (2, .int x2)] [] G I1 L2 (fun r6 I4 L5 => (r3 = none → Q (-2) G I4 L5) ∧ (∀ q8, r3 = some q8 → (r6 = none → Q (-2) G I4 L5) ∧ (∀ q10, r6 = some q10 → ∃ n12, OK2 G q10 n12 ∧ (wgI X B5_live 0 [(0, .ref (h + 10)), (1, .ref q8), (2, .ref q10), (3, .int (I4 q10 0))] [] G I4 L5 0 0 (fun r15 G16 I13 L14 => if x3 = 0 then (OK8 G16 h ∧ (Q (I13 (h + 10) 11) G16 I13 L14)) else (if x3 = 1 then (OK8 G16 h ∧ (Q (I13 (h + 10) 12) G16 I13 L14)) else (if x3 = 2 then (OK8 G16 h ∧ (wpI X B5_keenest 0 [(0, .ref (h + 10))] [] G16 I13 L14 (fun r25 I23 L24 => Q r25 G16 I23 L24))) else (if x3 = 3 then (OK8 G16 h ∧ (Q (I13 (h + 10) 13) G16 I13 L14)) else (if x3 = 4 then (OK8 G16 h ∧ (Q (I13 (h + 10) 14) G16 I13 L14)) else (if x3 = 5 then (OK8 G16 h ∧ (Q (I13 (h + 10) 15) G16 I13 L14)) else (Q (-2) G16 I13 L14))))))))))))) : wgI X B8_after 0 [(0, .ref h), (1, .int x1), (2, .int x2), (3, .int x3)] [] G I L 0 0 Q := by
  refine wp_aload_n (z := 0) (i := 0) (r := (some h)) 0 (by decide +kernel) rfl rfl ?_
  refine wp_iload_n (z := 1) (i := 1) (x := x1) 1 (by decide +kernel) rfl rfl ?_
  refine wp_callV (idx := 129) (B2 := B8_wallAt) (As := [.int x1]) (a := h) (st := []) (by decide +kernel) m8_wallAt ml8_129 k8_wallAt e8_wallAt ck8 ok.1 (⟨Nat.le_of_ble_eq_true rfl, Nat.le_of_ble_eq_true rfl⟩ : rOK B8_after B8_wallAt) rfl (Nat.le_of_ble_eq_true rfl) (Nat.le_of_ble_eq_true rfl) ⟨Nat.le_of_ble_eq_true rfl, Nat.le_of_ble_eq_true rfl⟩ rfl (wp_mono H (fun v9 M9 hq9 => ?_))
  clear H
  obtain ⟨r3, I1, L2, rfl, rfl, H⟩ := hq9
  show wp X B8_after 5 [(0, .ref h), (1, .int x1), (2, .int x2), (3, .int x3)] [va_rf r3] (G, I1, L2) 0 0 _
  refine wp_astore (i := 4) (lv' := [(4, va_rf r3), (0, .ref h), (1, .int x1), (2, .int x2), (3, .int x3)]) (r := r3) (by decide +kernel) (by decide) (by cases r3 <;> rfl) ?_
  refine wp_aload_n (z := 0) (i := 0) (r := (some h)) 1 (by decide +kernel) rfl rfl ?_
  refine wp_iconst (z := 1) (v := 1) (by decide +kernel) (by decide) ?_
  refine wp_iload_n (z := 2) (i := 2) (x := x2) 3 (by decide +kernel) rfl rfl ?_
  refine wp_callV (idx := 175) (B2 := B8_linesAt) (As := [.int 1, .int x2]) (a := h) (st := []) (by decide +kernel) m8_linesAt ml8_175 k8_linesAt e8_linesAt ck8 ok.1 (⟨Nat.le_of_ble_eq_true rfl, Nat.le_of_ble_eq_true rfl⟩ : rOK B8_after B8_linesAt) rfl (Nat.le_of_ble_eq_true rfl) (Nat.le_of_ble_eq_true rfl) ⟨Nat.le_of_ble_eq_true rfl, Nat.le_of_ble_eq_true rfl⟩ rfl (wp_mono H (fun v9 M9 hq9 => ?_))
  clear H
  obtain ⟨r6, I4, L5, rfl, rfl, H⟩ := hq9
  show wp X B8_after 13 [(4, va_rf r3), (0, .ref h), (1, .int x1), (2, .int x2), (3, .int x3)] [va_rf r6] (G, I4, L5) 0 0 _
  refine wp_astore (i := 5) (lv' := [(5, va_rf r6), (4, va_rf r3), (0, .ref h), (1, .int x1), (2, .int x2), (3, .int x3)]) (r := r6) (by decide +kernel) (by decide) (by cases r6 <;> cases r3 <;> rfl) ?_
  refine wp_aload (i := 4) (r := r3) 1 (by decide +kernel) rfl ?_
  refine wp_ifnull (off := 8) (tgt := 25) (r := r3) (by decide +kernel) (by decide) (fun c7 => ?_) (fun q8 c7 => ?_)
  · replace H := H.1 c7
    subst c7
    show wp X B8_after 25 [(5, va_rf r6), (4, .null), (0, .ref h), (1, .int x1), (2, .int x2), (3, .int x3)] [] (G, I4, L5) 0 0 _
    refine wp_bipush (z := -2) (v := (-2)) (by decide +kernel) (by decide) ?_
    exact wp_iret (by decide +kernel) rfl (Nat.le_of_ble_eq_true rfl) (Nat.le_of_ble_eq_true rfl) ⟨_, rfl, H⟩
  · replace H := H.2 q8 c7
    subst c7
    show wp X B8_after 20 [(5, va_rf r6), (4, .ref q8), (0, .ref h), (1, .int x1), (2, .int x2), (3, .int x3)] [] (G, I4, L5) 0 0 _
    refine wp_aload (i := 5) (r := r6) 0 (by decide +kernel) rfl ?_
    refine wp_ifnonnull (off := 6) (tgt := 28) (r := r6) (by decide +kernel) (by decide) (fun q10 c9 => ?_) (fun c9 => ?_)
    · replace H := H.2 q10 c9
      subst c9
      show wp X B8_after 28 [(5, .ref q10), (4, .ref q8), (0, .ref h), (1, .int x1), (2, .int x2), (3, .int x3)] [] (G, I4, L5) 0 0 _
      refine wp_aload_n (z := 0) (i := 0) (r := (some h)) 2 (by decide +kernel) rfl rfl ?_
      refine wp_getS (idx := 30) (q := (h + 10)) (by decide +kernel) fl8_30 rfl ok.1 (okr8_3 ok) ?_
      refine wp_aload (i := 4) (r := (some q8)) 1 (by decide +kernel) rfl ?_
      refine wp_aload (i := 5) (r := (some q10)) 0 (by decide +kernel) rfl ?_
      refine wp_aload (i := 5) (r := (some q10)) 0 (by decide +kernel) rfl ?_
      obtain ⟨n12, f11, H⟩ := H
      refine wp_getI (idx := 183) (by decide +kernel) fl8_183 rfl f11.1 ?_
      refine wp_callV (idx := 208) (B2 := B5_live) (As := [.ref q8, .ref q10, .int (I4 q10 0)]) (a := (h + 10)) (st := []) (by decide +kernel) m5_live ml8_208 k5_live e5_live ck5 (oko8_3 ok).1 (⟨Nat.le_of_ble_eq_true rfl, Nat.le_of_ble_eq_true rfl⟩ : rOK B8_after B5_live) rfl (Nat.le_of_ble_eq_true rfl) (Nat.le_of_ble_eq_true rfl) ⟨Nat.le_of_ble_eq_true rfl, Nat.le_of_ble_eq_true rfl⟩ rfl (wp_mono H (fun v9 M9 hq9 => ?_))
      clear H
      obtain ⟨G16, I13, L14⟩ := M9
      obtain ⟨r15, rfl, H⟩ := hq9
      try dsimp only at H
      show wp X B8_after 44 [(5, .ref q10), (4, .ref q8), (0, .ref h), (1, .int x1), (2, .int x2), (3, .int x3)] [.int r15] (G16, I13, L14) 0 0 _
      refine wp_pop (by decide +kernel) rfl ?_
      refine wp_iload_n (z := 3) (i := 3) (x := x3) 5 (by decide +kernel) rfl rfl ?_
      by_cases c17 : x3 = 0
      · rw [if_pos c17] at H
        refine wp_tableIn (dflt := 86) (lo := 0) (hi := 5) (offs := #[38, 46, 54, 62, 70, 78]) (len := 38) (off := 38) (tgt := 84) (by decide +kernel) (by rw [c17]; decide) (by rw [c17]; decide) (by rw [c17]; rfl) (by decide) ?_
        refine wp_aload_n (z := 0) (i := 0) (r := (some h)) 2 (by decide +kernel) rfl rfl ?_
        obtain ⟨f18, H⟩ := H
        refine wp_getS (idx := 30) (q := (h + 10)) (by decide +kernel) fl8_30 rfl f18.1 (okr8_3 f18) ?_
        refine wp_getI (idx := 216) (by decide +kernel) fl8_216 rfl (oko8_3 f18).1 ?_
        exact wp_iret (by decide +kernel) rfl (Nat.le_of_ble_eq_true rfl) (Nat.le_of_ble_eq_true rfl) ⟨_, rfl, H⟩
      rw [if_neg c17] at H
      by_cases c19 : x3 = 1
      · rw [if_pos c19] at H
        refine wp_tableIn (dflt := 86) (lo := 0) (hi := 5) (offs := #[38, 46, 54, 62, 70, 78]) (len := 38) (off := 46) (tgt := 92) (by decide +kernel) (by rw [c19]; decide) (by rw [c19]; decide) (by rw [c19]; rfl) (by decide) ?_
        refine wp_aload_n (z := 0) (i := 0) (r := (some h)) 2 (by decide +kernel) rfl rfl ?_
        obtain ⟨f20, H⟩ := H
        refine wp_getS (idx := 30) (q := (h + 10)) (by decide +kernel) fl8_30 rfl f20.1 (okr8_3 f20) ?_
        refine wp_getI (idx := 219) (by decide +kernel) fl8_219 rfl (oko8_3 f20).1 ?_
        exact wp_iret (by decide +kernel) rfl (Nat.le_of_ble_eq_true rfl) (Nat.le_of_ble_eq_true rfl) ⟨_, rfl, H⟩
      rw [if_neg c19] at H
      by_cases c21 : x3 = 2
      · rw [if_pos c21] at H
        refine wp_tableIn (dflt := 86) (lo := 0) (hi := 5) (offs := #[38, 46, 54, 62, 70, 78]) (len := 38) (off := 54) (tgt := 100) (by decide +kernel) (by rw [c21]; decide) (by rw [c21]; decide) (by rw [c21]; rfl) (by decide) ?_
        refine wp_aload_n (z := 0) (i := 0) (r := (some h)) 2 (by decide +kernel) rfl rfl ?_
        obtain ⟨f22, H⟩ := H
        refine wp_getS (idx := 30) (q := (h + 10)) (by decide +kernel) fl8_30 rfl f22.1 (okr8_3 f22) ?_
        refine wp_callV (idx := 222) (B2 := B5_keenest) (As := []) (a := (h + 10)) (st := []) (by decide +kernel) m5_keenest ml8_222 k5_keenest e5_keenest ck5 (oko8_3 f22).1 (⟨Nat.le_of_ble_eq_true rfl, Nat.le_of_ble_eq_true rfl⟩ : rOK B8_after B5_keenest) rfl (Nat.le_of_ble_eq_true rfl) (Nat.le_of_ble_eq_true rfl) ⟨Nat.le_of_ble_eq_true rfl, Nat.le_of_ble_eq_true rfl⟩ rfl (wp_mono H (fun v9 M9 hq9 => ?_))
        clear H
        obtain ⟨r25, I23, L24, rfl, rfl, H⟩ := hq9
        show wp X B8_after 107 [(5, .ref q10), (4, .ref q8), (0, .ref h), (1, .int x1), (2, .int x2), (3, .int x3)] [.int r25] (G16, I23, L24) 0 0 _
        exact wp_iret (by decide +kernel) rfl (Nat.le_of_ble_eq_true rfl) (Nat.le_of_ble_eq_true rfl) ⟨_, rfl, H⟩
      rw [if_neg c21] at H
      by_cases c26 : x3 = 3
      · rw [if_pos c26] at H
        refine wp_tableIn (dflt := 86) (lo := 0) (hi := 5) (offs := #[38, 46, 54, 62, 70, 78]) (len := 38) (off := 62) (tgt := 108) (by decide +kernel) (by rw [c26]; decide) (by rw [c26]; decide) (by rw [c26]; rfl) (by decide) ?_
        refine wp_aload_n (z := 0) (i := 0) (r := (some h)) 2 (by decide +kernel) rfl rfl ?_
        obtain ⟨f27, H⟩ := H
        refine wp_getS (idx := 30) (q := (h + 10)) (by decide +kernel) fl8_30 rfl f27.1 (okr8_3 f27) ?_
        refine wp_getI (idx := 226) (by decide +kernel) fl8_226 rfl (oko8_3 f27).1 ?_
        exact wp_iret (by decide +kernel) rfl (Nat.le_of_ble_eq_true rfl) (Nat.le_of_ble_eq_true rfl) ⟨_, rfl, H⟩
      rw [if_neg c26] at H
      by_cases c28 : x3 = 4
      · rw [if_pos c28] at H
        refine wp_tableIn (dflt := 86) (lo := 0) (hi := 5) (offs := #[38, 46, 54, 62, 70, 78]) (len := 38) (off := 70) (tgt := 116) (by decide +kernel) (by rw [c28]; decide) (by rw [c28]; decide) (by rw [c28]; rfl) (by decide) ?_
        refine wp_aload_n (z := 0) (i := 0) (r := (some h)) 2 (by decide +kernel) rfl rfl ?_
        obtain ⟨f29, H⟩ := H
        refine wp_getS (idx := 30) (q := (h + 10)) (by decide +kernel) fl8_30 rfl f29.1 (okr8_3 f29) ?_
        refine wp_getI (idx := 229) (by decide +kernel) fl8_229 rfl (oko8_3 f29).1 ?_
        exact wp_iret (by decide +kernel) rfl (Nat.le_of_ble_eq_true rfl) (Nat.le_of_ble_eq_true rfl) ⟨_, rfl, H⟩
      rw [if_neg c28] at H
      by_cases c30 : x3 = 5
      · rw [if_pos c30] at H
        refine wp_tableIn (dflt := 86) (lo := 0) (hi := 5) (offs := #[38, 46, 54, 62, 70, 78]) (len := 38) (off := 78) (tgt := 124) (by decide +kernel) (by rw [c30]; decide) (by rw [c30]; decide) (by rw [c30]; rfl) (by decide) ?_
        refine wp_aload_n (z := 0) (i := 0) (r := (some h)) 2 (by decide +kernel) rfl rfl ?_
        obtain ⟨f31, H⟩ := H
        refine wp_getS (idx := 30) (q := (h + 10)) (by decide +kernel) fl8_30 rfl f31.1 (okr8_3 f31) ?_
        refine wp_getI (idx := 232) (by decide +kernel) fl8_232 rfl (oko8_3 f31).1 ?_
        exact wp_iret (by decide +kernel) rfl (Nat.le_of_ble_eq_true rfl) (Nat.le_of_ble_eq_true rfl) ⟨_, rfl, H⟩
      rw [if_neg c30] at H
      have qc17 := sw_ne c17 (z := 0) (by decide)
      have qc19 := sw_ne c19 (z := 1) (by decide)
      have qc21 := sw_ne c21 (z := 2) (by decide)
      have qc26 := sw_ne c26 (z := 3) (by decide)
      have qc28 := sw_ne c28 (z := 4) (by decide)
      have qc30 := sw_ne c30 (z := 5) (by decide)
      refine wp_tableOut (dflt := 86) (lo := 0) (hi := 5) (offs := #[38, 46, 54, 62, 70, 78]) (len := 38) (tgt := 132) (by decide +kernel) (by omega) (by decide) ?_
      refine wp_bipush (z := -2) (v := (-2)) (by decide +kernel) (by decide) ?_
      exact wp_iret (by decide +kernel) rfl (Nat.le_of_ble_eq_true rfl) (Nat.le_of_ble_eq_true rfl) ⟨_, rfl, H⟩
    · replace H := H.1 c9
      subst c9
      show wp X B8_after 25 [(5, .null), (4, .ref q8), (0, .ref h), (1, .int x1), (2, .int x2), (3, .int x3)] [] (G, I4, L5) 0 0 _
      refine wp_bipush (z := -2) (v := (-2)) (by decide +kernel) (by decide) ?_
      exact wp_iret (by decide +kernel) rfl (Nat.le_of_ble_eq_true rfl) (Nat.le_of_ble_eq_true rfl) ⟨_, rfl, H⟩
/-! DeafWall$Draw.<init>(I)V -/
set_option maxRecDepth 20000 in
theorem b0_init {X : XX} {G : GG} {I : Nat → Nat → Int32} {L : Nat → Nat → Int64} {h : Nat} {x1 : Int32} {Q : (Nat → Nat → Int32) → (Nat → Nat → Int64) → Prop} (ok : G.1 h = some (0, 0)) (H : ∀ I1, I1 = up2 I h 0 x1 → Q I1 L) : wpV X B0_init 0 [(0, .ref h), (1, .int x1)] [] G I L Q := by
  refine wp_aload_n (z := 0) (i := 0) (r := (some h)) 0 (by decide +kernel) rfl rfl ?_
  refine wp_objInit (idx := 1) (by decide +kernel) (in_g (List.mem_of_getElem? (i := 812) (by decide +kernel)) rfl) (in_g (List.mem_of_getElem? (i := 142) (by decide +kernel)) rfl) (in_g (List.mem_of_getElem? (i := 143) (by decide +kernel)) (by decide +kernel)) (Nat.le_of_ble_eq_true rfl) (Nat.le_of_ble_eq_true rfl) ?_
  refine wp_aload_n (z := 0) (i := 0) (r := (some h)) 0 (by decide +kernel) rfl rfl ?_
  refine wp_iload_n (z := 1) (i := 1) (x := x1) 1 (by decide +kernel) rfl rfl ?_
  refine wp_putI (idx := 7) (by decide +kernel) fl0_7 rfl ok ?_
  refine wp_memI (fun I1 eI1 => ?_)
  replace H := H I1 eI1
  exact wp_vret (by decide +kernel) rfl (Nat.zero_le _) (Nat.zero_le _) ⟨_, _, rfl, rfl, H⟩
/-! DeafWall$Draw.below(I)I -/
set_option maxRecDepth 20000 in
theorem b0_below {X : XX} {G : GG} {I : Nat → Nat → Int32} {L : Nat → Nat → Int64} {h : Nat} {x1 : Int32} {Q : Int32 → (Nat → Nat → Int32) → (Nat → Nat → Int64) → Prop} (ok : OK0 G h) (H : ∀ I1, I1 = up2 I h 0 (((I h 0) * 1103515245) + 12345) → if x1 ≤ (0 : Int32) then (Q 0 I1 L) else (¬ x1 = 0 ∧ (Q (((Int32.toUInt32 (I1 h 0) >>> (Int32.toUInt32 16 &&& Int32.toUInt32 31)).toInt32) - ((Int32.toUInt32 (I1 h 0) >>> (Int32.toUInt32 16 &&& Int32.toUInt32 31)).toInt32) / x1 * x1) I1 L))) : wpI X B0_below 0 [(0, .ref h), (1, .int x1)] [] G I L Q := by
  refine wp_aload_n (z := 0) (i := 0) (r := (some h)) 0 (by decide +kernel) rfl rfl ?_
  refine wp_aload_n (z := 0) (i := 0) (r := (some h)) 0 (by decide +kernel) rfl rfl ?_
  refine wp_getI (idx := 7) (by decide +kernel) fl0_7 rfl ok.1 ?_
  refine wp_ldc (idx := 13) (v := 1103515245) (by decide +kernel) (in_g (List.mem_of_getElem? (i := 825) (by decide +kernel)) rfl) ?_
  refine wp_imul (by decide +kernel) ?_
  refine wp_sipush (z := 12345) (v := 12345) (by decide +kernel) (by decide) ?_
  refine wp_iadd (by decide +kernel) ?_
  refine wp_putI (idx := 7) (by decide +kernel) fl0_7 rfl ok.1 ?_
  refine wp_memI (fun I1 eI1 => ?_)
  replace H := H I1 eI1
  refine wp_iload_n (z := 1) (i := 1) (x := x1) 1 (by decide +kernel) rfl rfl ?_
  refine wp_if_le (off := 15) (tgt := 31) (by decide +kernel) (by decide) (fun c2 => ?_) (fun c2 => ?_)
  · rw [if_pos c2] at H
    refine wp_iconst (z := 0) (v := 0) (by decide +kernel) (by decide) ?_
    exact wp_iret (by decide +kernel) rfl (Nat.zero_le _) (Nat.zero_le _) ⟨_, _, _, rfl, rfl, H⟩
  · rw [if_neg c2] at H
    refine wp_aload_n (z := 0) (i := 0) (r := (some h)) 0 (by decide +kernel) rfl rfl ?_
    refine wp_getI (idx := 7) (by decide +kernel) fl0_7 rfl ok.1 ?_
    refine wp_bipush (z := 16) (v := 16) (by decide +kernel) (by decide) ?_
    refine wp_iushr (by decide +kernel) ?_
    refine wp_iload_n (z := 1) (i := 1) (x := x1) 1 (by decide +kernel) rfl rfl ?_
    obtain ⟨o3, H⟩ := H
    refine wp_irem (by decide +kernel) o3 ?_
    refine wp_goto (off := 4) (tgt := 32) (by decide +kernel) (by decide) ?_
    exact wp_iret (by decide +kernel) rfl (Nat.zero_le _) (Nat.zero_le _) ⟨_, _, _, rfl, rfl, H⟩
/-! DeafWall.drawDeed(LDeafWall$Wall;LDeafWall$Draw;)V -/
set_option maxRecDepth 20000 in
theorem b8_drawDeed {X : XX} {G : GG} {I : Nat → Nat → Int32} {L : Nat → Nat → Int64} {h : Nat} {a1 : Nat} {a2 : Nat} {Q : GG → (Nat → Nat → Int32) → (Nat → Nat → Int64) → Prop} (ok : OK8 G h) (ok1 : OK7 G a1) (ok2 : OK0 G a2) (H : wpI X B0_below 0 [(0, .ref a2), (1, .int 10)] [] G I L (fun r3 I1 L2 => if 4 < r3 then (if 6 < r3 then (if (I1 a1 4) = (0 : Int32) then (Q G I1 L2) else (if 8 < r3 then (wpI X B0_below 0 [(0, .ref a2), (1, .int (I1 a1 4))] [] G I1 L2 (fun r10 I8 L9 => wpI X B0_below 0 [(0, .ref a2), (1, .int (v7_cells I8 a1))] [] G I8 L9 (fun r13 I11 L12 => wgI X B5_does 0 [(0, .ref (h + 10)), (1, .int 5), (2, .int r10), (3, .int r13)] [] G I11 L12 0 0 (fun r16 G17 I14 L15 => Q G17 I14 L15)))) else (if r3 = 7 then (wpI X B0_below 0 [(0, .ref a2), (1, .int (I1 a1 4))] [] G I1 L2 (fun r29 I27 L28 => wgI X B5_does 0 [(0, .ref (h + 10)), (1, .int 3), (2, .int r29), (3, .int (-1))] [] G I27 L28 0 0 (fun r32 G33 I30 L31 => Q G33 I30 L31))) else (wpI X B0_below 0 [(0, .ref a2), (1, .int (I1 a1 4))] [] G I1 L2 (fun r22 I20 L21 => wgI X B5_does 0 [(0, .ref (h + 10)), (1, .int 4), (2, .int r22), (3, .int (-1))] [] G I20 L21 0 0 (fun r25 G26 I23 L24 => Q G26 I23 L24)))))) else (if r3 = 5 then (wpI X B0_below 0 [(0, .ref a2), (1, .int (v7_cells I1 a1))] [] G I1 L2 (fun r45 I43 L44 => wgI X B5_does 0 [(0, .ref (h + 10)), (1, .int 1), (2, .int r45), (3, .int (-1))] [] G I43 L44 0 0 (fun r48 G49 I46 L47 => Q G49 I46 L47))) else (wpI X B0_below 0 [(0, .ref a2), (1, .int (v7_cells I1 a1))] [] G I1 L2 (fun r37 I35 L36 => wgI X B5_does 0 [(0, .ref (h + 10)), (1, .int 2), (2, .int r37), (3, .int (-1))] [] G I35 L36 0 0 (fun r40 G41 I38 L39 => Q G41 I38 L39))))) else (wpI X B0_below 0 [(0, .ref a2), (1, .int 10)] [] G I1 L2 (fun r53 I51 L52 => wgI X B5_does 0 [(0, .ref (h + 10)), (1, .int 0), (2, .int r53), (3, .int (-1))] [] G I51 L52 0 0 (fun r56 G57 I54 L55 => Q G57 I54 L55))))) : wgV X B8_drawDeed 0 [(0, .ref h), (1, .ref a1), (2, .ref a2)] [] G I L 0 0 Q := by
  refine wp_aload_n (z := 2) (i := 2) (r := (some a2)) 2 (by decide +kernel) rfl rfl ?_
  refine wp_bipush (z := 10) (v := 10) (by decide +kernel) (by decide) ?_
  refine wp_callV (idx := 247) (B2 := B0_below) (As := [.int 10]) (a := a2) (st := []) (by decide +kernel) m0_below ml8_247 k0_below e0_below ck0 ok2.1 (⟨Nat.le_of_ble_eq_true rfl, Nat.le_of_ble_eq_true rfl⟩ : rOK B8_drawDeed B0_below) rfl (Nat.le_of_ble_eq_true rfl) (Nat.le_of_ble_eq_true rfl) ⟨Nat.le_of_ble_eq_true rfl, Nat.le_of_ble_eq_true rfl⟩ rfl (wp_mono H (fun v9 M9 hq9 => ?_))
  clear H
  obtain ⟨r3, I1, L2, rfl, rfl, H⟩ := hq9
  show wp X B8_drawDeed 6 [(0, .ref h), (1, .ref a1), (2, .ref a2)] [.int r3] (G, I1, L2) 0 0 _
  refine wp_istore_n (z := 3) (i := 3) (lv' := [(3, .int r3), (0, .ref h), (1, .ref a1), (2, .ref a2)]) (by decide +kernel) rfl (by decide) rfl ?_
  refine wp_iload_n (z := 3) (i := 3) (x := r3) 0 (by decide +kernel) rfl rfl ?_
  refine wp_iconst (z := 4) (v := 4) (by decide +kernel) (by decide) ?_
  refine wp_icmp_gt (off := 22) (tgt := 31) (by decide +kernel) (by decide) (fun c4 => ?_) (fun c4 => ?_)
  · rw [if_pos c4] at H
    refine wp_iload_n (z := 3) (i := 3) (x := r3) 0 (by decide +kernel) rfl rfl ?_
    refine wp_bipush (z := 6) (v := 6) (by decide +kernel) (by decide) ?_
    refine wp_icmp_gt (off := 33) (tgt := 67) (by decide +kernel) (by decide) (fun c5 => ?_) (fun c5 => ?_)
    · rw [if_pos c5] at H
      refine wp_aload_n (z := 1) (i := 1) (r := (some a1)) 2 (by decide +kernel) rfl rfl ?_
      refine wp_getI (idx := 169) (by decide +kernel) fl8_169 rfl ok1.1 ?_
      refine wp_if_ne (off := 4) (tgt := 75) (by decide +kernel) (by decide) (fun c6 => ?_) (fun c6 => ?_)
      · rw [if_neg c6] at H
        refine wp_iload_n (z := 3) (i := 3) (x := r3) 0 (by decide +kernel) rfl rfl ?_
        refine wp_bipush (z := 8) (v := 8) (by decide +kernel) (by decide) ?_
        refine wp_icmp_gt (off := 34) (tgt := 112) (by decide +kernel) (by decide) (fun c7 => ?_) (fun c7 => ?_)
        · rw [if_pos c7] at H
          refine wp_aload_n (z := 2) (i := 2) (r := (some a2)) 3 (by decide +kernel) rfl rfl ?_
          refine wp_aload_n (z := 1) (i := 1) (r := (some a1)) 2 (by decide +kernel) rfl rfl ?_
          refine wp_getI (idx := 169) (by decide +kernel) fl8_169 rfl ok1.1 ?_
          refine wp_callV (idx := 247) (B2 := B0_below) (As := [.int (I1 a1 4)]) (a := a2) (st := []) (by decide +kernel) m0_below ml8_247 k0_below e0_below ck0 ok2.1 (⟨Nat.le_of_ble_eq_true rfl, Nat.le_of_ble_eq_true rfl⟩ : rOK B8_drawDeed B0_below) rfl (Nat.le_of_ble_eq_true rfl) (Nat.le_of_ble_eq_true rfl) ⟨Nat.le_of_ble_eq_true rfl, Nat.le_of_ble_eq_true rfl⟩ rfl (wp_mono H (fun v9 M9 hq9 => ?_))
          clear H
          obtain ⟨r10, I8, L9, rfl, rfl, H⟩ := hq9
          show wp X B8_drawDeed 120 [(3, .int r3), (0, .ref h), (1, .ref a1), (2, .ref a2)] [.int r10] (G, I8, L9) 0 0 _
          refine wp_istore (i := 4) (lv' := [(4, .int r10), (3, .int r3), (0, .ref h), (1, .ref a1), (2, .ref a2)]) (by decide +kernel) (by decide) rfl ?_
          refine wp_aload_n (z := 0) (i := 0) (r := (some h)) 2 (by decide +kernel) rfl rfl ?_
          refine wp_getS (idx := 30) (q := (h + 10)) (by decide +kernel) fl8_30 rfl ok.1 (okr8_3 ok) ?_
          refine wp_iconst (z := 5) (v := 5) (by decide +kernel) (by decide) ?_
          refine wp_iload (i := 4) (x := r10) 0 (by decide +kernel) rfl ?_
          refine wp_aload_n (z := 2) (i := 2) (r := (some a2)) 4 (by decide +kernel) rfl rfl ?_
          refine wp_aload_n (z := 1) (i := 1) (r := (some a1)) 3 (by decide +kernel) rfl rfl ?_
          refine wp_callV (idx := 254) (B2 := B7_cells) (As := []) (a := a1) (st := [.ref a2, .int r10, .int 5, .ref (h + 10)]) (by decide +kernel) m7_cells ml8_254 k7_cells e7_cells ck7 ok1.1 (⟨Nat.le_of_ble_eq_true rfl, Nat.le_of_ble_eq_true rfl⟩ : rOK B8_drawDeed B7_cells) rfl (Nat.le_of_ble_eq_true rfl) (Nat.le_of_ble_eq_true rfl) ⟨Nat.le_of_ble_eq_true rfl, Nat.le_of_ble_eq_true rfl⟩ rfl (wp_mono (b7_cells (Q := (fun r I' L' => r = (v7_cells I8 a1) ∧ I8 = I' ∧ L9 = L')) ok1 ⟨rfl, rfl, rfl⟩) (fun v9 M9 hq9 => ?_))
          obtain ⟨_, _, _, rfl, rfl, rfl, rfl, rfl⟩ := hq9
          show wp X B8_drawDeed 134 [(4, .int r10), (3, .int r3), (0, .ref h), (1, .ref a1), (2, .ref a2)] [.int (v7_cells I8 a1), .ref a2, .int r10, .int 5, .ref (h + 10)] (G, I8, L9) 0 0 _
          refine wp_callV (idx := 247) (B2 := B0_below) (As := [.int (v7_cells I8 a1)]) (a := a2) (st := [.int r10, .int 5, .ref (h + 10)]) (by decide +kernel) m0_below ml8_247 k0_below e0_below ck0 ok2.1 (⟨Nat.le_of_ble_eq_true rfl, Nat.le_of_ble_eq_true rfl⟩ : rOK B8_drawDeed B0_below) rfl (Nat.le_of_ble_eq_true rfl) (Nat.le_of_ble_eq_true rfl) ⟨Nat.le_of_ble_eq_true rfl, Nat.le_of_ble_eq_true rfl⟩ rfl (wp_mono H (fun v9 M9 hq9 => ?_))
          clear H
          obtain ⟨r13, I11, L12, rfl, rfl, H⟩ := hq9
          show wp X B8_drawDeed 137 [(4, .int r10), (3, .int r3), (0, .ref h), (1, .ref a1), (2, .ref a2)] [.int r13, .int r10, .int 5, .ref (h + 10)] (G, I11, L12) 0 0 _
          refine wp_callV (idx := 250) (B2 := B5_does) (As := [.int 5, .int r10, .int r13]) (a := (h + 10)) (st := []) (by decide +kernel) m5_does ml8_250 k5_does e5_does ck5 (oko8_3 ok).1 (⟨Nat.le_of_ble_eq_true rfl, Nat.le_of_ble_eq_true rfl⟩ : rOK B8_drawDeed B5_does) rfl (Nat.le_of_ble_eq_true rfl) (Nat.le_of_ble_eq_true rfl) ⟨Nat.le_of_ble_eq_true rfl, Nat.le_of_ble_eq_true rfl⟩ rfl (wp_mono H (fun v9 M9 hq9 => ?_))
          clear H
          obtain ⟨G17, I14, L15⟩ := M9
          obtain ⟨r16, rfl, H⟩ := hq9
          try dsimp only at H
          show wp X B8_drawDeed 140 [(4, .int r10), (3, .int r3), (0, .ref h), (1, .ref a1), (2, .ref a2)] [.int r16] (G17, I14, L15) 0 0 _
          refine wp_pop (by decide +kernel) rfl ?_
          exact wp_vret (by decide +kernel) rfl (Nat.le_of_ble_eq_true rfl) (Nat.le_of_ble_eq_true rfl) ⟨rfl, H⟩
        · rw [if_neg c7] at H
          refine wp_aload_n (z := 0) (i := 0) (r := (some h)) 1 (by decide +kernel) rfl rfl ?_
          refine wp_getS (idx := 30) (q := (h + 10)) (by decide +kernel) fl8_30 rfl ok.1 (okr8_3 ok) ?_
          refine wp_iload_n (z := 3) (i := 3) (x := r3) 0 (by decide +kernel) rfl rfl ?_
          refine wp_bipush (z := 7) (v := 7) (by decide +kernel) (by decide) ?_
          refine wp_icmp_ne (off := 7) (tgt := 95) (by decide +kernel) (by decide) (fun c19 => ?_) (fun c19 => ?_)
          · rw [if_neg c19] at H
            refine wp_iconst (z := 4) (v := 4) (by decide +kernel) (by decide) ?_
            refine wp_aload_n (z := 2) (i := 2) (r := (some a2)) 3 (by decide +kernel) rfl rfl ?_
            refine wp_aload_n (z := 1) (i := 1) (r := (some a1)) 2 (by decide +kernel) rfl rfl ?_
            refine wp_getI (idx := 169) (by decide +kernel) fl8_169 rfl ok1.1 ?_
            refine wp_callV (idx := 247) (B2 := B0_below) (As := [.int (I1 a1 4)]) (a := a2) (st := [.int 4, .ref (h + 10)]) (by decide +kernel) m0_below ml8_247 k0_below e0_below ck0 ok2.1 (⟨Nat.le_of_ble_eq_true rfl, Nat.le_of_ble_eq_true rfl⟩ : rOK B8_drawDeed B0_below) rfl (Nat.le_of_ble_eq_true rfl) (Nat.le_of_ble_eq_true rfl) ⟨Nat.le_of_ble_eq_true rfl, Nat.le_of_ble_eq_true rfl⟩ rfl (wp_mono H (fun v9 M9 hq9 => ?_))
            clear H
            obtain ⟨r22, I20, L21, rfl, rfl, H⟩ := hq9
            show wp X B8_drawDeed 104 [(3, .int r3), (0, .ref h), (1, .ref a1), (2, .ref a2)] [.int r22, .int 4, .ref (h + 10)] (G, I20, L21) 0 0 _
            refine wp_iconst (z := -1) (v := (-1)) (by decide +kernel) (by decide) ?_
            refine wp_callV (idx := 250) (B2 := B5_does) (As := [.int 4, .int r22, .int (-1)]) (a := (h + 10)) (st := []) (by decide +kernel) m5_does ml8_250 k5_does e5_does ck5 (oko8_3 ok).1 (⟨Nat.le_of_ble_eq_true rfl, Nat.le_of_ble_eq_true rfl⟩ : rOK B8_drawDeed B5_does) rfl (Nat.le_of_ble_eq_true rfl) (Nat.le_of_ble_eq_true rfl) ⟨Nat.le_of_ble_eq_true rfl, Nat.le_of_ble_eq_true rfl⟩ rfl (wp_mono H (fun v9 M9 hq9 => ?_))
            clear H
            obtain ⟨G26, I23, L24⟩ := M9
            obtain ⟨r25, rfl, H⟩ := hq9
            try dsimp only at H
            show wp X B8_drawDeed 108 [(3, .int r3), (0, .ref h), (1, .ref a1), (2, .ref a2)] [.int r25] (G26, I23, L24) 0 0 _
            refine wp_pop (by decide +kernel) rfl ?_
            refine wp_goto (off := 32) (tgt := 141) (by decide +kernel) (by decide) ?_
            exact wp_vret (by decide +kernel) rfl (Nat.le_of_ble_eq_true rfl) (Nat.le_of_ble_eq_true rfl) ⟨rfl, H⟩
          · rw [if_pos c19] at H
            refine wp_iconst (z := 3) (v := 3) (by decide +kernel) (by decide) ?_
            refine wp_goto (off := 4) (tgt := 96) (by decide +kernel) (by decide) ?_
            refine wp_aload_n (z := 2) (i := 2) (r := (some a2)) 3 (by decide +kernel) rfl rfl ?_
            refine wp_aload_n (z := 1) (i := 1) (r := (some a1)) 2 (by decide +kernel) rfl rfl ?_
            refine wp_getI (idx := 169) (by decide +kernel) fl8_169 rfl ok1.1 ?_
            refine wp_callV (idx := 247) (B2 := B0_below) (As := [.int (I1 a1 4)]) (a := a2) (st := [.int 3, .ref (h + 10)]) (by decide +kernel) m0_below ml8_247 k0_below e0_below ck0 ok2.1 (⟨Nat.le_of_ble_eq_true rfl, Nat.le_of_ble_eq_true rfl⟩ : rOK B8_drawDeed B0_below) rfl (Nat.le_of_ble_eq_true rfl) (Nat.le_of_ble_eq_true rfl) ⟨Nat.le_of_ble_eq_true rfl, Nat.le_of_ble_eq_true rfl⟩ rfl (wp_mono H (fun v9 M9 hq9 => ?_))
            clear H
            obtain ⟨r29, I27, L28, rfl, rfl, H⟩ := hq9
            show wp X B8_drawDeed 104 [(3, .int r3), (0, .ref h), (1, .ref a1), (2, .ref a2)] [.int r29, .int 3, .ref (h + 10)] (G, I27, L28) 0 0 _
            refine wp_iconst (z := -1) (v := (-1)) (by decide +kernel) (by decide) ?_
            refine wp_callV (idx := 250) (B2 := B5_does) (As := [.int 3, .int r29, .int (-1)]) (a := (h + 10)) (st := []) (by decide +kernel) m5_does ml8_250 k5_does e5_does ck5 (oko8_3 ok).1 (⟨Nat.le_of_ble_eq_true rfl, Nat.le_of_ble_eq_true rfl⟩ : rOK B8_drawDeed B5_does) rfl (Nat.le_of_ble_eq_true rfl) (Nat.le_of_ble_eq_true rfl) ⟨Nat.le_of_ble_eq_true rfl, Nat.le_of_ble_eq_true rfl⟩ rfl (wp_mono H (fun v9 M9 hq9 => ?_))
            clear H
            obtain ⟨G33, I30, L31⟩ := M9
            obtain ⟨r32, rfl, H⟩ := hq9
            try dsimp only at H
            show wp X B8_drawDeed 108 [(3, .int r3), (0, .ref h), (1, .ref a1), (2, .ref a2)] [.int r32] (G33, I30, L31) 0 0 _
            refine wp_pop (by decide +kernel) rfl ?_
            refine wp_goto (off := 32) (tgt := 141) (by decide +kernel) (by decide) ?_
            exact wp_vret (by decide +kernel) rfl (Nat.le_of_ble_eq_true rfl) (Nat.le_of_ble_eq_true rfl) ⟨rfl, H⟩
      · rw [if_pos c6] at H
        exact wp_vret (by decide +kernel) rfl (Nat.le_of_ble_eq_true rfl) (Nat.le_of_ble_eq_true rfl) ⟨rfl, H⟩
    · rw [if_neg c5] at H
      refine wp_aload_n (z := 0) (i := 0) (r := (some h)) 1 (by decide +kernel) rfl rfl ?_
      refine wp_getS (idx := 30) (q := (h + 10)) (by decide +kernel) fl8_30 rfl ok.1 (okr8_3 ok) ?_
      refine wp_iload_n (z := 3) (i := 3) (x := r3) 0 (by decide +kernel) rfl rfl ?_
      refine wp_iconst (z := 5) (v := 5) (by decide +kernel) (by decide) ?_
      refine wp_icmp_ne (off := 7) (tgt := 50) (by decide +kernel) (by decide) (fun c34 => ?_) (fun c34 => ?_)
      · rw [if_neg c34] at H
        refine wp_iconst (z := 2) (v := 2) (by decide +kernel) (by decide) ?_
        refine wp_aload_n (z := 2) (i := 2) (r := (some a2)) 3 (by decide +kernel) rfl rfl ?_
        refine wp_aload_n (z := 1) (i := 1) (r := (some a1)) 2 (by decide +kernel) rfl rfl ?_
        refine wp_callV (idx := 254) (B2 := B7_cells) (As := []) (a := a1) (st := [.ref a2, .int 2, .ref (h + 10)]) (by decide +kernel) m7_cells ml8_254 k7_cells e7_cells ck7 ok1.1 (⟨Nat.le_of_ble_eq_true rfl, Nat.le_of_ble_eq_true rfl⟩ : rOK B8_drawDeed B7_cells) rfl (Nat.le_of_ble_eq_true rfl) (Nat.le_of_ble_eq_true rfl) ⟨Nat.le_of_ble_eq_true rfl, Nat.le_of_ble_eq_true rfl⟩ rfl (wp_mono (b7_cells (Q := (fun r I' L' => r = (v7_cells I1 a1) ∧ I1 = I' ∧ L2 = L')) ok1 ⟨rfl, rfl, rfl⟩) (fun v9 M9 hq9 => ?_))
        obtain ⟨_, _, _, rfl, rfl, rfl, rfl, rfl⟩ := hq9
        show wp X B8_drawDeed 56 [(3, .int r3), (0, .ref h), (1, .ref a1), (2, .ref a2)] [.int (v7_cells I1 a1), .ref a2, .int 2, .ref (h + 10)] (G, I1, L2) 0 0 _
        refine wp_callV (idx := 247) (B2 := B0_below) (As := [.int (v7_cells I1 a1)]) (a := a2) (st := [.int 2, .ref (h + 10)]) (by decide +kernel) m0_below ml8_247 k0_below e0_below ck0 ok2.1 (⟨Nat.le_of_ble_eq_true rfl, Nat.le_of_ble_eq_true rfl⟩ : rOK B8_drawDeed B0_below) rfl (Nat.le_of_ble_eq_true rfl) (Nat.le_of_ble_eq_true rfl) ⟨Nat.le_of_ble_eq_true rfl, Nat.le_of_ble_eq_true rfl⟩ rfl (wp_mono H (fun v9 M9 hq9 => ?_))
        clear H
        obtain ⟨r37, I35, L36, rfl, rfl, H⟩ := hq9
        show wp X B8_drawDeed 59 [(3, .int r3), (0, .ref h), (1, .ref a1), (2, .ref a2)] [.int r37, .int 2, .ref (h + 10)] (G, I35, L36) 0 0 _
        refine wp_iconst (z := -1) (v := (-1)) (by decide +kernel) (by decide) ?_
        refine wp_callV (idx := 250) (B2 := B5_does) (As := [.int 2, .int r37, .int (-1)]) (a := (h + 10)) (st := []) (by decide +kernel) m5_does ml8_250 k5_does e5_does ck5 (oko8_3 ok).1 (⟨Nat.le_of_ble_eq_true rfl, Nat.le_of_ble_eq_true rfl⟩ : rOK B8_drawDeed B5_does) rfl (Nat.le_of_ble_eq_true rfl) (Nat.le_of_ble_eq_true rfl) ⟨Nat.le_of_ble_eq_true rfl, Nat.le_of_ble_eq_true rfl⟩ rfl (wp_mono H (fun v9 M9 hq9 => ?_))
        clear H
        obtain ⟨G41, I38, L39⟩ := M9
        obtain ⟨r40, rfl, H⟩ := hq9
        try dsimp only at H
        show wp X B8_drawDeed 63 [(3, .int r3), (0, .ref h), (1, .ref a1), (2, .ref a2)] [.int r40] (G41, I38, L39) 0 0 _
        refine wp_pop (by decide +kernel) rfl ?_
        refine wp_goto (off := 77) (tgt := 141) (by decide +kernel) (by decide) ?_
        exact wp_vret (by decide +kernel) rfl (Nat.le_of_ble_eq_true rfl) (Nat.le_of_ble_eq_true rfl) ⟨rfl, H⟩
      · rw [if_pos c34] at H
        refine wp_iconst (z := 1) (v := 1) (by decide +kernel) (by decide) ?_
        refine wp_goto (off := 4) (tgt := 51) (by decide +kernel) (by decide) ?_
        refine wp_aload_n (z := 2) (i := 2) (r := (some a2)) 3 (by decide +kernel) rfl rfl ?_
        refine wp_aload_n (z := 1) (i := 1) (r := (some a1)) 2 (by decide +kernel) rfl rfl ?_
        refine wp_callV (idx := 254) (B2 := B7_cells) (As := []) (a := a1) (st := [.ref a2, .int 1, .ref (h + 10)]) (by decide +kernel) m7_cells ml8_254 k7_cells e7_cells ck7 ok1.1 (⟨Nat.le_of_ble_eq_true rfl, Nat.le_of_ble_eq_true rfl⟩ : rOK B8_drawDeed B7_cells) rfl (Nat.le_of_ble_eq_true rfl) (Nat.le_of_ble_eq_true rfl) ⟨Nat.le_of_ble_eq_true rfl, Nat.le_of_ble_eq_true rfl⟩ rfl (wp_mono (b7_cells (Q := (fun r I' L' => r = (v7_cells I1 a1) ∧ I1 = I' ∧ L2 = L')) ok1 ⟨rfl, rfl, rfl⟩) (fun v9 M9 hq9 => ?_))
        obtain ⟨_, _, _, rfl, rfl, rfl, rfl, rfl⟩ := hq9
        show wp X B8_drawDeed 56 [(3, .int r3), (0, .ref h), (1, .ref a1), (2, .ref a2)] [.int (v7_cells I1 a1), .ref a2, .int 1, .ref (h + 10)] (G, I1, L2) 0 0 _
        refine wp_callV (idx := 247) (B2 := B0_below) (As := [.int (v7_cells I1 a1)]) (a := a2) (st := [.int 1, .ref (h + 10)]) (by decide +kernel) m0_below ml8_247 k0_below e0_below ck0 ok2.1 (⟨Nat.le_of_ble_eq_true rfl, Nat.le_of_ble_eq_true rfl⟩ : rOK B8_drawDeed B0_below) rfl (Nat.le_of_ble_eq_true rfl) (Nat.le_of_ble_eq_true rfl) ⟨Nat.le_of_ble_eq_true rfl, Nat.le_of_ble_eq_true rfl⟩ rfl (wp_mono H (fun v9 M9 hq9 => ?_))
        clear H
        obtain ⟨r45, I43, L44, rfl, rfl, H⟩ := hq9
        show wp X B8_drawDeed 59 [(3, .int r3), (0, .ref h), (1, .ref a1), (2, .ref a2)] [.int r45, .int 1, .ref (h + 10)] (G, I43, L44) 0 0 _
        refine wp_iconst (z := -1) (v := (-1)) (by decide +kernel) (by decide) ?_
        refine wp_callV (idx := 250) (B2 := B5_does) (As := [.int 1, .int r45, .int (-1)]) (a := (h + 10)) (st := []) (by decide +kernel) m5_does ml8_250 k5_does e5_does ck5 (oko8_3 ok).1 (⟨Nat.le_of_ble_eq_true rfl, Nat.le_of_ble_eq_true rfl⟩ : rOK B8_drawDeed B5_does) rfl (Nat.le_of_ble_eq_true rfl) (Nat.le_of_ble_eq_true rfl) ⟨Nat.le_of_ble_eq_true rfl, Nat.le_of_ble_eq_true rfl⟩ rfl (wp_mono H (fun v9 M9 hq9 => ?_))
        clear H
        obtain ⟨G49, I46, L47⟩ := M9
        obtain ⟨r48, rfl, H⟩ := hq9
        try dsimp only at H
        show wp X B8_drawDeed 63 [(3, .int r3), (0, .ref h), (1, .ref a1), (2, .ref a2)] [.int r48] (G49, I46, L47) 0 0 _
        refine wp_pop (by decide +kernel) rfl ?_
        refine wp_goto (off := 77) (tgt := 141) (by decide +kernel) (by decide) ?_
        exact wp_vret (by decide +kernel) rfl (Nat.le_of_ble_eq_true rfl) (Nat.le_of_ble_eq_true rfl) ⟨rfl, H⟩
  · rw [if_neg c4] at H
    refine wp_aload_n (z := 0) (i := 0) (r := (some h)) 1 (by decide +kernel) rfl rfl ?_
    refine wp_getS (idx := 30) (q := (h + 10)) (by decide +kernel) fl8_30 rfl ok.1 (okr8_3 ok) ?_
    refine wp_iconst (z := 0) (v := 0) (by decide +kernel) (by decide) ?_
    refine wp_aload_n (z := 2) (i := 2) (r := (some a2)) 3 (by decide +kernel) rfl rfl ?_
    refine wp_bipush (z := 10) (v := 10) (by decide +kernel) (by decide) ?_
    refine wp_callV (idx := 247) (B2 := B0_below) (As := [.int 10]) (a := a2) (st := [.int 0, .ref (h + 10)]) (by decide +kernel) m0_below ml8_247 k0_below e0_below ck0 ok2.1 (⟨Nat.le_of_ble_eq_true rfl, Nat.le_of_ble_eq_true rfl⟩ : rOK B8_drawDeed B0_below) rfl (Nat.le_of_ble_eq_true rfl) (Nat.le_of_ble_eq_true rfl) ⟨Nat.le_of_ble_eq_true rfl, Nat.le_of_ble_eq_true rfl⟩ rfl (wp_mono H (fun v9 M9 hq9 => ?_))
    clear H
    obtain ⟨r53, I51, L52, rfl, rfl, H⟩ := hq9
    show wp X B8_drawDeed 23 [(3, .int r3), (0, .ref h), (1, .ref a1), (2, .ref a2)] [.int r53, .int 0, .ref (h + 10)] (G, I51, L52) 0 0 _
    refine wp_iconst (z := -1) (v := (-1)) (by decide +kernel) (by decide) ?_
    refine wp_callV (idx := 250) (B2 := B5_does) (As := [.int 0, .int r53, .int (-1)]) (a := (h + 10)) (st := []) (by decide +kernel) m5_does ml8_250 k5_does e5_does ck5 (oko8_3 ok).1 (⟨Nat.le_of_ble_eq_true rfl, Nat.le_of_ble_eq_true rfl⟩ : rOK B8_drawDeed B5_does) rfl (Nat.le_of_ble_eq_true rfl) (Nat.le_of_ble_eq_true rfl) ⟨Nat.le_of_ble_eq_true rfl, Nat.le_of_ble_eq_true rfl⟩ rfl (wp_mono H (fun v9 M9 hq9 => ?_))
    clear H
    obtain ⟨G57, I54, L55⟩ := M9
    obtain ⟨r56, rfl, H⟩ := hq9
    try dsimp only at H
    show wp X B8_drawDeed 27 [(3, .int r3), (0, .ref h), (1, .ref a1), (2, .ref a2)] [.int r56] (G57, I54, L55) 0 0 _
    refine wp_pop (by decide +kernel) rfl ?_
    refine wp_goto (off := 113) (tgt := 141) (by decide +kernel) (by decide) ?_
    exact wp_vret (by decide +kernel) rfl (Nat.le_of_ble_eq_true rfl) (Nat.le_of_ble_eq_true rfl) ⟨rfl, H⟩
/-! DeafWall.drawn(IIII)I -/
set_option maxRecDepth 20000 in
theorem b8_drawn {X : XX} {G : GG} {I : Nat → Nat → Int32} {L : Nat → Nat → Int64} {h : Nat} {x1 : Int32} {x2 : Int32} {x3 : Int32} {x4 : Int32} {Q : Int32 → GG → (Nat → Nat → Int32) → (Nat → Nat → Int64) → Prop} (ok : OK8 G h) (H : wpR X B8_wallAt 0 [(0, .ref h), (1, .int x1)] [] G I L (fun r3 I1 L2 => (r3 = none → Q (-2) G I1 L2) ∧ (∀ q5, r3 = some q5 → if x3 < (0 : Int32) then (Q (-2) G I1 L2) else (if x3 ≤ 60 then (wgV X B5_begin 0 [(0, .ref (h + 10)), (1, .ref q5)] [] G I1 L2 0 0 (fun G11 I8 L9 => ∀ G12 I13 L14, (G12, I13, L14) = mNew (G11, I8, L9) (0, 0) → wpV X B0_init 0 [(0, .ref G11.2.2), (1, .int x2)] [] G12 I13 L14 (fun I16 L17 => wgI X B8_drawn 47 [(0, .ref h), (3, .int x3), (4, .int x4), (5, .ref q5), (6, .ref G11.2.2), (7, .int 0)] [] G12 I16 L17 1 1 Q))) else (Q (-2) G I1 L2))))) : wgI X B8_drawn 0 [(0, .ref h), (1, .int x1), (2, .int x2), (3, .int x3), (4, .int x4)] [] G I L 0 0 Q := by
  refine wp_aload_n (z := 0) (i := 0) (r := (some h)) 0 (by decide +kernel) rfl rfl ?_
  refine wp_iload_n (z := 1) (i := 1) (x := x1) 1 (by decide +kernel) rfl rfl ?_
  refine wp_callV (idx := 129) (B2 := B8_wallAt) (As := [.int x1]) (a := h) (st := []) (by decide +kernel) m8_wallAt ml8_129 k8_wallAt e8_wallAt ck8 ok.1 (⟨Nat.le_of_ble_eq_true rfl, Nat.le_of_ble_eq_true rfl⟩ : rOK B8_drawn B8_wallAt) rfl (Nat.le_of_ble_eq_true rfl) (Nat.le_of_ble_eq_true rfl) ⟨Nat.le_of_ble_eq_true rfl, Nat.le_of_ble_eq_true rfl⟩ rfl (wp_mono H (fun v9 M9 hq9 => ?_))
  clear H
  obtain ⟨r3, I1, L2, rfl, rfl, H⟩ := hq9
  show wp X B8_drawn 5 [(0, .ref h), (1, .int x1), (2, .int x2), (3, .int x3), (4, .int x4)] [va_rf r3] (G, I1, L2) 0 0 _
  refine wp_astore (i := 5) (lv' := [(5, va_rf r3), (0, .ref h), (1, .int x1), (2, .int x2), (3, .int x3), (4, .int x4)]) (r := r3) (by decide +kernel) (by decide) (by cases r3 <;> rfl) ?_
  refine wp_aload (i := 5) (r := r3) 0 (by decide +kernel) rfl ?_
  refine wp_ifnull (off := 13) (tgt := 22) (r := r3) (by decide +kernel) (by decide) (fun c4 => ?_) (fun q5 c4 => ?_)
  · replace H := H.1 c4
    subst c4
    show wp X B8_drawn 22 [(5, .null), (0, .ref h), (1, .int x1), (2, .int x2), (3, .int x3), (4, .int x4)] [] (G, I1, L2) 0 0 _
    refine wp_bipush (z := -2) (v := (-2)) (by decide +kernel) (by decide) ?_
    exact wp_iret (by decide +kernel) rfl (Nat.le_of_ble_eq_true rfl) (Nat.le_of_ble_eq_true rfl) ⟨_, rfl, H⟩
  · replace H := H.2 q5 c4
    subst c4
    show wp X B8_drawn 12 [(5, .ref q5), (0, .ref h), (1, .int x1), (2, .int x2), (3, .int x3), (4, .int x4)] [] (G, I1, L2) 0 0 _
    refine wp_iload_n (z := 3) (i := 3) (x := x3) 4 (by decide +kernel) rfl rfl ?_
    refine wp_if_lt (off := 9) (tgt := 22) (by decide +kernel) (by decide) (fun c6 => ?_) (fun c6 => ?_)
    · rw [if_pos c6] at H
      refine wp_bipush (z := -2) (v := (-2)) (by decide +kernel) (by decide) ?_
      exact wp_iret (by decide +kernel) rfl (Nat.le_of_ble_eq_true rfl) (Nat.le_of_ble_eq_true rfl) ⟨_, rfl, H⟩
    · rw [if_neg c6] at H
      refine wp_iload_n (z := 3) (i := 3) (x := x3) 4 (by decide +kernel) rfl rfl ?_
      refine wp_bipush (z := 60) (v := 60) (by decide +kernel) (by decide) ?_
      refine wp_icmp_le (off := 6) (tgt := 25) (by decide +kernel) (by decide) (fun c7 => ?_) (fun c7 => ?_)
      · rw [if_pos c7] at H
        refine wp_aload_n (z := 0) (i := 0) (r := (some h)) 1 (by decide +kernel) rfl rfl ?_
        refine wp_getS (idx := 30) (q := (h + 10)) (by decide +kernel) fl8_30 rfl ok.1 (okr8_3 ok) ?_
        refine wp_aload (i := 5) (r := (some q5)) 0 (by decide +kernel) rfl ?_
        refine wp_callV (idx := 235) (B2 := B5_begin) (As := [.ref q5]) (a := (h + 10)) (st := []) (by decide +kernel) m5_begin ml8_235 k5_begin e5_begin ck5 (oko8_3 ok).1 (⟨Nat.le_of_ble_eq_true rfl, Nat.le_of_ble_eq_true rfl⟩ : rOK B8_drawn B5_begin) rfl (Nat.le_of_ble_eq_true rfl) (Nat.le_of_ble_eq_true rfl) ⟨Nat.le_of_ble_eq_true rfl, Nat.le_of_ble_eq_true rfl⟩ rfl (wp_mono H (fun v9 M9 hq9 => ?_))
        clear H
        obtain ⟨G11, I8, L9⟩ := M9
        obtain ⟨rfl, H⟩ := hq9
        try dsimp only at H
        show wp X B8_drawn 34 [(5, .ref q5), (0, .ref h), (1, .int x1), (2, .int x2), (3, .int x3), (4, .int x4)] [] (G11, I8, L9) 0 0 _
        refine wp_new (idx := 239) (ci := 0) (by decide +kernel) ck0 dv0 (in_g (List.mem_of_getElem? (i := 807) (by decide +kernel)) rfl) (in_g (List.mem_of_getElem? (i := 808) (by decide +kernel)) rfl) (in_g (List.mem_of_getElem? (i := 135) (by decide +kernel)) rfl) (Nat.le_of_ble_eq_true rfl) (Nat.le_of_ble_eq_true rfl) ?_
        refine wp_memM (fun G12 I13 L14 e15 => ?_)
        replace H := H G12 I13 L14 e15
        show wp X B8_drawn 37 [(5, .ref q5), (0, .ref h), (1, .int x1), (2, .int x2), (3, .int x3), (4, .int x4)] [.ref G11.2.2] (G12, I13, L14) 1 1 _
        refine wp_dup (by decide +kernel) rfl ?_
        refine wp_iload_n (z := 2) (i := 2) (x := x2) 3 (by decide +kernel) rfl rfl ?_
        refine wp_callI (idx := 241) (B2 := B0_init) (As := [.int x2]) (a := G11.2.2) (st := [.ref G11.2.2]) (by decide +kernel) m0_init ml8_241 k0_init rfl rfl (⟨Nat.le_of_ble_eq_true rfl, Nat.le_of_ble_eq_true rfl⟩ : rOK B8_drawn B0_init) rfl (Nat.le_of_ble_eq_true rfl) (Nat.le_of_ble_eq_true rfl) ⟨Nat.le_of_ble_eq_true rfl, Nat.le_of_ble_eq_true rfl⟩ rfl (wp_mono H (fun v9 M9 hq9 => ?_))
        clear H
        obtain ⟨I16, L17, rfl, rfl, H⟩ := hq9
        show wp X B8_drawn 42 [(5, .ref q5), (0, .ref h), (1, .int x1), (2, .int x2), (3, .int x3), (4, .int x4)] [.ref G11.2.2] (G12, I16, L17) 1 1 _
        refine wp_astore (i := 6) (lv' := [(6, .ref G11.2.2), (5, .ref q5), (0, .ref h), (1, .int x1), (2, .int x2), (3, .int x3), (4, .int x4)]) (r := (some G11.2.2)) (by decide +kernel) (by decide) rfl ?_
        refine wp_iconst (z := 0) (v := 0) (by decide +kernel) (by decide) ?_
        refine wp_istore (i := 7) (lv' := [(7, .int 0), (6, .ref G11.2.2), (5, .ref q5), (0, .ref h), (1, .int x1), (2, .int x2), (3, .int x3), (4, .int x4)]) (by decide +kernel) (by decide) rfl ?_
        exact wp_sub [3, 6, 7, 2, 1, 0] rfl H
      · rw [if_neg c7] at H
        refine wp_bipush (z := -2) (v := (-2)) (by decide +kernel) (by decide) ?_
        exact wp_iret (by decide +kernel) rfl (Nat.le_of_ble_eq_true rfl) (Nat.le_of_ble_eq_true rfl) ⟨_, rfl, H⟩
set_option maxRecDepth 20000 in
theorem b8_drawn_47 {X : XX} {G : GG} {I : Nat → Nat → Int32} {L : Nat → Nat → Int64} {h : Nat} {x3 : Int32} {x4 : Int32} {a5 : Nat} {a6 : Nat} {x7 : Int32} {Q : Int32 → GG → (Nat → Nat → Int32) → (Nat → Nat → Int64) → Prop} (ok : OK8 G h) (ok5 : OK7 G a5) (ok6 : OK0 G a6) (H : if x3 ≤ x7 then (wpI X B5_answer 0 [(0, .ref (h + 10)), (1, .int x4)] [] G I L (fun r4 I2 L3 => Q r4 G I2 L3)) else (wgV X B8_drawDeed 0 [(0, .ref h), (1, .ref a5), (2, .ref a6)] [] G I L 0 0 (fun G8 I5 L6 => wgI X B8_drawn 47 [(0, .ref h), (3, .int x3), (4, .int x4), (5, .ref a5), (6, .ref a6), (7, .int (x7 + 1))] [] G8 I5 L6 1 1 Q))) : wgI X B8_drawn 47 [(0, .ref h), (3, .int x3), (4, .int x4), (5, .ref a5), (6, .ref a6), (7, .int x7)] [] G I L 1 1 Q := by
  refine wp_iload (i := 7) (x := x7) 5 (by decide +kernel) rfl ?_
  refine wp_iload_n (z := 3) (i := 3) (x := x3) 1 (by decide +kernel) rfl rfl ?_
  refine wp_icmp_ge (off := 17) (tgt := 67) (by decide +kernel) (by decide) (fun c1 => ?_) (fun c1 => ?_)
  · rw [if_pos c1] at H
    refine wp_aload_n (z := 0) (i := 0) (r := (some h)) 0 (by decide +kernel) rfl rfl ?_
    refine wp_getS (idx := 30) (q := (h + 10)) (by decide +kernel) fl8_30 rfl ok.1 (okr8_3 ok) ?_
    refine wp_iload (i := 4) (x := x4) 2 (by decide +kernel) rfl ?_
    refine wp_callV (idx := 212) (B2 := B5_answer) (As := [.int x4]) (a := (h + 10)) (st := []) (by decide +kernel) m5_answer ml8_212 k5_answer e5_answer ck5 (oko8_3 ok).1 (⟨Nat.le_of_ble_eq_true rfl, Nat.le_of_ble_eq_true rfl⟩ : rOK B8_drawn B5_answer) rfl (Nat.le_of_ble_eq_true rfl) (Nat.le_of_ble_eq_true rfl) ⟨Nat.le_of_ble_eq_true rfl, Nat.le_of_ble_eq_true rfl⟩ rfl (wp_mono H (fun v9 M9 hq9 => ?_))
    clear H
    obtain ⟨r4, I2, L3, rfl, rfl, H⟩ := hq9
    show wp X B8_drawn 76 [(0, .ref h), (3, .int x3), (4, .int x4), (5, .ref a5), (6, .ref a6), (7, .int x7)] [.int r4] (G, I2, L3) 1 1 _
    exact wp_iret (by decide +kernel) rfl (Nat.le_of_ble_eq_true rfl) (Nat.le_of_ble_eq_true rfl) ⟨_, rfl, H⟩
  · rw [if_neg c1] at H
    refine wp_aload_n (z := 0) (i := 0) (r := (some h)) 0 (by decide +kernel) rfl rfl ?_
    refine wp_aload (i := 5) (r := (some a5)) 3 (by decide +kernel) rfl ?_
    refine wp_aload (i := 6) (r := (some a6)) 4 (by decide +kernel) rfl ?_
    refine wp_callV (idx := 243) (B2 := B8_drawDeed) (As := [.ref a5, .ref a6]) (a := h) (st := []) (by decide +kernel) m8_drawDeed ml8_243 k8_drawDeed e8_drawDeed ck8 ok.1 (⟨Nat.le_of_ble_eq_true rfl, Nat.le_of_ble_eq_true rfl⟩ : rOK B8_drawn B8_drawDeed) rfl (Nat.le_of_ble_eq_true rfl) (Nat.le_of_ble_eq_true rfl) ⟨Nat.le_of_ble_eq_true rfl, Nat.le_of_ble_eq_true rfl⟩ rfl (wp_mono H (fun v9 M9 hq9 => ?_))
    clear H
    obtain ⟨G8, I5, L6⟩ := M9
    obtain ⟨rfl, H⟩ := hq9
    try dsimp only at H
    show wp X B8_drawn 61 [(0, .ref h), (3, .int x3), (4, .int x4), (5, .ref a5), (6, .ref a6), (7, .int x7)] [] (G8, I5, L6) 1 1 _
    refine wp_iinc (i := 7) (z := 1) (v := 1) (lv' := [(7, .int (x7 + 1)), (0, .ref h), (3, .int x3), (4, .int x4), (5, .ref a5), (6, .ref a6)]) 5 (by decide +kernel) rfl (by decide) (by decide) rfl ?_
    refine wp_goto (off := -17) (tgt := 47) (by decide +kernel) (by decide) ?_
    exact wp_sub [1, 2, 3, 4, 5, 0] rfl H
/-! DeafWall$Echo.soundWith(LDeafWall$Wall;II)V -/
set_option maxRecDepth 20000 in
theorem b1_soundWith {X : XX} {G : GG} {I : Nat → Nat → Int32} {L : Nat → Nat → Int64} {h : Nat} {a1 : Nat} {x2 : Int32} {x3 : Int32} {Q : (Nat → Nat → Int32) → (Nat → Nat → Int64) → Prop} (ok : OK1 G h) (ok1 : OK7 G a1) (H : ∀ I1, I1 = upC I (h + 22) (a1 + 1) 32 → if (v7_hasCell I1 a1 x2) = (0 : Int32) then (wpV X B1_soundWith 33 [(0, .ref h), (1, .ref a1), (4, .int 0)] [] G I1 L Q) else (vp_in x2 32 ∧ (∀ I3, I3 = up2 I1 (h + 22) (cl x2) x3 → wpV X B1_soundWith 33 [(0, .ref h), (1, .ref a1), (4, .int 0)] [] G I3 L Q))) : wpV X B1_soundWith 0 [(0, .ref h), (1, .ref a1), (2, .int x2), (3, .int x3)] [] G I L Q := by
  refine wp_aload_n (z := 1) (i := 1) (r := (some a1)) 1 (by decide +kernel) rfl rfl ?_
  refine wp_getS (idx := 24) (q := (a1 + 1)) (by decide +kernel) fl1_24 rfl ok1.1 (okr7_3 ok1) ?_
  refine wp_iconst (z := 0) (v := 0) (by decide +kernel) (by decide) ?_
  refine wp_aload_n (z := 0) (i := 0) (r := (some h)) 0 (by decide +kernel) rfl rfl ?_
  refine wp_getS (idx := 16) (q := (h + 22)) (by decide +kernel) fl1_16 rfl ok.1 (okr1_1 ok) ?_
  refine wp_iconst (z := 0) (v := 0) (by decide +kernel) (by decide) ?_
  refine wp_bipush (z := 32) (v := 32) (by decide +kernel) (by decide) ?_
  refine wp_acopy (idx := 27) (N := 32) (t := 11) (t0 := 1) (by decide +kernel) (in_g (List.mem_of_getElem? (i := 853) (by decide +kernel)) rfl) (in_g (List.mem_of_getElem? (i := 687) (by decide +kernel)) rfl) (in_g (List.mem_of_getElem? (i := 686) (by decide +kernel)) rfl) (in_g (List.mem_of_getElem? (i := 133) (by decide +kernel)) rfl) (oks7_3 ok1) (oks1_1 ok) (by decide) rfl rfl (by decide) (by decide) (Nat.le_of_ble_eq_true rfl) (Nat.le_of_ble_eq_true rfl) (fun _ _ => rfl) (Nat.le_of_ble_eq_true rfl) (Nat.le_of_ble_eq_true rfl) ?_
  refine wp_memI (fun I1 eI1 => ?_)
  replace H := H I1 eI1
  refine wp_aload_n (z := 1) (i := 1) (r := (some a1)) 1 (by decide +kernel) rfl rfl ?_
  refine wp_iload_n (z := 2) (i := 2) (x := x2) 2 (by decide +kernel) rfl rfl ?_
  refine wp_callV (idx := 33) (B2 := B7_hasCell) (As := [.int x2]) (a := a1) (st := []) (by decide +kernel) m7_hasCell ml1_33 k7_hasCell e7_hasCell ck7 ok1.1 (⟨Nat.le_of_ble_eq_true rfl, Nat.le_of_ble_eq_true rfl⟩ : rOK B1_soundWith B7_hasCell) rfl (Nat.le_of_ble_eq_true rfl) (Nat.le_of_ble_eq_true rfl) ⟨Nat.le_of_ble_eq_true rfl, Nat.le_of_ble_eq_true rfl⟩ rfl (wp_mono (b7_hasCell (Q := (fun r I' L' => r = (v7_hasCell I1 a1 x2) ∧ I1 = I' ∧ L = L')) ok1 ⟨rfl, rfl, rfl⟩) (fun v9 M9 hq9 => ?_))
  obtain ⟨_, _, _, rfl, rfl, rfl, rfl, rfl⟩ := hq9
  show wp X B1_soundWith 20 [(0, .ref h), (1, .ref a1), (2, .int x2), (3, .int x3)] [.int (v7_hasCell I1 a1 x2)] (G, I1, L) 0 0 _
  refine wp_if_eq (off := 10) (tgt := 30) (by decide +kernel) (by decide) (fun c2 => ?_) (fun c2 => ?_)
  · rw [if_pos c2] at H
    refine wp_iconst (z := 0) (v := 0) (by decide +kernel) (by decide) ?_
    refine wp_istore (i := 4) (lv' := [(4, .int 0), (0, .ref h), (1, .ref a1), (2, .int x2), (3, .int x3)]) (by decide +kernel) (by decide) rfl ?_
    exact wp_sub [1, 2, 0] rfl H
  · rw [if_neg c2] at H
    refine wp_aload_n (z := 0) (i := 0) (r := (some h)) 0 (by decide +kernel) rfl rfl ?_
    refine wp_getS (idx := 16) (q := (h + 22)) (by decide +kernel) fl1_16 rfl ok.1 (okr1_1 ok) ?_
    refine wp_iload_n (z := 2) (i := 2) (x := x2) 2 (by decide +kernel) rfl rfl ?_
    refine wp_iload_n (z := 3) (i := 3) (x := x3) 3 (by decide +kernel) rfl rfl ?_
    obtain ⟨o4, H⟩ := H
    refine wp_iast (j := (cl x2)) (by decide +kernel) (oks1_1 ok) o4 rfl ?_
    refine wp_memI (fun I3 eI3 => ?_)
    replace H := H I3 eI3
    refine wp_iconst (z := 0) (v := 0) (by decide +kernel) (by decide) ?_
    refine wp_istore (i := 4) (lv' := [(4, .int 0), (0, .ref h), (1, .ref a1), (2, .int x2), (3, .int x3)]) (by decide +kernel) (by decide) rfl ?_
    exact wp_sub [1, 2, 0] rfl H
set_option maxRecDepth 20000 in
theorem b1_soundWith_33 {X : XX} {G : GG} {I : Nat → Nat → Int32} {L : Nat → Nat → Int64} {h : Nat} {a1 : Nat} {x4 : Int32} {Q : (Nat → Nat → Int32) → (Nat → Nat → Int64) → Prop} (ok : OK1 G h) (ok1 : OK7 G a1) (H : if 20 ≤ x4 then (vp_in 0 20 ∧ (vp_in (I a1 2) 32 ∧ (∀ I3, I3 = up2 I (h + 2 + cl 0) (cl (I a1 2)) 9 → wpV X B1_soundWith 73 [(0, .ref h), (1, .ref a1), (4, .int 1)] [] G I3 L Q))) else (vp_in x4 20 ∧ (wpV X B18_fillI 0 [(0, .ref (h + 2 + cl x4)), (1, .int 0)] [] G I L (fun I6 L7 => wpV X B1_soundWith 33 [(0, .ref h), (1, .ref a1), (4, .int (x4 + 1))] [] G I6 L7 Q)))) : wpV X B1_soundWith 33 [(0, .ref h), (1, .ref a1), (4, .int x4)] [] G I L Q := by
  refine wp_iload (i := 4) (x := x4) 2 (by decide +kernel) rfl ?_
  refine wp_bipush (z := 20) (v := 20) (by decide +kernel) (by decide) ?_
  refine wp_icmp_ge (off := 20) (tgt := 57) (by decide +kernel) (by decide) (fun c1 => ?_) (fun c1 => ?_)
  · rw [if_pos c1] at H
    refine wp_aload_n (z := 0) (i := 0) (r := (some h)) 0 (by decide +kernel) rfl rfl ?_
    refine wp_getS (idx := 11) (q := (h + 1)) (by decide +kernel) fl1_11 rfl ok.1 (okr1_0 ok) ?_
    refine wp_iconst (z := 0) (v := 0) (by decide +kernel) (by decide) ?_
    obtain ⟨o2, H⟩ := H
    refine wp_aaldR (q := (h + 2 + cl 0)) (by decide +kernel) (oks1_0 ok) o2 ((okw1 ok) (cl 0) (vin_lt o2)).1 ?_
    refine wp_aload_n (z := 1) (i := 1) (r := (some a1)) 1 (by decide +kernel) rfl rfl ?_
    refine wp_getI (idx := 43) (by decide +kernel) fl1_43 rfl ok1.1 ?_
    refine wp_bipush (z := 9) (v := 9) (by decide +kernel) (by decide) ?_
    obtain ⟨o4, H⟩ := H
    refine wp_iast (j := (cl (I a1 2))) (by decide +kernel) ((okw1 ok) (cl 0) (vin_lt o2)).2 o4 rfl ?_
    refine wp_memI (fun I3 eI3 => ?_)
    replace H := H I3 eI3
    refine wp_iconst (z := 1) (v := 1) (by decide +kernel) (by decide) ?_
    refine wp_istore (i := 4) (lv' := [(4, .int 1), (0, .ref h), (1, .ref a1)]) (by decide +kernel) (by decide) rfl ?_
    exact wp_sub [1, 2, 0] rfl H
  · rw [if_neg c1] at H
    refine wp_aload_n (z := 0) (i := 0) (r := (some h)) 0 (by decide +kernel) rfl rfl ?_
    refine wp_getS (idx := 11) (q := (h + 1)) (by decide +kernel) fl1_11 rfl ok.1 (okr1_0 ok) ?_
    refine wp_iload (i := 4) (x := x4) 2 (by decide +kernel) rfl ?_
    obtain ⟨o5, H⟩ := H
    refine wp_aaldR (q := (h + 2 + cl x4)) (by decide +kernel) (oks1_0 ok) o5 ((okw1 ok) (cl x4) (vin_lt o5)).1 ?_
    refine wp_iconst (z := 0) (v := 0) (by decide +kernel) (by decide) ?_
    refine wp_callS (idx := 37) (B2 := B18_fillI) (As := [.ref (h + 2 + cl x4), .int 0]) (st := []) (by decide +kernel) m18_fillI ml1_37 k18_fillI (⟨Nat.le_of_ble_eq_true rfl, Nat.le_of_ble_eq_true rfl⟩ : rOK B1_soundWith B18_fillI) rfl (Nat.le_of_ble_eq_true rfl) (Nat.le_of_ble_eq_true rfl) ⟨Nat.le_of_ble_eq_true rfl, Nat.le_of_ble_eq_true rfl⟩ rfl (wp_mono H (fun v9 M9 hq9 => ?_))
    clear H
    obtain ⟨I6, L7, rfl, rfl, H⟩ := hq9
    show wp X B1_soundWith 51 [(0, .ref h), (1, .ref a1), (4, .int x4)] [] (G, I6, L7) 0 0 _
    refine wp_iinc (i := 4) (z := 1) (v := 1) (lv' := [(4, .int (x4 + 1)), (0, .ref h), (1, .ref a1)]) 2 (by decide +kernel) rfl (by decide) (by decide) rfl ?_
    refine wp_goto (off := -21) (tgt := 33) (by decide +kernel) (by decide) ?_
    exact wp_sub [1, 2, 0] rfl H
set_option maxRecDepth 20000 in
theorem b1_soundWith_73 {X : XX} {G : GG} {I : Nat → Nat → Int32} {L : Nat → Nat → Int64} {h : Nat} {a1 : Nat} {x4 : Int32} {Q : (Nat → Nat → Int32) → (Nat → Nat → Int64) → Prop} (ok : OK1 G h) (ok1 : OK7 G a1) (H : if 9 ≤ x4 then (Q I L) else (vp_in (x4 - 1) 20 ∧ (vp_in x4 20 ∧ (wpV X B8_passOn 0 [(0, .ref a1), (1, .ref (h + 22)), (2, .ref (h + 2 + cl (x4 - 1))), (3, .ref (h + 2 + cl x4))] [] G I L (fun I4 L5 => wpV X B1_soundWith 73 [(0, .ref h), (1, .ref a1), (4, .int (x4 + 1))] [] G I4 L5 Q))))) : wpV X B1_soundWith 73 [(0, .ref h), (1, .ref a1), (4, .int x4)] [] G I L Q := by
  refine wp_iload (i := 4) (x := x4) 2 (by decide +kernel) rfl ?_
  refine wp_bipush (z := 9) (v := 9) (by decide +kernel) (by decide) ?_
  refine wp_icmp_ge (off := 33) (tgt := 110) (by decide +kernel) (by decide) (fun c1 => ?_) (fun c1 => ?_)
  · rw [if_pos c1] at H
    exact wp_vret (by decide +kernel) rfl (Nat.zero_le _) (Nat.zero_le _) ⟨_, _, rfl, rfl, H⟩
  · rw [if_neg c1] at H
    refine wp_aload_n (z := 1) (i := 1) (r := (some a1)) 1 (by decide +kernel) rfl rfl ?_
    refine wp_aload_n (z := 0) (i := 0) (r := (some h)) 0 (by decide +kernel) rfl rfl ?_
    refine wp_getS (idx := 16) (q := (h + 22)) (by decide +kernel) fl1_16 rfl ok.1 (okr1_1 ok) ?_
    refine wp_aload_n (z := 0) (i := 0) (r := (some h)) 0 (by decide +kernel) rfl rfl ?_
    refine wp_getS (idx := 11) (q := (h + 1)) (by decide +kernel) fl1_11 rfl ok.1 (okr1_0 ok) ?_
    refine wp_iload (i := 4) (x := x4) 2 (by decide +kernel) rfl ?_
    refine wp_iconst (z := 1) (v := 1) (by decide +kernel) (by decide) ?_
    refine wp_isub (by decide +kernel) ?_
    obtain ⟨o2, H⟩ := H
    refine wp_aaldR (q := (h + 2 + cl (x4 - 1))) (by decide +kernel) (oks1_0 ok) o2 ((okw1 ok) (cl (x4 - 1)) (vin_lt o2)).1 ?_
    refine wp_aload_n (z := 0) (i := 0) (r := (some h)) 0 (by decide +kernel) rfl rfl ?_
    refine wp_getS (idx := 11) (q := (h + 1)) (by decide +kernel) fl1_11 rfl ok.1 (okr1_0 ok) ?_
    refine wp_iload (i := 4) (x := x4) 2 (by decide +kernel) rfl ?_
    obtain ⟨o3, H⟩ := H
    refine wp_aaldR (q := (h + 2 + cl x4)) (by decide +kernel) (oks1_0 ok) o3 ((okw1 ok) (cl x4) (vin_lt o3)).1 ?_
    refine wp_callSN (idx := 47) (B2 := B8_passOn) (As := [.ref a1, .ref (h + 22), .ref (h + 2 + cl (x4 - 1)), .ref (h + 2 + cl x4)]) (st := []) (by decide +kernel) m8_passOn ml1_47 k8_passOn (⟨Nat.le_of_ble_eq_true rfl, Nat.le_of_ble_eq_true rfl⟩ : rOK B1_soundWith B8_passOn) rfl (Nat.le_of_ble_eq_true rfl) (Nat.le_of_ble_eq_true rfl) ⟨Nat.le_of_ble_eq_true rfl, Nat.le_of_ble_eq_true rfl⟩ rfl (wp_mono H (fun v9 M9 hq9 => ?_))
    clear H
    obtain ⟨I4, L5, rfl, rfl, H⟩ := hq9
    show wp X B1_soundWith 104 [(0, .ref h), (1, .ref a1), (4, .int x4)] [] (G, I4, L5) 0 0 _
    refine wp_iinc (i := 4) (z := 1) (v := 1) (lv' := [(4, .int (x4 + 1)), (0, .ref h), (1, .ref a1)]) 2 (by decide +kernel) rfl (by decide) (by decide) rfl ?_
    refine wp_goto (off := -34) (tgt := 73) (by decide +kernel) (by decide) ?_
    exact wp_sub [1, 2, 0] rfl H
/-! DeafWall$Echo.sound(LDeafWall$Wall;)V -/
set_option maxRecDepth 20000 in
theorem b1_sound {X : XX} {G : GG} {I : Nat → Nat → Int32} {L : Nat → Nat → Int64} {h : Nat} {a1 : Nat} {Q : (Nat → Nat → Int32) → (Nat → Nat → Int64) → Prop} (ok : OK1 G h) (ok1 : OK7 G a1) (H : wpV X B1_soundWith 0 [(0, .ref h), (1, .ref a1), (2, .int (-1)), (3, .int 0)] [] G I L (fun I1 L2 => Q I1 L2)) : wpV X B1_sound 0 [(0, .ref h), (1, .ref a1)] [] G I L Q := by
  refine wp_aload_n (z := 0) (i := 0) (r := (some h)) 0 (by decide +kernel) rfl rfl ?_
  refine wp_aload_n (z := 1) (i := 1) (r := (some a1)) 1 (by decide +kernel) rfl rfl ?_
  refine wp_iconst (z := -1) (v := (-1)) (by decide +kernel) (by decide) ?_
  refine wp_iconst (z := 0) (v := 0) (by decide +kernel) (by decide) ?_
  refine wp_callV (idx := 20) (B2 := B1_soundWith) (As := [.ref a1, .int (-1), .int 0]) (a := h) (st := []) (by decide +kernel) m1_soundWith ml1_20 k1_soundWith e1_soundWith ck1 ok.1 (⟨Nat.le_of_ble_eq_true rfl, Nat.le_of_ble_eq_true rfl⟩ : rOK B1_sound B1_soundWith) rfl (Nat.le_of_ble_eq_true rfl) (Nat.le_of_ble_eq_true rfl) ⟨Nat.le_of_ble_eq_true rfl, Nat.le_of_ble_eq_true rfl⟩ rfl (wp_mono H (fun v9 M9 hq9 => ?_))
  clear H
  obtain ⟨I1, L2, rfl, rfl, H⟩ := hq9
  show wp X B1_sound 7 [(0, .ref h), (1, .ref a1)] [] (G, I1, L2) 0 0 _
  exact wp_vret (by decide +kernel) rfl (Nat.zero_le _) (Nat.zero_le _) ⟨_, _, rfl, rfl, H⟩
/-! DeafWall$Echo.beatsFelt(III)I -/
set_option maxRecDepth 20000 in
theorem b1_beatsFelt {X : XX} {G : GG} {I : Nat → Nat → Int32} {L : Nat → Nat → Int64} {h : Nat} {x1 : Int32} {x2 : Int32} {x3 : Int32} {Q : Int32 → (Nat → Nat → Int32) → (Nat → Nat → Int64) → Prop} (ok : OK1 G h) (H : if x1 < (0 : Int32) then (Q 0 I L) else (if x1 < 32 then (wpI X B1_beatsFelt 19 [(0, .ref h), (1, .int x1), (2, .int x2), (3, .int x3), (4, .int 0), (5, .int 0)] [] G I L Q) else (Q 0 I L))) : wpI X B1_beatsFelt 0 [(0, .ref h), (1, .int x1), (2, .int x2), (3, .int x3)] [] G I L Q := by
  refine wp_iconst (z := 0) (v := 0) (by decide +kernel) (by decide) ?_
  refine wp_istore (i := 4) (lv' := [(4, .int 0), (0, .ref h), (1, .int x1), (2, .int x2), (3, .int x3)]) (by decide +kernel) (by decide) rfl ?_
  refine wp_iload_n (z := 1) (i := 1) (x := x1) 2 (by decide +kernel) rfl rfl ?_
  refine wp_if_lt (off := 9) (tgt := 13) (by decide +kernel) (by decide) (fun c1 => ?_) (fun c1 => ?_)
  · rw [if_pos c1] at H
    refine wp_iload (i := 4) (x := 0) 0 (by decide +kernel) rfl ?_
    exact wp_iret (by decide +kernel) rfl (Nat.zero_le _) (Nat.zero_le _) ⟨_, _, _, rfl, rfl, H⟩
  · rw [if_neg c1] at H
    refine wp_iload_n (z := 1) (i := 1) (x := x1) 2 (by decide +kernel) rfl rfl ?_
    refine wp_bipush (z := 32) (v := 32) (by decide +kernel) (by decide) ?_
    refine wp_icmp_lt (off := 6) (tgt := 16) (by decide +kernel) (by decide) (fun c2 => ?_) (fun c2 => ?_)
    · rw [if_pos c2] at H
      refine wp_iconst (z := 0) (v := 0) (by decide +kernel) (by decide) ?_
      refine wp_istore (i := 5) (lv' := [(5, .int 0), (4, .int 0), (0, .ref h), (1, .int x1), (2, .int x2), (3, .int x3)]) (by decide +kernel) (by decide) rfl ?_
      exact wp_sub [2, 3, 4, 5, 1, 0] rfl H
    · rw [if_neg c2] at H
      refine wp_iload (i := 4) (x := 0) 0 (by decide +kernel) rfl ?_
      exact wp_iret (by decide +kernel) rfl (Nat.zero_le _) (Nat.zero_le _) ⟨_, _, _, rfl, rfl, H⟩
set_option maxRecDepth 20000 in
theorem b1_beatsFelt_19 {X : XX} {G : GG} {I : Nat → Nat → Int32} {L : Nat → Nat → Int64} {h : Nat} {x1 : Int32} {x2 : Int32} {x3 : Int32} {x4 : Int32} {x5 : Int32} {Q : Int32 → (Nat → Nat → Int32) → (Nat → Nat → Int64) → Prop} (ok : OK1 G h) (H : if 20 ≤ x5 then (Q x4 I L) else (vp_in x5 20 ∧ (vp_in x1 32 ∧ (if (I (h + 2 + cl x5) (cl x1)) < ((x2 + 9) - x3) then (wpI X B1_beatsFelt 19 [(0, .ref h), (1, .int x1), (2, .int x2), (3, .int x3), (4, .int x4), (5, .int (x5 + 1))] [] G I L Q) else (∀ u4, u4 = (x4 ||| ((1 : Int32) <<< (x5 &&& 31))) → wpI X B1_beatsFelt 19 [(0, .ref h), (1, .int x1), (2, .int x2), (3, .int x3), (4, .int u4), (5, .int (x5 + 1))] [] G I L Q))))) : wpI X B1_beatsFelt 19 [(0, .ref h), (1, .int x1), (2, .int x2), (3, .int x3), (4, .int x4), (5, .int x5)] [] G I L Q := by
  refine wp_iload (i := 5) (x := x5) 5 (by decide +kernel) rfl ?_
  refine wp_bipush (z := 20) (v := 20) (by decide +kernel) (by decide) ?_
  refine wp_icmp_ge (off := 36) (tgt := 59) (by decide +kernel) (by decide) (fun c1 => ?_) (fun c1 => ?_)
  · rw [if_pos c1] at H
    refine wp_iload (i := 4) (x := x4) 4 (by decide +kernel) rfl ?_
    exact wp_iret (by decide +kernel) rfl (Nat.zero_le _) (Nat.zero_le _) ⟨_, _, _, rfl, rfl, H⟩
  · rw [if_neg c1] at H
    refine wp_aload_n (z := 0) (i := 0) (r := (some h)) 0 (by decide +kernel) rfl rfl ?_
    refine wp_getS (idx := 11) (q := (h + 1)) (by decide +kernel) fl1_11 rfl ok.1 (okr1_0 ok) ?_
    refine wp_iload (i := 5) (x := x5) 5 (by decide +kernel) rfl ?_
    obtain ⟨o2, H⟩ := H
    refine wp_aaldR (q := (h + 2 + cl x5)) (by decide +kernel) (oks1_0 ok) o2 ((okw1 ok) (cl x5) (vin_lt o2)).1 ?_
    refine wp_iload_n (z := 1) (i := 1) (x := x1) 1 (by decide +kernel) rfl rfl ?_
    obtain ⟨o5, H⟩ := H
    refine wp_iald (j := (cl x1)) (by decide +kernel) ((okw1 ok) (cl x5) (vin_lt o2)).2 o5 rfl ?_
    refine wp_iload_n (z := 2) (i := 2) (x := x2) 2 (by decide +kernel) rfl rfl ?_
    refine wp_bipush (z := 9) (v := 9) (by decide +kernel) (by decide) ?_
    refine wp_iadd (by decide +kernel) ?_
    refine wp_iload_n (z := 3) (i := 3) (x := x3) 3 (by decide +kernel) rfl rfl ?_
    refine wp_isub (by decide +kernel) ?_
    refine wp_icmp_lt (off := 12) (tgt := 53) (by decide +kernel) (by decide) (fun c3 => ?_) (fun c3 => ?_)
    · rw [if_pos c3] at H
      refine wp_iinc (i := 5) (z := 1) (v := 1) (lv' := [(5, .int (x5 + 1)), (0, .ref h), (1, .int x1), (2, .int x2), (3, .int x3), (4, .int x4)]) 5 (by decide +kernel) rfl (by decide) (by decide) rfl ?_
      refine wp_goto (off := -37) (tgt := 19) (by decide +kernel) (by decide) ?_
      exact wp_sub [1, 2, 3, 4, 5, 0] rfl H
    · rw [if_neg c3] at H
      refine wp_iload (i := 4) (x := x4) 4 (by decide +kernel) rfl ?_
      refine wp_iconst (z := 1) (v := 1) (by decide +kernel) (by decide) ?_
      refine wp_iload (i := 5) (x := x5) 5 (by decide +kernel) rfl ?_
      refine wp_ishl (by decide +kernel) ?_
      refine wp_ior (by decide +kernel) ?_
      refine wp_topi (fun u4 eu4 => ?_)
      replace H := H u4 eu4
      refine wp_istore (i := 4) (lv' := [(4, .int u4), (0, .ref h), (1, .int x1), (2, .int x2), (3, .int x3), (5, .int x5)]) (by decide +kernel) (by decide) rfl ?_
      refine wp_iinc (i := 5) (z := 1) (v := 1) (lv' := [(5, .int (x5 + 1)), (4, .int u4), (0, .ref h), (1, .int x1), (2, .int x2), (3, .int x3)]) 5 (by decide +kernel) rfl (by decide) (by decide) rfl ?_
      refine wp_goto (off := -37) (tgt := 19) (by decide +kernel) (by decide) ?_
      exact wp_sub [2, 3, 4, 5, 1, 0] rfl H
/-! DeafWall.hear(LDeafWall$Wall;)V -/
set_option maxRecDepth 20000 in
theorem b8_hear {X : XX} {G : GG} {I : Nat → Nat → Int32} {L : Nat → Nat → Int64} {h : Nat} {a1 : Nat} {Q : (Nat → Nat → Int32) → (Nat → Nat → Int64) → Prop} (ok : OK8 G h) (ok1 : OK7 G a1) (H : wpV X B8_hear 2 [(0, .ref h), (1, .ref a1), (2, .int 0)] [] G I L Q) : wpV X B8_hear 0 [(0, .ref h), (1, .ref a1)] [] G I L Q := by
  refine wp_iconst (z := 0) (v := 0) (by decide +kernel) (by decide) ?_
  refine wp_istore_n (z := 2) (i := 2) (lv' := [(2, .int 0), (0, .ref h), (1, .ref a1)]) (by decide +kernel) rfl (by decide) rfl ?_
  exact wp_sub [1, 2, 0] rfl H
set_option maxRecDepth 20000 in
theorem b8_hear_2 {X : XX} {G : GG} {I : Nat → Nat → Int32} {L : Nat → Nat → Int64} {h : Nat} {a1 : Nat} {x2 : Int32} {Q : (Nat → Nat → Int32) → (Nat → Nat → Int64) → Prop} (ok : OK8 G h) (ok1 : OK7 G a1) (H : if (I a1 4) ≤ x2 then (Q I L) else (vp_in x2 6 ∧ (vp_in x2 6 ∧ (wpI X B1_beatsFelt 0 [(0, .ref (h + 24)), (1, .int (I (a1 + 2) (cl x2))), (2, .int (I (a1 + 3) (cl x2))), (3, .int 9)] [] G I L (fun r4 I2 L3 => vp_in x2 6 ∧ (∀ I5, I5 = up2 I2 (h + 58) (cl x2) r4 → wpV X B8_hear 2 [(0, .ref h), (1, .ref a1), (2, .int (x2 + 1))] [] G I5 L3 Q)))))) : wpV X B8_hear 2 [(0, .ref h), (1, .ref a1), (2, .int x2)] [] G I L Q := by
  refine wp_iload_n (z := 2) (i := 2) (x := x2) 2 (by decide +kernel) rfl rfl ?_
  refine wp_aload_n (z := 1) (i := 1) (r := (some a1)) 1 (by decide +kernel) rfl rfl ?_
  refine wp_getI (idx := 169) (by decide +kernel) fl8_169 rfl ok1.1 ?_
  refine wp_icmp_ge (off := 36) (tgt := 43) (by decide +kernel) (by decide) (fun c1 => ?_) (fun c1 => ?_)
  · rw [if_pos c1] at H
    exact wp_vret (by decide +kernel) rfl (Nat.zero_le _) (Nat.zero_le _) ⟨_, _, rfl, rfl, H⟩
  · rw [if_neg c1] at H
    refine wp_aload_n (z := 0) (i := 0) (r := (some h)) 0 (by decide +kernel) rfl rfl ?_
    refine wp_getS (idx := 48) (q := (h + 58)) (by decide +kernel) fl8_48 rfl ok.1 (okr8_6 ok) ?_
    refine wp_iload_n (z := 2) (i := 2) (x := x2) 2 (by decide +kernel) rfl rfl ?_
    refine wp_aload_n (z := 0) (i := 0) (r := (some h)) 0 (by decide +kernel) rfl rfl ?_
    refine wp_getS (idx := 37) (q := (h + 24)) (by decide +kernel) fl8_37 rfl ok.1 (okr8_4 ok) ?_
    refine wp_aload_n (z := 1) (i := 1) (r := (some a1)) 1 (by decide +kernel) rfl rfl ?_
    refine wp_getS (idx := 157) (q := (a1 + 2)) (by decide +kernel) fl8_157 rfl ok1.1 (okr7_5 ok1) ?_
    refine wp_iload_n (z := 2) (i := 2) (x := x2) 2 (by decide +kernel) rfl rfl ?_
    obtain ⟨o8, H⟩ := H
    refine wp_iald (j := (cl x2)) (by decide +kernel) (oks7_5 ok1) o8 rfl ?_
    refine wp_aload_n (z := 1) (i := 1) (r := (some a1)) 1 (by decide +kernel) rfl rfl ?_
    refine wp_getS (idx := 154) (q := (a1 + 3)) (by decide +kernel) fl8_154 rfl ok1.1 (okr7_6 ok1) ?_
    refine wp_iload_n (z := 2) (i := 2) (x := x2) 2 (by decide +kernel) rfl rfl ?_
    obtain ⟨o7, H⟩ := H
    refine wp_iald (j := (cl x2)) (by decide +kernel) (oks7_6 ok1) o7 rfl ?_
    refine wp_bipush (z := 9) (v := 9) (by decide +kernel) (by decide) ?_
    refine wp_callV (idx := 287) (B2 := B1_beatsFelt) (As := [.int (I (a1 + 2) (cl x2)), .int (I (a1 + 3) (cl x2)), .int 9]) (a := (h + 24)) (st := [.int x2, .ref (h + 58)]) (by decide +kernel) m1_beatsFelt ml8_287 k1_beatsFelt e1_beatsFelt ck1 (oko8_4 ok).1 (⟨Nat.le_of_ble_eq_true rfl, Nat.le_of_ble_eq_true rfl⟩ : rOK B8_hear B1_beatsFelt) rfl (Nat.le_of_ble_eq_true rfl) (Nat.le_of_ble_eq_true rfl) ⟨Nat.le_of_ble_eq_true rfl, Nat.le_of_ble_eq_true rfl⟩ rfl (wp_mono H (fun v9 M9 hq9 => ?_))
    clear H
    obtain ⟨r4, I2, L3, rfl, rfl, H⟩ := hq9
    show wp X B8_hear 36 [(0, .ref h), (1, .ref a1), (2, .int x2)] [.int r4, .int x2, .ref (h + 58)] (G, I2, L3) 0 0 _
    obtain ⟨o6, H⟩ := H
    refine wp_iast (j := (cl x2)) (by decide +kernel) (oks8_6 ok) o6 rfl ?_
    refine wp_memI (fun I5 eI5 => ?_)
    replace H := H I5 eI5
    refine wp_iinc (i := 2) (z := 1) (v := 1) (lv' := [(2, .int (x2 + 1)), (0, .ref h), (1, .ref a1)]) 2 (by decide +kernel) rfl (by decide) (by decide) rfl ?_
    refine wp_goto (off := -38) (tgt := 2) (by decide +kernel) (by decide) ?_
    exact wp_sub [1, 2, 0] rfl H
/-! DeafWall.listen(LDeafWall$Wall;)V -/
set_option maxRecDepth 20000 in
theorem b8_listen {X : XX} {G : GG} {I : Nat → Nat → Int32} {L : Nat → Nat → Int64} {h : Nat} {a1 : Nat} {Q : (Nat → Nat → Int32) → (Nat → Nat → Int64) → Prop} (ok : OK8 G h) (ok1 : OK7 G a1) (H : wpV X B1_sound 0 [(0, .ref (h + 24)), (1, .ref a1)] [] G I L (fun I1 L2 => wpV X B8_hear 0 [(0, .ref h), (1, .ref a1)] [] G I1 L2 (fun I4 L5 => Q I4 L5))) : wpV X B8_listen 0 [(0, .ref h), (1, .ref a1)] [] G I L Q := by
  refine wp_aload_n (z := 0) (i := 0) (r := (some h)) 0 (by decide +kernel) rfl rfl ?_
  refine wp_getS (idx := 37) (q := (h + 24)) (by decide +kernel) fl8_37 rfl ok.1 (okr8_4 ok) ?_
  refine wp_aload_n (z := 1) (i := 1) (r := (some a1)) 1 (by decide +kernel) rfl rfl ?_
  refine wp_callV (idx := 281) (B2 := B1_sound) (As := [.ref a1]) (a := (h + 24)) (st := []) (by decide +kernel) m1_sound ml8_281 k1_sound e1_sound ck1 (oko8_4 ok).1 (⟨Nat.le_of_ble_eq_true rfl, Nat.le_of_ble_eq_true rfl⟩ : rOK B8_listen B1_sound) rfl (Nat.le_of_ble_eq_true rfl) (Nat.le_of_ble_eq_true rfl) ⟨Nat.le_of_ble_eq_true rfl, Nat.le_of_ble_eq_true rfl⟩ rfl (wp_mono H (fun v9 M9 hq9 => ?_))
  clear H
  obtain ⟨I1, L2, rfl, rfl, H⟩ := hq9
  show wp X B8_listen 8 [(0, .ref h), (1, .ref a1)] [] (G, I1, L2) 0 0 _
  refine wp_aload_n (z := 0) (i := 0) (r := (some h)) 0 (by decide +kernel) rfl rfl ?_
  refine wp_aload_n (z := 1) (i := 1) (r := (some a1)) 1 (by decide +kernel) rfl rfl ?_
  refine wp_callV (idx := 284) (B2 := B8_hear) (As := [.ref a1]) (a := h) (st := []) (by decide +kernel) m8_hear ml8_284 k8_hear e8_hear ck8 ok.1 (⟨Nat.le_of_ble_eq_true rfl, Nat.le_of_ble_eq_true rfl⟩ : rOK B8_listen B8_hear) rfl (Nat.le_of_ble_eq_true rfl) (Nat.le_of_ble_eq_true rfl) ⟨Nat.le_of_ble_eq_true rfl, Nat.le_of_ble_eq_true rfl⟩ rfl (wp_mono H (fun v9 M9 hq9 => ?_))
  clear H
  obtain ⟨I4, L5, rfl, rfl, H⟩ := hq9
  show wp X B8_listen 13 [(0, .ref h), (1, .ref a1)] [] (G, I4, L5) 0 0 _
  exact wp_vret (by decide +kernel) rfl (Nat.zero_le _) (Nat.zero_le _) ⟨_, _, rfl, rfl, H⟩
/-! DeafWall.feltBy(II)I -/
set_option maxRecDepth 20000 in
theorem b8_feltBy {X : XX} {G : GG} {I : Nat → Nat → Int32} {L : Nat → Nat → Int64} {x0 : Int32} {x1 : Int32} {Q : Int32 → (Nat → Nat → Int32) → (Nat → Nat → Int64) → Prop}  (H : wpI X B8_feltBy 4 [(0, .int x0), (1, .int x1), (2, .int 0), (3, .int 0)] [] G I L Q) : wpI X B8_feltBy 0 [(0, .int x0), (1, .int x1)] [] G I L Q := by
  refine wp_iconst (z := 0) (v := 0) (by decide +kernel) (by decide) ?_
  refine wp_istore_n (z := 2) (i := 2) (lv' := [(2, .int 0), (0, .int x0), (1, .int x1)]) (by decide +kernel) rfl (by decide) rfl ?_
  refine wp_iconst (z := 0) (v := 0) (by decide +kernel) (by decide) ?_
  refine wp_istore_n (z := 3) (i := 3) (lv' := [(3, .int 0), (2, .int 0), (0, .int x0), (1, .int x1)]) (by decide +kernel) rfl (by decide) rfl ?_
  exact wp_sub [2, 3, 1, 0] rfl H
set_option maxRecDepth 20000 in
theorem b8_feltBy_4 {X : XX} {G : GG} {I : Nat → Nat → Int32} {L : Nat → Nat → Int64} {x0 : Int32} {x1 : Int32} {x2 : Int32} {x3 : Int32} {Q : Int32 → (Nat → Nat → Int32) → (Nat → Nat → Int64) → Prop}  (H : if 8 ≤ x3 then (Q (x2 &&& 1048575) I L) else (if ((x1 >>> (x3 &&& 31)) &&& 1) = 1 then (∀ u3, u3 = (x2 ||| (x0 <<< (x3 &&& 31))) → wpI X B8_feltBy 4 [(0, .int x0), (1, .int x1), (2, .int u3), (3, .int (x3 + 1))] [] G I L Q) else (wpI X B8_feltBy 4 [(0, .int x0), (1, .int x1), (2, .int x2), (3, .int (x3 + 1))] [] G I L Q))) : wpI X B8_feltBy 4 [(0, .int x0), (1, .int x1), (2, .int x2), (3, .int x3)] [] G I L Q := by
  refine wp_iload_n (z := 3) (i := 3) (x := x3) 3 (by decide +kernel) rfl rfl ?_
  refine wp_bipush (z := 8) (v := 8) (by decide +kernel) (by decide) ?_
  refine wp_icmp_ge (off := 24) (tgt := 31) (by decide +kernel) (by decide) (fun c1 => ?_) (fun c1 => ?_)
  · rw [if_pos c1] at H
    refine wp_iload_n (z := 2) (i := 2) (x := x2) 2 (by decide +kernel) rfl rfl ?_
    refine wp_ldcw (idx := 291) (v := 1048575) (by decide +kernel) (in_g (List.mem_of_getElem? (i := 872) (by decide +kernel)) rfl) ?_
    refine wp_iand (by decide +kernel) ?_
    exact wp_iret (by decide +kernel) rfl (Nat.zero_le _) (Nat.zero_le _) ⟨_, _, _, rfl, rfl, H⟩
  · rw [if_neg c1] at H
    refine wp_iload_n (z := 1) (i := 1) (x := x1) 1 (by decide +kernel) rfl rfl ?_
    refine wp_iload_n (z := 3) (i := 3) (x := x3) 3 (by decide +kernel) rfl rfl ?_
    refine wp_ishr (by decide +kernel) ?_
    refine wp_iconst (z := 1) (v := 1) (by decide +kernel) (by decide) ?_
    refine wp_iand (by decide +kernel) ?_
    refine wp_iconst (z := 1) (v := 1) (by decide +kernel) (by decide) ?_
    refine wp_icmp_ne (off := 9) (tgt := 25) (by decide +kernel) (by decide) (fun c2 => ?_) (fun c2 => ?_)
    · rw [if_neg c2] at H
      refine wp_iinc (i := 3) (z := 1) (v := 1) (lv' := [(3, .int (x3 + 1)), (0, .int x0), (1, .int x1), (2, .int x2)]) 3 (by decide +kernel) rfl (by decide) (by decide) rfl ?_
      refine wp_goto (off := -24) (tgt := 4) (by decide +kernel) (by decide) ?_
      exact wp_sub [1, 2, 3, 0] rfl H
    · rw [if_pos c2] at H
      refine wp_iload_n (z := 2) (i := 2) (x := x2) 2 (by decide +kernel) rfl rfl ?_
      refine wp_iload_n (z := 0) (i := 0) (x := x0) 0 (by decide +kernel) rfl rfl ?_
      refine wp_iload_n (z := 3) (i := 3) (x := x3) 3 (by decide +kernel) rfl rfl ?_
      refine wp_ishl (by decide +kernel) ?_
      refine wp_ior (by decide +kernel) ?_
      refine wp_topi (fun u3 eu3 => ?_)
      replace H := H u3 eu3
      refine wp_istore_n (z := 2) (i := 2) (lv' := [(2, .int u3), (0, .int x0), (1, .int x1), (3, .int x3)]) (by decide +kernel) rfl (by decide) rfl ?_
      refine wp_iinc (i := 3) (z := 1) (v := 1) (lv' := [(3, .int (x3 + 1)), (2, .int u3), (0, .int x0), (1, .int x1)]) 3 (by decide +kernel) rfl (by decide) (by decide) rfl ?_
      refine wp_goto (off := -24) (tgt := 4) (by decide +kernel) (by decide) ?_
      exact wp_sub [2, 3, 1, 0] rfl H
/-! DeafWall.feelersAt(LDeafWall$Wall;II)I -/
set_option maxRecDepth 20000 in
theorem b8_feelersAt {X : XX} {G : GG} {I : Nat → Nat → Int32} {L : Nat → Nat → Int64} {h : Nat} {a1 : Nat} {x2 : Int32} {x3 : Int32} {Q : Int32 → (Nat → Nat → Int32) → (Nat → Nat → Int64) → Prop} (ok : OK8 G h) (ok1 : OK7 G a1) (H : wpI X B8_feelersAt 6 [(0, .ref h), (1, .ref a1), (2, .int x2), (3, .int x3), (4, .int 0), (5, .int 0)] [] G I L Q) : wpI X B8_feelersAt 0 [(0, .ref h), (1, .ref a1), (2, .int x2), (3, .int x3)] [] G I L Q := by
  refine wp_iconst (z := 0) (v := 0) (by decide +kernel) (by decide) ?_
  refine wp_istore (i := 4) (lv' := [(4, .int 0), (0, .ref h), (1, .ref a1), (2, .int x2), (3, .int x3)]) (by decide +kernel) (by decide) rfl ?_
  refine wp_iconst (z := 0) (v := 0) (by decide +kernel) (by decide) ?_
  refine wp_istore (i := 5) (lv' := [(5, .int 0), (4, .int 0), (0, .ref h), (1, .ref a1), (2, .int x2), (3, .int x3)]) (by decide +kernel) (by decide) rfl ?_
  exact wp_sub [2, 3, 4, 5, 1, 0] rfl H
set_option maxRecDepth 20000 in
theorem b8_feelersAt_6 {X : XX} {G : GG} {I : Nat → Nat → Int32} {L : Nat → Nat → Int64} {h : Nat} {a1 : Nat} {x2 : Int32} {x3 : Int32} {x4 : Int32} {x5 : Int32} {Q : Int32 → (Nat → Nat → Int32) → (Nat → Nat → Int64) → Prop} (ok : OK8 G h) (ok1 : OK7 G a1) (H : if (I a1 4) ≤ x5 then (Q x4 I L) else (vp_in x5 6 ∧ (wpI X B8_feltBy 0 [(0, .int (I (h + 58) (cl x5))), (1, .int x2)] [] G I L (fun r4 I2 L3 => ∀ u5, u5 = (x4 ||| (((r4 >>> (x3 &&& 31)) &&& 1) <<< (x5 &&& 31))) → wpI X B8_feelersAt 6 [(0, .ref h), (1, .ref a1), (2, .int x2), (3, .int x3), (4, .int u5), (5, .int (x5 + 1))] [] G I2 L3 Q)))) : wpI X B8_feelersAt 6 [(0, .ref h), (1, .ref a1), (2, .int x2), (3, .int x3), (4, .int x4), (5, .int x5)] [] G I L Q := by
  refine wp_iload (i := 5) (x := x5) 5 (by decide +kernel) rfl ?_
  refine wp_aload_n (z := 1) (i := 1) (r := (some a1)) 1 (by decide +kernel) rfl rfl ?_
  refine wp_getI (idx := 169) (by decide +kernel) fl8_169 rfl ok1.1 ?_
  refine wp_icmp_ge (off := 32) (tgt := 44) (by decide +kernel) (by decide) (fun c1 => ?_) (fun c1 => ?_)
  · rw [if_pos c1] at H
    refine wp_iload (i := 4) (x := x4) 4 (by decide +kernel) rfl ?_
    exact wp_iret (by decide +kernel) rfl (Nat.zero_le _) (Nat.zero_le _) ⟨_, _, _, rfl, rfl, H⟩
  · rw [if_neg c1] at H
    refine wp_iload (i := 4) (x := x4) 4 (by decide +kernel) rfl ?_
    refine wp_aload_n (z := 0) (i := 0) (r := (some h)) 0 (by decide +kernel) rfl rfl ?_
    refine wp_getS (idx := 48) (q := (h + 58)) (by decide +kernel) fl8_48 rfl ok.1 (okr8_6 ok) ?_
    refine wp_iload (i := 5) (x := x5) 5 (by decide +kernel) rfl ?_
    obtain ⟨o6, H⟩ := H
    refine wp_iald (j := (cl x5)) (by decide +kernel) (oks8_6 ok) o6 rfl ?_
    refine wp_iload_n (z := 2) (i := 2) (x := x2) 2 (by decide +kernel) rfl rfl ?_
    refine wp_callS (idx := 272) (B2 := B8_feltBy) (As := [.int (I (h + 58) (cl x5)), .int x2]) (st := [.int x4]) (by decide +kernel) m8_feltBy ml8_272 k8_feltBy (⟨Nat.le_of_ble_eq_true rfl, Nat.le_of_ble_eq_true rfl⟩ : rOK B8_feelersAt B8_feltBy) rfl (Nat.le_of_ble_eq_true rfl) (Nat.le_of_ble_eq_true rfl) ⟨Nat.le_of_ble_eq_true rfl, Nat.le_of_ble_eq_true rfl⟩ rfl (wp_mono H (fun v9 M9 hq9 => ?_))
    clear H
    obtain ⟨r4, I2, L3, rfl, rfl, H⟩ := hq9
    show wp X B8_feelersAt 28 [(0, .ref h), (1, .ref a1), (2, .int x2), (3, .int x3), (4, .int x4), (5, .int x5)] [.int r4, .int x4] (G, I2, L3) 0 0 _
    refine wp_iload_n (z := 3) (i := 3) (x := x3) 3 (by decide +kernel) rfl rfl ?_
    refine wp_ishr (by decide +kernel) ?_
    refine wp_iconst (z := 1) (v := 1) (by decide +kernel) (by decide) ?_
    refine wp_iand (by decide +kernel) ?_
    refine wp_iload (i := 5) (x := x5) 5 (by decide +kernel) rfl ?_
    refine wp_ishl (by decide +kernel) ?_
    refine wp_ior (by decide +kernel) ?_
    refine wp_topi (fun u5 eu5 => ?_)
    replace H := H u5 eu5
    refine wp_istore (i := 4) (lv' := [(4, .int u5), (0, .ref h), (1, .ref a1), (2, .int x2), (3, .int x3), (5, .int x5)]) (by decide +kernel) (by decide) rfl ?_
    refine wp_iinc (i := 5) (z := 1) (v := 1) (lv' := [(5, .int (x5 + 1)), (4, .int u5), (0, .ref h), (1, .ref a1), (2, .int x2), (3, .int x3)]) 5 (by decide +kernel) rfl (by decide) (by decide) rfl ?_
    refine wp_goto (off := -35) (tgt := 6) (by decide +kernel) (by decide) ?_
    exact wp_sub [2, 3, 4, 5, 1, 0] rfl H
/-! DeafWall$Echo.forceBy(III)I -/
set_option maxRecDepth 20000 in
theorem b1_forceBy {X : XX} {G : GG} {I : Nat → Nat → Int32} {L : Nat → Nat → Int64} {h : Nat} {x1 : Int32} {x2 : Int32} {x3 : Int32} {Q : Int32 → (Nat → Nat → Int32) → (Nat → Nat → Int64) → Prop} (ok : OK1 G h) (H : wpI X B1_forceBy 6 [(0, .ref h), (1, .int x1), (2, .int x2), (3, .int x3), (4, .int 0), (5, .int 0)] [] G I L Q) : wpI X B1_forceBy 0 [(0, .ref h), (1, .int x1), (2, .int x2), (3, .int x3)] [] G I L Q := by
  refine wp_iconst (z := 0) (v := 0) (by decide +kernel) (by decide) ?_
  refine wp_istore (i := 4) (lv' := [(4, .int 0), (0, .ref h), (1, .int x1), (2, .int x2), (3, .int x3)]) (by decide +kernel) (by decide) rfl ?_
  refine wp_iconst (z := 0) (v := 0) (by decide +kernel) (by decide) ?_
  refine wp_istore (i := 5) (lv' := [(5, .int 0), (4, .int 0), (0, .ref h), (1, .int x1), (2, .int x2), (3, .int x3)]) (by decide +kernel) (by decide) rfl ?_
  exact wp_sub [2, 3, 4, 5, 1, 0] rfl H
set_option maxRecDepth 20000 in
theorem b1_forceBy_6 {X : XX} {G : GG} {I : Nat → Nat → Int32} {L : Nat → Nat → Int64} {h : Nat} {x1 : Int32} {x2 : Int32} {x3 : Int32} {x4 : Int32} {x5 : Int32} {Q : Int32 → (Nat → Nat → Int32) → (Nat → Nat → Int64) → Prop} (ok : OK1 G h) (H : if x2 < x5 then (Q x4 I L) else (if 8 ≤ x5 then (Q x4 I L) else (if ((x1 >>> (x5 &&& 31)) &&& 1) = 1 then (vp_in (x2 - x5) 20 ∧ (vp_in x3 32 ∧ (∀ u5, u5 = (mx x4 (I (h + 2 + cl (x2 - x5)) (cl x3))) → wpI X B1_forceBy 6 [(0, .ref h), (1, .int x1), (2, .int x2), (3, .int x3), (4, .int u5), (5, .int (x5 + 1))] [] G I L Q))) else (wpI X B1_forceBy 6 [(0, .ref h), (1, .int x1), (2, .int x2), (3, .int x3), (4, .int x4), (5, .int (x5 + 1))] [] G I L Q)))) : wpI X B1_forceBy 6 [(0, .ref h), (1, .int x1), (2, .int x2), (3, .int x3), (4, .int x4), (5, .int x5)] [] G I L Q := by
  refine wp_iload (i := 5) (x := x5) 5 (by decide +kernel) rfl ?_
  refine wp_iload_n (z := 2) (i := 2) (x := x2) 2 (by decide +kernel) rfl rfl ?_
  refine wp_icmp_gt (off := 44) (tgt := 53) (by decide +kernel) (by decide) (fun c1 => ?_) (fun c1 => ?_)
  · rw [if_pos c1] at H
    refine wp_iload (i := 4) (x := x4) 4 (by decide +kernel) rfl ?_
    exact wp_iret (by decide +kernel) rfl (Nat.zero_le _) (Nat.zero_le _) ⟨_, _, _, rfl, rfl, H⟩
  · rw [if_neg c1] at H
    refine wp_iload (i := 5) (x := x5) 5 (by decide +kernel) rfl ?_
    refine wp_bipush (z := 8) (v := 8) (by decide +kernel) (by decide) ?_
    refine wp_icmp_ge (off := 37) (tgt := 53) (by decide +kernel) (by decide) (fun c2 => ?_) (fun c2 => ?_)
    · rw [if_pos c2] at H
      refine wp_iload (i := 4) (x := x4) 4 (by decide +kernel) rfl ?_
      exact wp_iret (by decide +kernel) rfl (Nat.zero_le _) (Nat.zero_le _) ⟨_, _, _, rfl, rfl, H⟩
    · rw [if_neg c2] at H
      refine wp_iload_n (z := 1) (i := 1) (x := x1) 1 (by decide +kernel) rfl rfl ?_
      refine wp_iload (i := 5) (x := x5) 5 (by decide +kernel) rfl ?_
      refine wp_ishr (by decide +kernel) ?_
      refine wp_iconst (z := 1) (v := 1) (by decide +kernel) (by decide) ?_
      refine wp_iand (by decide +kernel) ?_
      refine wp_iconst (z := 1) (v := 1) (by decide +kernel) (by decide) ?_
      refine wp_icmp_ne (off := 21) (tgt := 47) (by decide +kernel) (by decide) (fun c3 => ?_) (fun c3 => ?_)
      · rw [if_neg c3] at H
        refine wp_iinc (i := 5) (z := 1) (v := 1) (lv' := [(5, .int (x5 + 1)), (0, .ref h), (1, .int x1), (2, .int x2), (3, .int x3), (4, .int x4)]) 5 (by decide +kernel) rfl (by decide) (by decide) rfl ?_
        refine wp_goto (off := -44) (tgt := 6) (by decide +kernel) (by decide) ?_
        exact wp_sub [1, 2, 3, 4, 5, 0] rfl H
      · rw [if_pos c3] at H
        refine wp_iload (i := 4) (x := x4) 4 (by decide +kernel) rfl ?_
        refine wp_aload_n (z := 0) (i := 0) (r := (some h)) 0 (by decide +kernel) rfl rfl ?_
        refine wp_getS (idx := 11) (q := (h + 1)) (by decide +kernel) fl1_11 rfl ok.1 (okr1_0 ok) ?_
        refine wp_iload_n (z := 2) (i := 2) (x := x2) 2 (by decide +kernel) rfl rfl ?_
        refine wp_iload (i := 5) (x := x5) 5 (by decide +kernel) rfl ?_
        refine wp_isub (by decide +kernel) ?_
        obtain ⟨o4, H⟩ := H
        refine wp_aaldR (q := (h + 2 + cl (x2 - x5))) (by decide +kernel) (oks1_0 ok) o4 ((okw1 ok) (cl (x2 - x5)) (vin_lt o4)).1 ?_
        refine wp_iload_n (z := 3) (i := 3) (x := x3) 3 (by decide +kernel) rfl rfl ?_
        obtain ⟨o6, H⟩ := H
        refine wp_iald (j := (cl x3)) (by decide +kernel) ((okw1 ok) (cl (x2 - x5)) (vin_lt o4)).2 o6 rfl ?_
        refine wp_mmax (idx := 59) (by decide +kernel) (in_g (List.mem_of_getElem? (i := 882) (by decide +kernel)) rfl) (in_g (List.mem_of_getElem? (i := 646) (by decide +kernel)) rfl) (in_g (List.mem_of_getElem? (i := 127) (by decide +kernel)) rfl) (in_g (List.mem_of_getElem? (i := 647) (by decide +kernel)) (by decide +kernel)) (Nat.le_of_ble_eq_true rfl) (Nat.le_of_ble_eq_true rfl) (Nat.le_of_ble_eq_true rfl) (Nat.le_of_ble_eq_true rfl) ?_
        refine wp_topi (fun u5 eu5 => ?_)
        replace H := H u5 eu5
        refine wp_istore (i := 4) (lv' := [(4, .int u5), (0, .ref h), (1, .int x1), (2, .int x2), (3, .int x3), (5, .int x5)]) (by decide +kernel) (by decide) rfl ?_
        refine wp_iinc (i := 5) (z := 1) (v := 1) (lv' := [(5, .int (x5 + 1)), (4, .int u5), (0, .ref h), (1, .int x1), (2, .int x2), (3, .int x3)]) 5 (by decide +kernel) rfl (by decide) (by decide) rfl ?_
        refine wp_goto (off := -44) (tgt := 6) (by decide +kernel) (by decide) ?_
        exact wp_sub [2, 3, 4, 5, 1, 0] rfl H
/-! DeafWall$Echo.allForce(LDeafWall$Wall;I)I -/
set_option maxRecDepth 20000 in
theorem b1_allForce {X : XX} {G : GG} {I : Nat → Nat → Int32} {L : Nat → Nat → Int64} {h : Nat} {a1 : Nat} {x2 : Int32} {Q : Int32 → (Nat → Nat → Int32) → (Nat → Nat → Int64) → Prop} (ok : OK1 G h) (ok1 : OK7 G a1) (H : wpI X B1_allForce 5 [(0, .ref h), (1, .ref a1), (2, .int x2), (3, .int 0), (4, .int 0)] [] G I L Q) : wpI X B1_allForce 0 [(0, .ref h), (1, .ref a1), (2, .int x2)] [] G I L Q := by
  refine wp_iconst (z := 0) (v := 0) (by decide +kernel) (by decide) ?_
  refine wp_istore_n (z := 3) (i := 3) (lv' := [(3, .int 0), (0, .ref h), (1, .ref a1), (2, .int x2)]) (by decide +kernel) rfl (by decide) rfl ?_
  refine wp_iconst (z := 0) (v := 0) (by decide +kernel) (by decide) ?_
  refine wp_istore (i := 4) (lv' := [(4, .int 0), (3, .int 0), (0, .ref h), (1, .ref a1), (2, .int x2)]) (by decide +kernel) (by decide) rfl ?_
  exact wp_sub [2, 3, 4, 1, 0] rfl H
set_option maxRecDepth 20000 in
theorem b1_allForce_5 {X : XX} {G : GG} {I : Nat → Nat → Int32} {L : Nat → Nat → Int64} {h : Nat} {a1 : Nat} {x2 : Int32} {x3 : Int32} {x4 : Int32} {Q : Int32 → (Nat → Nat → Int32) → (Nat → Nat → Int64) → Prop} (ok : OK1 G h) (ok1 : OK7 G a1) (H : if 20 ≤ x4 then (Q x3 I L) else (wpI X B1_allForce 15 [(0, .ref h), (1, .ref a1), (2, .int x2), (3, .int x3), (4, .int x4), (5, .int 0)] [] G I L Q)) : wpI X B1_allForce 5 [(0, .ref h), (1, .ref a1), (2, .int x2), (3, .int x3), (4, .int x4)] [] G I L Q := by
  refine wp_iload (i := 4) (x := x4) 4 (by decide +kernel) rfl ?_
  refine wp_bipush (z := 20) (v := 20) (by decide +kernel) (by decide) ?_
  refine wp_icmp_ge (off := 39) (tgt := 48) (by decide +kernel) (by decide) (fun c1 => ?_) (fun c1 => ?_)
  · rw [if_pos c1] at H
    refine wp_iload_n (z := 3) (i := 3) (x := x3) 3 (by decide +kernel) rfl rfl ?_
    exact wp_iret (by decide +kernel) rfl (Nat.zero_le _) (Nat.zero_le _) ⟨_, _, _, rfl, rfl, H⟩
  · rw [if_neg c1] at H
    refine wp_iconst (z := 0) (v := 0) (by decide +kernel) (by decide) ?_
    refine wp_istore (i := 5) (lv' := [(5, .int 0), (0, .ref h), (1, .ref a1), (2, .int x2), (3, .int x3), (4, .int x4)]) (by decide +kernel) (by decide) rfl ?_
    exact wp_sub [1, 2, 3, 4, 5, 0] rfl H
set_option maxRecDepth 20000 in
theorem b1_allForce_15 {X : XX} {G : GG} {I : Nat → Nat → Int32} {L : Nat → Nat → Int64} {h : Nat} {a1 : Nat} {x2 : Int32} {x3 : Int32} {x4 : Int32} {x5 : Int32} {Q : Int32 → (Nat → Nat → Int32) → (Nat → Nat → Int64) → Prop} (ok : OK1 G h) (ok1 : OK7 G a1) (H : if (v7_cells I a1) ≤ x5 then (wpI X B1_allForce 5 [(0, .ref h), (1, .ref a1), (2, .int x2), (3, .int x3), (4, .int (x4 + 1))] [] G I L Q) else (wpI X B1_forceBy 0 [(0, .ref h), (1, .int x2), (2, .int x4), (3, .int x5)] [] G I L (fun r4 I2 L3 => wpI X B1_allForce 15 [(0, .ref h), (1, .ref a1), (2, .int x2), (3, .int (x3 + r4)), (4, .int x4), (5, .int (x5 + 1))] [] G I2 L3 Q))) : wpI X B1_allForce 15 [(0, .ref h), (1, .ref a1), (2, .int x2), (3, .int x3), (4, .int x4), (5, .int x5)] [] G I L Q := by
  refine wp_iload (i := 5) (x := x5) 5 (by decide +kernel) rfl ?_
  refine wp_aload_n (z := 1) (i := 1) (r := (some a1)) 1 (by decide +kernel) rfl rfl ?_
  refine wp_callV (idx := 51) (B2 := B7_cells) (As := []) (a := a1) (st := [.int x5]) (by decide +kernel) m7_cells ml1_51 k7_cells e7_cells ck7 ok1.1 (⟨Nat.le_of_ble_eq_true rfl, Nat.le_of_ble_eq_true rfl⟩ : rOK B1_allForce B7_cells) rfl (Nat.le_of_ble_eq_true rfl) (Nat.le_of_ble_eq_true rfl) ⟨Nat.le_of_ble_eq_true rfl, Nat.le_of_ble_eq_true rfl⟩ rfl (wp_mono (b7_cells (Q := (fun r I' L' => r = (v7_cells I a1) ∧ I = I' ∧ L = L')) ok1 ⟨rfl, rfl, rfl⟩) (fun v9 M9 hq9 => ?_))
  obtain ⟨_, _, _, rfl, rfl, rfl, rfl, rfl⟩ := hq9
  show wp X B1_allForce 21 [(0, .ref h), (1, .ref a1), (2, .int x2), (3, .int x3), (4, .int x4), (5, .int x5)] [.int (v7_cells I a1), .int x5] (G, I, L) 0 0 _
  refine wp_icmp_ge (off := 21) (tgt := 42) (by decide +kernel) (by decide) (fun c1 => ?_) (fun c1 => ?_)
  · rw [if_pos c1] at H
    refine wp_iinc (i := 4) (z := 1) (v := 1) (lv' := [(4, .int (x4 + 1)), (0, .ref h), (1, .ref a1), (2, .int x2), (3, .int x3), (5, .int x5)]) 4 (by decide +kernel) rfl (by decide) (by decide) rfl ?_
    refine wp_goto (off := -40) (tgt := 5) (by decide +kernel) (by decide) ?_
    exact wp_sub [1, 2, 3, 4, 0] rfl H
  · rw [if_neg c1] at H
    refine wp_iload_n (z := 3) (i := 3) (x := x3) 3 (by decide +kernel) rfl rfl ?_
    refine wp_aload_n (z := 0) (i := 0) (r := (some h)) 0 (by decide +kernel) rfl rfl ?_
    refine wp_iload_n (z := 2) (i := 2) (x := x2) 2 (by decide +kernel) rfl rfl ?_
    refine wp_iload (i := 4) (x := x4) 4 (by decide +kernel) rfl ?_
    refine wp_iload (i := 5) (x := x5) 5 (by decide +kernel) rfl ?_
    refine wp_callV (idx := 55) (B2 := B1_forceBy) (As := [.int x2, .int x4, .int x5]) (a := h) (st := [.int x3]) (by decide +kernel) m1_forceBy ml1_55 k1_forceBy e1_forceBy ck1 ok.1 (⟨Nat.le_of_ble_eq_true rfl, Nat.le_of_ble_eq_true rfl⟩ : rOK B1_allForce B1_forceBy) rfl (Nat.le_of_ble_eq_true rfl) (Nat.le_of_ble_eq_true rfl) ⟨Nat.le_of_ble_eq_true rfl, Nat.le_of_ble_eq_true rfl⟩ rfl (wp_mono H (fun v9 M9 hq9 => ?_))
    clear H
    obtain ⟨r4, I2, L3, rfl, rfl, H⟩ := hq9
    show wp X B1_allForce 34 [(0, .ref h), (1, .ref a1), (2, .int x2), (3, .int x3), (4, .int x4), (5, .int x5)] [.int r4, .int x3] (G, I2, L3) 0 0 _
    refine wp_iadd (by decide +kernel) ?_
    refine wp_istore_n (z := 3) (i := 3) (lv' := [(3, .int (x3 + r4)), (0, .ref h), (1, .ref a1), (2, .int x2), (4, .int x4), (5, .int x5)]) (by decide +kernel) rfl (by decide) rfl ?_
    refine wp_iinc (i := 5) (z := 1) (v := 1) (lv' := [(5, .int (x5 + 1)), (3, .int (x3 + r4)), (0, .ref h), (1, .ref a1), (2, .int x2), (4, .int x4)]) 5 (by decide +kernel) rfl (by decide) (by decide) rfl ?_
    refine wp_goto (off := -24) (tgt := 15) (by decide +kernel) (by decide) ?_
    exact wp_sub [2, 3, 4, 1, 5, 0] rfl H
/-! DeafWall.isTold(III)Z -/
set_option maxRecDepth 20000 in
theorem b8_isTold {X : XX} {G : GG} {I : Nat → Nat → Int32} {L : Nat → Nat → Int64} {x0 : Int32} {x1 : Int32} {x2 : Int32} {Q : Int32 → (Nat → Nat → Int32) → (Nat → Nat → Int64) → Prop}  (H : ∀ u1, u1 = (((1 : Int32) <<< (x1 &&& 31)) - 1) → wpI X B8_isTold 9 [(0, .int x0), (1, .int x1), (2, .int x2), (3, .int u1), (4, .int 0)] [] G I L Q) : wpI X B8_isTold 0 [(0, .int x0), (1, .int x1), (2, .int x2)] [] G I L Q := by
  refine wp_iconst (z := 1) (v := 1) (by decide +kernel) (by decide) ?_
  refine wp_iload_n (z := 1) (i := 1) (x := x1) 1 (by decide +kernel) rfl rfl ?_
  refine wp_ishl (by decide +kernel) ?_
  refine wp_iconst (z := 1) (v := 1) (by decide +kernel) (by decide) ?_
  refine wp_isub (by decide +kernel) ?_
  refine wp_topi (fun u1 eu1 => ?_)
  replace H := H u1 eu1
  refine wp_istore_n (z := 3) (i := 3) (lv' := [(3, .int u1), (0, .int x0), (1, .int x1), (2, .int x2)]) (by decide +kernel) rfl (by decide) rfl ?_
  refine wp_iconst (z := 0) (v := 0) (by decide +kernel) (by decide) ?_
  refine wp_istore (i := 4) (lv' := [(4, .int 0), (3, .int u1), (0, .int x0), (1, .int x1), (2, .int x2)]) (by decide +kernel) (by decide) rfl ?_
  exact wp_sub [2, 3, 4, 1, 0] rfl H
set_option maxRecDepth 20000 in
theorem b8_isTold_9 {X : XX} {G : GG} {I : Nat → Nat → Int32} {L : Nat → Nat → Int64} {x0 : Int32} {x1 : Int32} {x2 : Int32} {x3 : Int32} {x4 : Int32} {Q : Int32 → (Nat → Nat → Int32) → (Nat → Nat → Int64) → Prop}  (H : if 20 < (x4 + x1) then (Q 0 I L) else (if ((x0 >>> (x4 &&& 31)) &&& x3) = x2 then (Q 1 I L) else (wpI X B8_isTold 9 [(0, .int x0), (1, .int x1), (2, .int x2), (3, .int x3), (4, .int (x4 + 1))] [] G I L Q))) : wpI X B8_isTold 9 [(0, .int x0), (1, .int x1), (2, .int x2), (3, .int x3), (4, .int x4)] [] G I L Q := by
  refine wp_iload (i := 4) (x := x4) 4 (by decide +kernel) rfl ?_
  refine wp_iload_n (z := 1) (i := 1) (x := x1) 1 (by decide +kernel) rfl rfl ?_
  refine wp_iadd (by decide +kernel) ?_
  refine wp_bipush (z := 20) (v := 20) (by decide +kernel) (by decide) ?_
  refine wp_icmp_gt (off := 21) (tgt := 36) (by decide +kernel) (by decide) (fun c1 => ?_) (fun c1 => ?_)
  · rw [if_pos c1] at H
    refine wp_iconst (z := 0) (v := 0) (by decide +kernel) (by decide) ?_
    exact wp_zret (by decide +kernel) rfl (by decide) (Nat.zero_le _) (Nat.zero_le _) ⟨_, _, _, rfl, rfl, H⟩
  · rw [if_neg c1] at H
    refine wp_iload_n (z := 0) (i := 0) (x := x0) 0 (by decide +kernel) rfl rfl ?_
    refine wp_iload (i := 4) (x := x4) 4 (by decide +kernel) rfl ?_
    refine wp_ishr (by decide +kernel) ?_
    refine wp_iload_n (z := 3) (i := 3) (x := x3) 3 (by decide +kernel) rfl rfl ?_
    refine wp_iand (by decide +kernel) ?_
    refine wp_iload_n (z := 2) (i := 2) (x := x2) 2 (by decide +kernel) rfl rfl ?_
    refine wp_icmp_ne (off := 5) (tgt := 30) (by decide +kernel) (by decide) (fun c2 => ?_) (fun c2 => ?_)
    · rw [if_neg c2] at H
      refine wp_iinc (i := 4) (z := 1) (v := 1) (lv' := [(4, .int (x4 + 1)), (0, .int x0), (1, .int x1), (2, .int x2), (3, .int x3)]) 4 (by decide +kernel) rfl (by decide) (by decide) rfl ?_
      refine wp_goto (off := -24) (tgt := 9) (by decide +kernel) (by decide) ?_
      exact wp_sub [1, 2, 3, 4, 0] rfl H
    · rw [if_pos c2] at H
      refine wp_iconst (z := 1) (v := 1) (by decide +kernel) (by decide) ?_
      exact wp_zret (by decide +kernel) rfl (by decide) (Nat.zero_le _) (Nat.zero_le _) ⟨_, _, _, rfl, rfl, H⟩
/-! DeafWall.talesTold(LDeafWall$Wall;I)I -/
set_option maxRecDepth 20000 in
theorem b8_talesTold {X : XX} {G : GG} {I : Nat → Nat → Int32} {L : Nat → Nat → Int64} {a0 : Nat} {x1 : Int32} {Q : Int32 → (Nat → Nat → Int32) → (Nat → Nat → Int64) → Prop} (ok0 : OK7 G a0) (H : wpI X B8_talesTold 4 [(0, .ref a0), (1, .int x1), (2, .int 0), (3, .int 0)] [] G I L Q) : wpI X B8_talesTold 0 [(0, .ref a0), (1, .int x1)] [] G I L Q := by
  refine wp_iconst (z := 0) (v := 0) (by decide +kernel) (by decide) ?_
  refine wp_istore_n (z := 2) (i := 2) (lv' := [(2, .int 0), (0, .ref a0), (1, .int x1)]) (by decide +kernel) rfl (by decide) rfl ?_
  refine wp_iconst (z := 0) (v := 0) (by decide +kernel) (by decide) ?_
  refine wp_istore_n (z := 3) (i := 3) (lv' := [(3, .int 0), (2, .int 0), (0, .ref a0), (1, .int x1)]) (by decide +kernel) rfl (by decide) rfl ?_
  exact wp_sub [2, 3, 1, 0] rfl H
set_option maxRecDepth 20000 in
theorem b8_talesTold_4 {X : XX} {G : GG} {I : Nat → Nat → Int32} {L : Nat → Nat → Int64} {a0 : Nat} {x1 : Int32} {x2 : Int32} {x3 : Int32} {Q : Int32 → (Nat → Nat → Int32) → (Nat → Nat → Int64) → Prop} (ok0 : OK7 G a0) (H : if (I a0 7) ≤ x3 then (Q x2 I L) else (vp_in x3 6 ∧ (vp_in x3 6 ∧ (wpI X B8_isTold 0 [(0, .int x1), (1, .int (I (a0 + 4) (cl x3))), (2, .int (I (a0 + 5) (cl x3)))] [] G I L (fun r4 I2 L3 => if r4 = (0 : Int32) then (wpI X B8_talesTold 4 [(0, .ref a0), (1, .int x1), (2, .int x2), (3, .int (x3 + 1))] [] G I2 L3 Q) else (∀ u6, u6 = (x2 ||| ((1 : Int32) <<< (x3 &&& 31))) → wpI X B8_talesTold 4 [(0, .ref a0), (1, .int x1), (2, .int u6), (3, .int (x3 + 1))] [] G I2 L3 Q)))))) : wpI X B8_talesTold 4 [(0, .ref a0), (1, .int x1), (2, .int x2), (3, .int x3)] [] G I L Q := by
  refine wp_iload_n (z := 3) (i := 3) (x := x3) 3 (by decide +kernel) rfl rfl ?_
  refine wp_aload_n (z := 0) (i := 0) (r := (some a0)) 0 (by decide +kernel) rfl rfl ?_
  refine wp_getI (idx := 172) (by decide +kernel) fl8_172 rfl ok0.1 ?_
  refine wp_icmp_ge (off := 34) (tgt := 43) (by decide +kernel) (by decide) (fun c1 => ?_) (fun c1 => ?_)
  · rw [if_pos c1] at H
    refine wp_iload_n (z := 2) (i := 2) (x := x2) 2 (by decide +kernel) rfl rfl ?_
    exact wp_iret (by decide +kernel) rfl (Nat.zero_le _) (Nat.zero_le _) ⟨_, _, _, rfl, rfl, H⟩
  · rw [if_neg c1] at H
    refine wp_iload_n (z := 1) (i := 1) (x := x1) 1 (by decide +kernel) rfl rfl ?_
    refine wp_aload_n (z := 0) (i := 0) (r := (some a0)) 0 (by decide +kernel) rfl rfl ?_
    refine wp_getS (idx := 148) (q := (a0 + 4)) (by decide +kernel) fl8_148 rfl ok0.1 (okr7_8 ok0) ?_
    refine wp_iload_n (z := 3) (i := 3) (x := x3) 3 (by decide +kernel) rfl rfl ?_
    obtain ⟨o8, H⟩ := H
    refine wp_iald (j := (cl x3)) (by decide +kernel) (oks7_8 ok0) o8 rfl ?_
    refine wp_aload_n (z := 0) (i := 0) (r := (some a0)) 0 (by decide +kernel) rfl rfl ?_
    refine wp_getS (idx := 145) (q := (a0 + 5)) (by decide +kernel) fl8_145 rfl ok0.1 (okr7_9 ok0) ?_
    refine wp_iload_n (z := 3) (i := 3) (x := x3) 3 (by decide +kernel) rfl rfl ?_
    obtain ⟨o7, H⟩ := H
    refine wp_iald (j := (cl x3)) (by decide +kernel) (oks7_9 ok0) o7 rfl ?_
    refine wp_callS (idx := 292) (B2 := B8_isTold) (As := [.int x1, .int (I (a0 + 4) (cl x3)), .int (I (a0 + 5) (cl x3))]) (st := []) (by decide +kernel) m8_isTold ml8_292 k8_isTold (⟨Nat.le_of_ble_eq_true rfl, Nat.le_of_ble_eq_true rfl⟩ : rOK B8_talesTold B8_isTold) rfl (Nat.le_of_ble_eq_true rfl) (Nat.le_of_ble_eq_true rfl) ⟨Nat.le_of_ble_eq_true rfl, Nat.le_of_ble_eq_true rfl⟩ rfl (wp_mono H (fun v9 M9 hq9 => ?_))
    clear H
    obtain ⟨r4, I2, L3, rfl, rfl, H⟩ := hq9
    show wp X B8_talesTold 28 [(0, .ref a0), (1, .int x1), (2, .int x2), (3, .int x3)] [.int r4] (G, I2, L3) 0 0 _
    refine wp_if_eq (off := 9) (tgt := 37) (by decide +kernel) (by decide) (fun c5 => ?_) (fun c5 => ?_)
    · rw [if_pos c5] at H
      refine wp_iinc (i := 3) (z := 1) (v := 1) (lv' := [(3, .int (x3 + 1)), (0, .ref a0), (1, .int x1), (2, .int x2)]) 3 (by decide +kernel) rfl (by decide) (by decide) rfl ?_
      refine wp_goto (off := -36) (tgt := 4) (by decide +kernel) (by decide) ?_
      exact wp_sub [1, 2, 3, 0] rfl H
    · rw [if_neg c5] at H
      refine wp_iload_n (z := 2) (i := 2) (x := x2) 2 (by decide +kernel) rfl rfl ?_
      refine wp_iconst (z := 1) (v := 1) (by decide +kernel) (by decide) ?_
      refine wp_iload_n (z := 3) (i := 3) (x := x3) 3 (by decide +kernel) rfl rfl ?_
      refine wp_ishl (by decide +kernel) ?_
      refine wp_ior (by decide +kernel) ?_
      refine wp_topi (fun u6 eu6 => ?_)
      replace H := H u6 eu6
      refine wp_istore_n (z := 2) (i := 2) (lv' := [(2, .int u6), (0, .ref a0), (1, .int x1), (3, .int x3)]) (by decide +kernel) rfl (by decide) rfl ?_
      refine wp_iinc (i := 3) (z := 1) (v := 1) (lv' := [(3, .int (x3 + 1)), (2, .int u6), (0, .ref a0), (1, .int x1)]) 3 (by decide +kernel) rfl (by decide) (by decide) rfl ?_
      refine wp_goto (off := -36) (tgt := 4) (by decide +kernel) (by decide) ?_
      exact wp_sub [2, 3, 1, 0] rfl H
/-! DeafWall.tune(IIII)I -/
set_option maxRecDepth 20000 in
theorem b8_tune {X : XX} {G : GG} {I : Nat → Nat → Int32} {L : Nat → Nat → Int64} {h : Nat} {x1 : Int32} {x2 : Int32} {x3 : Int32} {x4 : Int32} {Q : Int32 → (Nat → Nat → Int32) → (Nat → Nat → Int64) → Prop} (ok : OK8 G h) (H : wpR X B8_wallAt 0 [(0, .ref h), (1, .int x1)] [] G I L (fun r3 I1 L2 => (r3 = none → Q (-2) I1 L2) ∧ (∀ q5, r3 = some q5 → if (v8_isTune x2 x3) = (0 : Int32) then (Q (-2) I1 L2) else (if (0 : Int32) ≤ x4 then (wpV X B8_listen 0 [(0, .ref h), (1, .ref q5)] [] G I1 L2 (fun I8 L9 => if 20 ≤ x4 then (if x4 = 40 then (wpI X B1_allForce 0 [(0, .ref (h + 24)), (1, .ref q5), (2, .int x3)] [] G I8 L9 (fun r26 I24 L25 => Q r26 I24 L25)) else (if x4 < 30 then (Q (-2) I8 L9) else (OK7 G q5 ∧ (if (v7_hasFeeler I8 q5 (x4 - 30)) = (0 : Int32) then (Q (-2) I8 L9) else (vp_in (x4 - 30) 6 ∧ (wpI X B8_feltBy 0 [(0, .int (I8 (h + 58) (cl (x4 - 30)))), (1, .int x3)] [] G I8 L9 (fun r18 I16 L17 => wpI X B8_talesTold 0 [(0, .ref q5), (1, .int r18)] [] G I16 L17 (fun r21 I19 L20 => Q r21 I19 L20)))))))) else (wpI X B8_feelersAt 0 [(0, .ref h), (1, .ref q5), (2, .int x3), (3, .int x4)] [] G I8 L9 (fun r29 I27 L28 => Q r29 I27 L28)))) else (Q (-2) I1 L2))))) : wpI X B8_tune 0 [(0, .ref h), (1, .int x1), (2, .int x2), (3, .int x3), (4, .int x4)] [] G I L Q := by
  refine wp_aload_n (z := 0) (i := 0) (r := (some h)) 0 (by decide +kernel) rfl rfl ?_
  refine wp_iload_n (z := 1) (i := 1) (x := x1) 1 (by decide +kernel) rfl rfl ?_
  refine wp_callV (idx := 129) (B2 := B8_wallAt) (As := [.int x1]) (a := h) (st := []) (by decide +kernel) m8_wallAt ml8_129 k8_wallAt e8_wallAt ck8 ok.1 (⟨Nat.le_of_ble_eq_true rfl, Nat.le_of_ble_eq_true rfl⟩ : rOK B8_tune B8_wallAt) rfl (Nat.le_of_ble_eq_true rfl) (Nat.le_of_ble_eq_true rfl) ⟨Nat.le_of_ble_eq_true rfl, Nat.le_of_ble_eq_true rfl⟩ rfl (wp_mono H (fun v9 M9 hq9 => ?_))
  clear H
  obtain ⟨r3, I1, L2, rfl, rfl, H⟩ := hq9
  show wp X B8_tune 5 [(0, .ref h), (1, .int x1), (2, .int x2), (3, .int x3), (4, .int x4)] [va_rf r3] (G, I1, L2) 0 0 _
  refine wp_astore (i := 5) (lv' := [(5, va_rf r3), (0, .ref h), (1, .int x1), (2, .int x2), (3, .int x3), (4, .int x4)]) (r := r3) (by decide +kernel) (by decide) (by cases r3 <;> rfl) ?_
  refine wp_aload (i := 5) (r := r3) 0 (by decide +kernel) rfl ?_
  refine wp_ifnull (off := 16) (tgt := 25) (r := r3) (by decide +kernel) (by decide) (fun c4 => ?_) (fun q5 c4 => ?_)
  · replace H := H.1 c4
    subst c4
    show wp X B8_tune 25 [(5, .null), (0, .ref h), (1, .int x1), (2, .int x2), (3, .int x3), (4, .int x4)] [] (G, I1, L2) 0 0 _
    refine wp_bipush (z := -2) (v := (-2)) (by decide +kernel) (by decide) ?_
    exact wp_iret (by decide +kernel) rfl (Nat.zero_le _) (Nat.zero_le _) ⟨_, _, _, rfl, rfl, H⟩
  · replace H := H.2 q5 c4
    subst c4
    show wp X B8_tune 12 [(5, .ref q5), (0, .ref h), (1, .int x1), (2, .int x2), (3, .int x3), (4, .int x4)] [] (G, I1, L2) 0 0 _
    refine wp_iload_n (z := 2) (i := 2) (x := x2) 3 (by decide +kernel) rfl rfl ?_
    refine wp_iload_n (z := 3) (i := 3) (x := x3) 4 (by decide +kernel) rfl rfl ?_
    refine wp_callS (idx := 257) (B2 := B8_isTune) (As := [.int x2, .int x3]) (st := []) (by decide +kernel) m8_isTune ml8_257 k8_isTune (⟨Nat.le_of_ble_eq_true rfl, Nat.le_of_ble_eq_true rfl⟩ : rOK B8_tune B8_isTune) rfl (Nat.le_of_ble_eq_true rfl) (Nat.le_of_ble_eq_true rfl) ⟨Nat.le_of_ble_eq_true rfl, Nat.le_of_ble_eq_true rfl⟩ rfl (wp_mono (b8_isTune (Q := (fun r I' L' => r = (v8_isTune x2 x3) ∧ I1 = I' ∧ L2 = L'))  ⟨rfl, rfl, rfl⟩) (fun v9 M9 hq9 => ?_))
    obtain ⟨_, _, _, rfl, rfl, rfl, rfl, rfl⟩ := hq9
    show wp X B8_tune 17 [(5, .ref q5), (0, .ref h), (1, .int x1), (2, .int x2), (3, .int x3), (4, .int x4)] [.int (v8_isTune x2 x3)] (G, I1, L2) 0 0 _
    refine wp_if_eq (off := 8) (tgt := 25) (by decide +kernel) (by decide) (fun c6 => ?_) (fun c6 => ?_)
    · rw [if_pos c6] at H
      refine wp_bipush (z := -2) (v := (-2)) (by decide +kernel) (by decide) ?_
      exact wp_iret (by decide +kernel) rfl (Nat.zero_le _) (Nat.zero_le _) ⟨_, _, _, rfl, rfl, H⟩
    · rw [if_neg c6] at H
      refine wp_iload (i := 4) (x := x4) 5 (by decide +kernel) rfl ?_
      refine wp_if_ge (off := 6) (tgt := 28) (by decide +kernel) (by decide) (fun c7 => ?_) (fun c7 => ?_)
      · rw [if_pos c7] at H
        refine wp_aload_n (z := 0) (i := 0) (r := (some h)) 1 (by decide +kernel) rfl rfl ?_
        refine wp_aload (i := 5) (r := (some q5)) 0 (by decide +kernel) rfl ?_
        refine wp_callV (idx := 261) (B2 := B8_listen) (As := [.ref q5]) (a := h) (st := []) (by decide +kernel) m8_listen ml8_261 k8_listen e8_listen ck8 ok.1 (⟨Nat.le_of_ble_eq_true rfl, Nat.le_of_ble_eq_true rfl⟩ : rOK B8_tune B8_listen) rfl (Nat.le_of_ble_eq_true rfl) (Nat.le_of_ble_eq_true rfl) ⟨Nat.le_of_ble_eq_true rfl, Nat.le_of_ble_eq_true rfl⟩ rfl (wp_mono H (fun v9 M9 hq9 => ?_))
        clear H
        obtain ⟨I8, L9, rfl, rfl, H⟩ := hq9
        show wp X B8_tune 34 [(5, .ref q5), (0, .ref h), (1, .int x1), (2, .int x2), (3, .int x3), (4, .int x4)] [] (G, I8, L9) 0 0 _
        refine wp_iload (i := 4) (x := x4) 5 (by decide +kernel) rfl ?_
        refine wp_bipush (z := 20) (v := 20) (by decide +kernel) (by decide) ?_
        refine wp_icmp_ge (off := 13) (tgt := 51) (by decide +kernel) (by decide) (fun c11 => ?_) (fun c11 => ?_)
        · rw [if_pos c11] at H
          refine wp_iload (i := 4) (x := x4) 5 (by decide +kernel) rfl ?_
          refine wp_bipush (z := 40) (v := 40) (by decide +kernel) (by decide) ?_
          refine wp_icmp_ne (off := 14) (tgt := 69) (by decide +kernel) (by decide) (fun c12 => ?_) (fun c12 => ?_)
          · rw [if_neg c12] at H
            refine wp_iload (i := 4) (x := x4) 5 (by decide +kernel) rfl ?_
            refine wp_bipush (z := 30) (v := 30) (by decide +kernel) (by decide) ?_
            refine wp_icmp_lt (off := 38) (tgt := 111) (by decide +kernel) (by decide) (fun c13 => ?_) (fun c13 => ?_)
            · rw [if_pos c13] at H
              refine wp_bipush (z := -2) (v := (-2)) (by decide +kernel) (by decide) ?_
              exact wp_iret (by decide +kernel) rfl (Nat.zero_le _) (Nat.zero_le _) ⟨_, _, _, rfl, rfl, H⟩
            · rw [if_neg c13] at H
              refine wp_aload (i := 5) (r := (some q5)) 0 (by decide +kernel) rfl ?_
              refine wp_iload (i := 4) (x := x4) 5 (by decide +kernel) rfl ?_
              refine wp_bipush (z := 30) (v := 30) (by decide +kernel) (by decide) ?_
              refine wp_isub (by decide +kernel) ?_
              obtain ⟨f14, H⟩ := H
              refine wp_callV (idx := 151) (B2 := B7_hasFeeler) (As := [.int (x4 - 30)]) (a := q5) (st := []) (by decide +kernel) m7_hasFeeler ml8_151 k7_hasFeeler e7_hasFeeler ck7 f14.1 (⟨Nat.le_of_ble_eq_true rfl, Nat.le_of_ble_eq_true rfl⟩ : rOK B8_tune B7_hasFeeler) rfl (Nat.le_of_ble_eq_true rfl) (Nat.le_of_ble_eq_true rfl) ⟨Nat.le_of_ble_eq_true rfl, Nat.le_of_ble_eq_true rfl⟩ rfl (wp_mono (b7_hasFeeler (Q := (fun r I' L' => r = (v7_hasFeeler I8 q5 (x4 - 30)) ∧ I8 = I' ∧ L9 = L')) f14 ⟨rfl, rfl, rfl⟩) (fun v9 M9 hq9 => ?_))
              obtain ⟨_, _, _, rfl, rfl, rfl, rfl, rfl⟩ := hq9
              show wp X B8_tune 86 [(5, .ref q5), (0, .ref h), (1, .int x1), (2, .int x2), (3, .int x3), (4, .int x4)] [.int (v7_hasFeeler I8 q5 (x4 - 30))] (G, I8, L9) 0 0 _
              refine wp_if_eq (off := 25) (tgt := 111) (by decide +kernel) (by decide) (fun c15 => ?_) (fun c15 => ?_)
              · rw [if_pos c15] at H
                refine wp_bipush (z := -2) (v := (-2)) (by decide +kernel) (by decide) ?_
                exact wp_iret (by decide +kernel) rfl (Nat.zero_le _) (Nat.zero_le _) ⟨_, _, _, rfl, rfl, H⟩
              · rw [if_neg c15] at H
                refine wp_aload (i := 5) (r := (some q5)) 0 (by decide +kernel) rfl ?_
                refine wp_aload_n (z := 0) (i := 0) (r := (some h)) 1 (by decide +kernel) rfl rfl ?_
                refine wp_getS (idx := 48) (q := (h + 58)) (by decide +kernel) fl8_48 rfl ok.1 (okr8_6 ok) ?_
                refine wp_iload (i := 4) (x := x4) 5 (by decide +kernel) rfl ?_
                refine wp_bipush (z := 30) (v := 30) (by decide +kernel) (by decide) ?_
                refine wp_isub (by decide +kernel) ?_
                obtain ⟨o22, H⟩ := H
                refine wp_iald (j := (cl (x4 - 30))) (by decide +kernel) (oks8_6 ok) o22 rfl ?_
                refine wp_iload_n (z := 3) (i := 3) (x := x3) 4 (by decide +kernel) rfl rfl ?_
                refine wp_callS (idx := 272) (B2 := B8_feltBy) (As := [.int (I8 (h + 58) (cl (x4 - 30))), .int x3]) (st := [.ref q5]) (by decide +kernel) m8_feltBy ml8_272 k8_feltBy (⟨Nat.le_of_ble_eq_true rfl, Nat.le_of_ble_eq_true rfl⟩ : rOK B8_tune B8_feltBy) rfl (Nat.le_of_ble_eq_true rfl) (Nat.le_of_ble_eq_true rfl) ⟨Nat.le_of_ble_eq_true rfl, Nat.le_of_ble_eq_true rfl⟩ rfl (wp_mono H (fun v9 M9 hq9 => ?_))
                clear H
                obtain ⟨r18, I16, L17, rfl, rfl, H⟩ := hq9
                show wp X B8_tune 105 [(5, .ref q5), (0, .ref h), (1, .int x1), (2, .int x2), (3, .int x3), (4, .int x4)] [.int r18, .ref q5] (G, I16, L17) 0 0 _
                refine wp_callS (idx := 275) (B2 := B8_talesTold) (As := [.ref q5, .int r18]) (st := []) (by decide +kernel) m8_talesTold ml8_275 k8_talesTold (⟨Nat.le_of_ble_eq_true rfl, Nat.le_of_ble_eq_true rfl⟩ : rOK B8_tune B8_talesTold) rfl (Nat.le_of_ble_eq_true rfl) (Nat.le_of_ble_eq_true rfl) ⟨Nat.le_of_ble_eq_true rfl, Nat.le_of_ble_eq_true rfl⟩ rfl (wp_mono H (fun v9 M9 hq9 => ?_))
                clear H
                obtain ⟨r21, I19, L20, rfl, rfl, H⟩ := hq9
                show wp X B8_tune 108 [(5, .ref q5), (0, .ref h), (1, .int x1), (2, .int x2), (3, .int x3), (4, .int x4)] [.int r21] (G, I19, L20) 0 0 _
                refine wp_goto (off := 5) (tgt := 113) (by decide +kernel) (by decide) ?_
                exact wp_iret (by decide +kernel) rfl (Nat.zero_le _) (Nat.zero_le _) ⟨_, _, _, rfl, rfl, H⟩
          · rw [if_pos c12] at H
            refine wp_aload_n (z := 0) (i := 0) (r := (some h)) 1 (by decide +kernel) rfl rfl ?_
            refine wp_getS (idx := 37) (q := (h + 24)) (by decide +kernel) fl8_37 rfl ok.1 (okr8_4 ok) ?_
            refine wp_aload (i := 5) (r := (some q5)) 0 (by decide +kernel) rfl ?_
            refine wp_iload_n (z := 3) (i := 3) (x := x3) 4 (by decide +kernel) rfl rfl ?_
            refine wp_callV (idx := 268) (B2 := B1_allForce) (As := [.ref q5, .int x3]) (a := (h + 24)) (st := []) (by decide +kernel) m1_allForce ml8_268 k1_allForce e1_allForce ck1 (oko8_4 ok).1 (⟨Nat.le_of_ble_eq_true rfl, Nat.le_of_ble_eq_true rfl⟩ : rOK B8_tune B1_allForce) rfl (Nat.le_of_ble_eq_true rfl) (Nat.le_of_ble_eq_true rfl) ⟨Nat.le_of_ble_eq_true rfl, Nat.le_of_ble_eq_true rfl⟩ rfl (wp_mono H (fun v9 M9 hq9 => ?_))
            clear H
            obtain ⟨r26, I24, L25, rfl, rfl, H⟩ := hq9
            show wp X B8_tune 68 [(5, .ref q5), (0, .ref h), (1, .int x1), (2, .int x2), (3, .int x3), (4, .int x4)] [.int r26] (G, I24, L25) 0 0 _
            exact wp_iret (by decide +kernel) rfl (Nat.zero_le _) (Nat.zero_le _) ⟨_, _, _, rfl, rfl, H⟩
        · rw [if_neg c11] at H
          refine wp_aload_n (z := 0) (i := 0) (r := (some h)) 1 (by decide +kernel) rfl rfl ?_
          refine wp_aload (i := 5) (r := (some q5)) 0 (by decide +kernel) rfl ?_
          refine wp_iload_n (z := 3) (i := 3) (x := x3) 4 (by decide +kernel) rfl rfl ?_
          refine wp_iload (i := 4) (x := x4) 5 (by decide +kernel) rfl ?_
          refine wp_callV (idx := 264) (B2 := B8_feelersAt) (As := [.ref q5, .int x3, .int x4]) (a := h) (st := []) (by decide +kernel) m8_feelersAt ml8_264 k8_feelersAt e8_feelersAt ck8 ok.1 (⟨Nat.le_of_ble_eq_true rfl, Nat.le_of_ble_eq_true rfl⟩ : rOK B8_tune B8_feelersAt) rfl (Nat.le_of_ble_eq_true rfl) (Nat.le_of_ble_eq_true rfl) ⟨Nat.le_of_ble_eq_true rfl, Nat.le_of_ble_eq_true rfl⟩ rfl (wp_mono H (fun v9 M9 hq9 => ?_))
          clear H
          obtain ⟨r29, I27, L28, rfl, rfl, H⟩ := hq9
          show wp X B8_tune 50 [(5, .ref q5), (0, .ref h), (1, .int x1), (2, .int x2), (3, .int x3), (4, .int x4)] [.int r29] (G, I27, L28) 0 0 _
          exact wp_iret (by decide +kernel) rfl (Nat.zero_le _) (Nat.zero_le _) ⟨_, _, _, rfl, rfl, H⟩
      · rw [if_neg c7] at H
        refine wp_bipush (z := -2) (v := (-2)) (by decide +kernel) (by decide) ?_
        exact wp_iret (by decide +kernel) rfl (Nat.zero_le _) (Nat.zero_le _) ⟨_, _, _, rfl, rfl, H⟩
