/-! the reading loop once more, where a wall was made -/
theorem b4_read_122w {X : XX} {G : GG} {I : Nat → Nat → Int32} {L : Nat → Nat → Int64} {h : Nat} {x4 : Int32} {x5 : Int32} {Q : GG → (Nat → Nat → Int32) → (Nat → Nat → Int64) → Prop} (ok : OK4 G h) (H : if 600 < x5 then (if (I h 2) = (0 : Int32) then (∀ r3, r3 = G.2.1 h 0 → (r3 = none → Q G I L) ∧ (∀ q5, r3 = some q5 → ∀ r6, r6 = G.2.1 h 0 → ∃ q7, r6 = some q7 ∧ (OK7 G q7 ∧ (if (v7_hasCell I q7 (I h 14)) = (0 : Int32) then (wpV X B4_note 0 [(0, .ref h), (1, .int 4), (2, .int (I h 5))] [] G I L (fun I11 L12 => Q G I11 L12)) else (Q G I L))))) else (Q G I L)) else (if x4 = (0 : Int32) then (if (I h 2) = (0 : Int32) then (∀ r17, r17 = G.2.1 h 0 → (r17 = none → Q G I L) ∧ (∀ q19, r17 = some q19 → ∀ r20, r20 = G.2.1 h 0 → ∃ q21, r20 = some q21 ∧ (OK7 G q21 ∧ (if (v7_hasCell I q21 (I h 14)) = (0 : Int32) then (wpV X B4_note 0 [(0, .ref h), (1, .int 4), (2, .int (I h 5))] [] G I L (fun I25 L26 => Q G I25 L26)) else (Q G I L))))) else (Q G I L)) else (if (I h 7) = 3 then (if (I h 2) = (0 : Int32) then (∀ r31, r31 = G.2.1 h 0 → (r31 = none → Q G I L) ∧ (∀ q33, r31 = some q33 → ∀ r34, r34 = G.2.1 h 0 → ∃ q35, r34 = some q35 ∧ (OK7 G q35 ∧ (if (v7_hasCell I q35 (I h 14)) = (0 : Int32) then (wpV X B4_note 0 [(0, .ref h), (1, .int 4), (2, .int (I h 5))] [] G I L (fun I39 L40 => Q G I39 L40)) else (Q G I L))))) else (Q G I L)) else (wpI X B4_readLine 0 [(0, .ref h)] [] G I L (fun r45 I43 L44 => wgV X B4_read 122 [(0, .ref h), (4, .int r45), (5, .int (x5 + 1))] [] G I43 L44 6 66 Q))))) : wgV X B4_read 122 [(0, .ref h), (4, .int x4), (5, .int x5)] [] G I L 6 66 Q := by
  refine wp_iload (i := 5) (x := x5) 2 (by decide +kernel) rfl ?_
  refine wp_sipush (z := 600) (v := 600) (by decide +kernel) (by decide) ?_
  refine wp_icmp_gt (off := 28) (tgt := 155) (by decide +kernel) (by decide) (fun c1 => ?_) (fun c1 => ?_)
  · rw [if_pos c1] at H
    refine wp_aload_n (z := 0) (i := 0) (r := (some h)) 0 (by decide +kernel) rfl rfl ?_
    refine wp_getI (idx := 44) (by decide +kernel) fl4_44 rfl ok.1 ?_
    refine wp_if_ne (off := 33) (tgt := 192) (by decide +kernel) (by decide) (fun c2 => ?_) (fun c2 => ?_)
    · rw [if_neg c2] at H
      exact wp_vret (by decide +kernel) rfl (Nat.le_of_ble_eq_true rfl) (Nat.le_of_ble_eq_true rfl) ⟨rfl, H⟩
    · rw [if_pos c2] at H
      refine wp_aload_n (z := 0) (i := 0) (r := (some h)) 0 (by decide +kernel) rfl rfl ?_
      refine wp_getR (idx := 31) (by decide +kernel) fl4_31 rfl ok.1 ?_
      refine wp_topr (fun r3 er3 => ?_)
      replace H := H r3 er3
      refine wp_ifnull (off := 26) (tgt := 192) (r := r3) (by decide +kernel) (by decide) (fun c4 => ?_) (fun q5 c4 => ?_)
      · replace H := H.1 c4
        subst c4
        show wp X B4_read 192 [(0, .ref h), (4, .int x4), (5, .int x5)] [] (G, I, L) 6 66 _
        exact wp_vret (by decide +kernel) rfl (Nat.le_of_ble_eq_true rfl) (Nat.le_of_ble_eq_true rfl) ⟨rfl, H⟩
      · replace H := H.2 q5 c4
        subst c4
        show wp X B4_read 169 [(0, .ref h), (4, .int x4), (5, .int x5)] [] (G, I, L) 6 66 _
        refine wp_aload_n (z := 0) (i := 0) (r := (some h)) 0 (by decide +kernel) rfl rfl ?_
        refine wp_getR (idx := 31) (by decide +kernel) fl4_31 rfl ok.1 ?_
        refine wp_topr (fun r6 er6 => ?_)
        replace H := H r6 er6
        refine wp_aload_n (z := 0) (i := 0) (r := (some h)) 0 (by decide +kernel) rfl rfl ?_
        refine wp_getI (idx := 59) (by decide +kernel) fl4_59 rfl ok.1 ?_
        obtain ⟨q7, e8, H⟩ := H
        subst e8
        show wp X B4_read 177 [(0, .ref h), (4, .int x4), (5, .int x5)] [.int (I h 14), .ref q7] (G, I, L) 6 66 _
        obtain ⟨f9, H⟩ := H
        refine wp_callV (idx := 75) (B2 := B7_hasCell) (As := [.int (I h 14)]) (a := q7) (st := []) (by decide +kernel) m7_hasCell ml4_75 k7_hasCell e7_hasCell ck7 f9.1 (⟨Nat.le_of_ble_eq_true rfl, Nat.le_of_ble_eq_true rfl⟩ : rOK B4_read B7_hasCell) rfl (Nat.le_of_ble_eq_true rfl) (Nat.le_of_ble_eq_true rfl) ⟨Nat.le_of_ble_eq_true rfl, Nat.le_of_ble_eq_true rfl⟩ rfl (wp_mono (b7_hasCell (Q := (fun r I' L' => r = (v7_hasCell I q7 (I h 14)) ∧ I = I' ∧ L = L')) f9 ⟨rfl, rfl, rfl⟩) (fun v9 M9 hq9 => ?_))
        obtain ⟨_, _, _, rfl, rfl, rfl, rfl, rfl⟩ := hq9
        show wp X B4_read 180 [(0, .ref h), (4, .int x4), (5, .int x5)] [.int (v7_hasCell I q7 (I h 14))] (G, I, L) 6 66 _
        refine wp_if_ne (off := 12) (tgt := 192) (by decide +kernel) (by decide) (fun c10 => ?_) (fun c10 => ?_)
        · rw [if_neg c10] at H
          exact wp_vret (by decide +kernel) rfl (Nat.le_of_ble_eq_true rfl) (Nat.le_of_ble_eq_true rfl) ⟨rfl, H⟩
        · rw [if_pos c10] at H
          refine wp_aload_n (z := 0) (i := 0) (r := (some h)) 0 (by decide +kernel) rfl rfl ?_
          refine wp_iconst (z := 4) (v := 4) (by decide +kernel) (by decide) ?_
          refine wp_aload_n (z := 0) (i := 0) (r := (some h)) 0 (by decide +kernel) rfl rfl ?_
          refine wp_getI (idx := 21) (by decide +kernel) fl4_21 rfl ok.1 ?_
          refine wp_callV (idx := 79) (B2 := B4_note) (As := [.int 4, .int (I h 5)]) (a := h) (st := []) (by decide +kernel) m4_note ml4_79 k4_note e4_note ck4 ok.1 (⟨Nat.le_of_ble_eq_true rfl, Nat.le_of_ble_eq_true rfl⟩ : rOK B4_read B4_note) rfl (Nat.le_of_ble_eq_true rfl) (Nat.le_of_ble_eq_true rfl) ⟨Nat.le_of_ble_eq_true rfl, Nat.le_of_ble_eq_true rfl⟩ rfl (wp_mono H (fun v9 M9 hq9 => ?_))
          clear H
          obtain ⟨I11, L12, rfl, rfl, H⟩ := hq9
          show wp X B4_read 192 [(0, .ref h), (4, .int x4), (5, .int x5)] [] (G, I11, L12) 6 66 _
          exact wp_vret (by decide +kernel) rfl (Nat.le_of_ble_eq_true rfl) (Nat.le_of_ble_eq_true rfl) ⟨rfl, H⟩
  · rw [if_neg c1] at H
    refine wp_iload (i := 4) (x := x4) 1 (by decide +kernel) rfl ?_
    refine wp_if_eq (off := 23) (tgt := 155) (by decide +kernel) (by decide) (fun c15 => ?_) (fun c15 => ?_)
    · rw [if_pos c15] at H
      refine wp_aload_n (z := 0) (i := 0) (r := (some h)) 0 (by decide +kernel) rfl rfl ?_
      refine wp_getI (idx := 44) (by decide +kernel) fl4_44 rfl ok.1 ?_
      refine wp_if_ne (off := 33) (tgt := 192) (by decide +kernel) (by decide) (fun c16 => ?_) (fun c16 => ?_)
      · rw [if_neg c16] at H
        exact wp_vret (by decide +kernel) rfl (Nat.le_of_ble_eq_true rfl) (Nat.le_of_ble_eq_true rfl) ⟨rfl, H⟩
      · rw [if_pos c16] at H
        refine wp_aload_n (z := 0) (i := 0) (r := (some h)) 0 (by decide +kernel) rfl rfl ?_
        refine wp_getR (idx := 31) (by decide +kernel) fl4_31 rfl ok.1 ?_
        refine wp_topr (fun r17 er17 => ?_)
        replace H := H r17 er17
        refine wp_ifnull (off := 26) (tgt := 192) (r := r17) (by decide +kernel) (by decide) (fun c18 => ?_) (fun q19 c18 => ?_)
        · replace H := H.1 c18
          subst c18
          show wp X B4_read 192 [(0, .ref h), (4, .int x4), (5, .int x5)] [] (G, I, L) 6 66 _
          exact wp_vret (by decide +kernel) rfl (Nat.le_of_ble_eq_true rfl) (Nat.le_of_ble_eq_true rfl) ⟨rfl, H⟩
        · replace H := H.2 q19 c18
          subst c18
          show wp X B4_read 169 [(0, .ref h), (4, .int x4), (5, .int x5)] [] (G, I, L) 6 66 _
          refine wp_aload_n (z := 0) (i := 0) (r := (some h)) 0 (by decide +kernel) rfl rfl ?_
          refine wp_getR (idx := 31) (by decide +kernel) fl4_31 rfl ok.1 ?_
          refine wp_topr (fun r20 er20 => ?_)
          replace H := H r20 er20
          refine wp_aload_n (z := 0) (i := 0) (r := (some h)) 0 (by decide +kernel) rfl rfl ?_
          refine wp_getI (idx := 59) (by decide +kernel) fl4_59 rfl ok.1 ?_
          obtain ⟨q21, e22, H⟩ := H
          subst e22
          show wp X B4_read 177 [(0, .ref h), (4, .int x4), (5, .int x5)] [.int (I h 14), .ref q21] (G, I, L) 6 66 _
          obtain ⟨f23, H⟩ := H
          refine wp_callV (idx := 75) (B2 := B7_hasCell) (As := [.int (I h 14)]) (a := q21) (st := []) (by decide +kernel) m7_hasCell ml4_75 k7_hasCell e7_hasCell ck7 f23.1 (⟨Nat.le_of_ble_eq_true rfl, Nat.le_of_ble_eq_true rfl⟩ : rOK B4_read B7_hasCell) rfl (Nat.le_of_ble_eq_true rfl) (Nat.le_of_ble_eq_true rfl) ⟨Nat.le_of_ble_eq_true rfl, Nat.le_of_ble_eq_true rfl⟩ rfl (wp_mono (b7_hasCell (Q := (fun r I' L' => r = (v7_hasCell I q21 (I h 14)) ∧ I = I' ∧ L = L')) f23 ⟨rfl, rfl, rfl⟩) (fun v9 M9 hq9 => ?_))
          obtain ⟨_, _, _, rfl, rfl, rfl, rfl, rfl⟩ := hq9
          show wp X B4_read 180 [(0, .ref h), (4, .int x4), (5, .int x5)] [.int (v7_hasCell I q21 (I h 14))] (G, I, L) 6 66 _
          refine wp_if_ne (off := 12) (tgt := 192) (by decide +kernel) (by decide) (fun c24 => ?_) (fun c24 => ?_)
          · rw [if_neg c24] at H
            exact wp_vret (by decide +kernel) rfl (Nat.le_of_ble_eq_true rfl) (Nat.le_of_ble_eq_true rfl) ⟨rfl, H⟩
          · rw [if_pos c24] at H
            refine wp_aload_n (z := 0) (i := 0) (r := (some h)) 0 (by decide +kernel) rfl rfl ?_
            refine wp_iconst (z := 4) (v := 4) (by decide +kernel) (by decide) ?_
            refine wp_aload_n (z := 0) (i := 0) (r := (some h)) 0 (by decide +kernel) rfl rfl ?_
            refine wp_getI (idx := 21) (by decide +kernel) fl4_21 rfl ok.1 ?_
            refine wp_callV (idx := 79) (B2 := B4_note) (As := [.int 4, .int (I h 5)]) (a := h) (st := []) (by decide +kernel) m4_note ml4_79 k4_note e4_note ck4 ok.1 (⟨Nat.le_of_ble_eq_true rfl, Nat.le_of_ble_eq_true rfl⟩ : rOK B4_read B4_note) rfl (Nat.le_of_ble_eq_true rfl) (Nat.le_of_ble_eq_true rfl) ⟨Nat.le_of_ble_eq_true rfl, Nat.le_of_ble_eq_true rfl⟩ rfl (wp_mono H (fun v9 M9 hq9 => ?_))
            clear H
            obtain ⟨I25, L26, rfl, rfl, H⟩ := hq9
            show wp X B4_read 192 [(0, .ref h), (4, .int x4), (5, .int x5)] [] (G, I25, L26) 6 66 _
            exact wp_vret (by decide +kernel) rfl (Nat.le_of_ble_eq_true rfl) (Nat.le_of_ble_eq_true rfl) ⟨rfl, H⟩
    · rw [if_neg c15] at H
      refine wp_aload_n (z := 0) (i := 0) (r := (some h)) 0 (by decide +kernel) rfl rfl ?_
      refine wp_getI (idx := 68) (by decide +kernel) fl4_68 rfl ok.1 ?_
      refine wp_iconst (z := 3) (v := 3) (by decide +kernel) (by decide) ?_
      refine wp_icmp_eq (off := 15) (tgt := 155) (by decide +kernel) (by decide) (fun c29 => ?_) (fun c29 => ?_)
      · rw [if_pos c29] at H
        refine wp_aload_n (z := 0) (i := 0) (r := (some h)) 0 (by decide +kernel) rfl rfl ?_
        refine wp_getI (idx := 44) (by decide +kernel) fl4_44 rfl ok.1 ?_
        refine wp_if_ne (off := 33) (tgt := 192) (by decide +kernel) (by decide) (fun c30 => ?_) (fun c30 => ?_)
        · rw [if_neg c30] at H
          exact wp_vret (by decide +kernel) rfl (Nat.le_of_ble_eq_true rfl) (Nat.le_of_ble_eq_true rfl) ⟨rfl, H⟩
        · rw [if_pos c30] at H
          refine wp_aload_n (z := 0) (i := 0) (r := (some h)) 0 (by decide +kernel) rfl rfl ?_
          refine wp_getR (idx := 31) (by decide +kernel) fl4_31 rfl ok.1 ?_
          refine wp_topr (fun r31 er31 => ?_)
          replace H := H r31 er31
          refine wp_ifnull (off := 26) (tgt := 192) (r := r31) (by decide +kernel) (by decide) (fun c32 => ?_) (fun q33 c32 => ?_)
          · replace H := H.1 c32
            subst c32
            show wp X B4_read 192 [(0, .ref h), (4, .int x4), (5, .int x5)] [] (G, I, L) 6 66 _
            exact wp_vret (by decide +kernel) rfl (Nat.le_of_ble_eq_true rfl) (Nat.le_of_ble_eq_true rfl) ⟨rfl, H⟩
          · replace H := H.2 q33 c32
            subst c32
            show wp X B4_read 169 [(0, .ref h), (4, .int x4), (5, .int x5)] [] (G, I, L) 6 66 _
            refine wp_aload_n (z := 0) (i := 0) (r := (some h)) 0 (by decide +kernel) rfl rfl ?_
            refine wp_getR (idx := 31) (by decide +kernel) fl4_31 rfl ok.1 ?_
            refine wp_topr (fun r34 er34 => ?_)
            replace H := H r34 er34
            refine wp_aload_n (z := 0) (i := 0) (r := (some h)) 0 (by decide +kernel) rfl rfl ?_
            refine wp_getI (idx := 59) (by decide +kernel) fl4_59 rfl ok.1 ?_
            obtain ⟨q35, e36, H⟩ := H
            subst e36
            show wp X B4_read 177 [(0, .ref h), (4, .int x4), (5, .int x5)] [.int (I h 14), .ref q35] (G, I, L) 6 66 _
            obtain ⟨f37, H⟩ := H
            refine wp_callV (idx := 75) (B2 := B7_hasCell) (As := [.int (I h 14)]) (a := q35) (st := []) (by decide +kernel) m7_hasCell ml4_75 k7_hasCell e7_hasCell ck7 f37.1 (⟨Nat.le_of_ble_eq_true rfl, Nat.le_of_ble_eq_true rfl⟩ : rOK B4_read B7_hasCell) rfl (Nat.le_of_ble_eq_true rfl) (Nat.le_of_ble_eq_true rfl) ⟨Nat.le_of_ble_eq_true rfl, Nat.le_of_ble_eq_true rfl⟩ rfl (wp_mono (b7_hasCell (Q := (fun r I' L' => r = (v7_hasCell I q35 (I h 14)) ∧ I = I' ∧ L = L')) f37 ⟨rfl, rfl, rfl⟩) (fun v9 M9 hq9 => ?_))
            obtain ⟨_, _, _, rfl, rfl, rfl, rfl, rfl⟩ := hq9
            show wp X B4_read 180 [(0, .ref h), (4, .int x4), (5, .int x5)] [.int (v7_hasCell I q35 (I h 14))] (G, I, L) 6 66 _
            refine wp_if_ne (off := 12) (tgt := 192) (by decide +kernel) (by decide) (fun c38 => ?_) (fun c38 => ?_)
            · rw [if_neg c38] at H
              exact wp_vret (by decide +kernel) rfl (Nat.le_of_ble_eq_true rfl) (Nat.le_of_ble_eq_true rfl) ⟨rfl, H⟩
            · rw [if_pos c38] at H
              refine wp_aload_n (z := 0) (i := 0) (r := (some h)) 0 (by decide +kernel) rfl rfl ?_
              refine wp_iconst (z := 4) (v := 4) (by decide +kernel) (by decide) ?_
              refine wp_aload_n (z := 0) (i := 0) (r := (some h)) 0 (by decide +kernel) rfl rfl ?_
              refine wp_getI (idx := 21) (by decide +kernel) fl4_21 rfl ok.1 ?_
              refine wp_callV (idx := 79) (B2 := B4_note) (As := [.int 4, .int (I h 5)]) (a := h) (st := []) (by decide +kernel) m4_note ml4_79 k4_note e4_note ck4 ok.1 (⟨Nat.le_of_ble_eq_true rfl, Nat.le_of_ble_eq_true rfl⟩ : rOK B4_read B4_note) rfl (Nat.le_of_ble_eq_true rfl) (Nat.le_of_ble_eq_true rfl) ⟨Nat.le_of_ble_eq_true rfl, Nat.le_of_ble_eq_true rfl⟩ rfl (wp_mono H (fun v9 M9 hq9 => ?_))
              clear H
              obtain ⟨I39, L40, rfl, rfl, H⟩ := hq9
              show wp X B4_read 192 [(0, .ref h), (4, .int x4), (5, .int x5)] [] (G, I39, L40) 6 66 _
              exact wp_vret (by decide +kernel) rfl (Nat.le_of_ble_eq_true rfl) (Nat.le_of_ble_eq_true rfl) ⟨rfl, H⟩
      · rw [if_neg c29] at H
        refine wp_aload_n (z := 0) (i := 0) (r := (some h)) 0 (by decide +kernel) rfl rfl ?_
        refine wp_callV (idx := 71) (B2 := B4_readLine) (As := []) (a := h) (st := []) (by decide +kernel) m4_readLine ml4_71 k4_readLine e4_readLine ck4 ok.1 (⟨Nat.le_of_ble_eq_true rfl, Nat.le_of_ble_eq_true rfl⟩ : rOK B4_read B4_readLine) rfl (Nat.le_of_ble_eq_true rfl) (Nat.le_of_ble_eq_true rfl) ⟨Nat.le_of_ble_eq_true rfl, Nat.le_of_ble_eq_true rfl⟩ rfl (wp_mono H (fun v9 M9 hq9 => ?_))
        clear H
        obtain ⟨r45, I43, L44, rfl, rfl, H⟩ := hq9
        show wp X B4_read 147 [(0, .ref h), (4, .int x4), (5, .int x5)] [.int r45] (G, I43, L44) 6 66 _
        refine wp_istore (i := 4) (lv' := [(4, .int r45), (0, .ref h), (5, .int x5)]) (by decide +kernel) (by decide) rfl ?_
        refine wp_iinc (i := 5) (z := 1) (v := 1) (lv' := [(5, .int (x5 + 1)), (4, .int r45), (0, .ref h)]) 2 (by decide +kernel) rfl (by decide) (by decide) rfl ?_
        refine wp_goto (off := -30) (tgt := 122) (by decide +kernel) (by decide) ?_
        exact wp_sub [2, 1, 0] rfl H
